/-! ===== what the days depend on ===== -/
def bw (b : BB) (j i : Nat) (v : Int) : BB := fun a c => if a = j ∧ c = i then v else b a c
theorem bw_at (b : BB) (j i : Nat) (v : Int) (a c : Nat) : bw b j i v a c = if a = j ∧ c = i then v else b a c := rfl
/-- b' is as b in all that the days hang on -/
def RB (b b' : BB) : Prop := b' 0 1 = b 0 1 ∧ b' 1 = b 1 ∧ b' 0 4 = b 0 4 ∧ b' 0 5 = b 0 5 ∧ b' 7 = b 7 ∧ b' 8 = b 8 ∧ b' 9 = b 9 ∧ b' 0 9 = b 0 9 ∧ b' 11 = b 11 ∧ b' 12 = b 12
theorem RB.rf (b : BB) : RB b b := ⟨rfl, rfl, rfl, rfl, rfl, rfl, rfl, rfl, rfl, rfl⟩
theorem RB.tr {b b1 b2 : BB} (h : RB b b1) (h2 : RB b1 b2) : RB b b2 := ⟨h2.1.trans h.1, h2.2.1.trans h.2.1, h2.2.2.1.trans h.2.2.1, h2.2.2.2.1.trans h.2.2.2.1, h2.2.2.2.2.1.trans h.2.2.2.2.1, h2.2.2.2.2.2.1.trans h.2.2.2.2.2.1, h2.2.2.2.2.2.2.1.trans h.2.2.2.2.2.2.1, h2.2.2.2.2.2.2.2.1.trans h.2.2.2.2.2.2.2.1, h2.2.2.2.2.2.2.2.2.1.trans h.2.2.2.2.2.2.2.2.1, h2.2.2.2.2.2.2.2.2.2.trans h.2.2.2.2.2.2.2.2.2⟩
theorem RB.n {b b' : BB} (h : RB b b') : bn b' = bn b := by unfold bn; rw [h.1]
theorem RB.N {b b' : BB} (h : RB b b') : bN b' = bN b := by unfold bN; rw [h.n, h.2.1]
theorem RB.W {b b' : BB} (h : RB b b') : bW b' = bW b := by funext w j; unfold bW; rw [h.n, h.2.1]
theorem RB.Ok {b b' : BB} (h : RB b b') (w : Nat) (s : SS) : ∀ m, sOk b' w s m = sOk b w s m
  | 0 => rfl
  | m + 1 => by unfold sOk; rw [h.Ok w s m, h.2.2.2.2.2.2.1]
theorem RB.Due {b b' : BB} (h : RB b b') (d : Int) : sDue b' d = sDue b d := by
  funext w s
  unfold sDue sPay sMay
  rw [h.W, h.N, h.Ok]
theorem RB.For {b b' : BB} (h : RB b b') (d but : Int) : sFor b' d but = sFor b d but := by
  funext k s
  unfold sFor
  rw [h.2.2.2.2.2.2.2.2.1, h.2.2.2.2.2.2.2.2.2]
theorem RB.Lap {b b' : BB} (h : RB b b') (d : Int) : sLap b' d = sLap b d := by
  funext w s
  unfold sLap
  rw [h.W]
theorem RB.Wait {b b' : BB} (h : RB b b') (d : Int) (s : SS) : sWait b' d s = sWait b d s := by
  funext w
  unfold sWait
  rw [h.W]
theorem RB.Best {b b' : BB} (h : RB b b') (law : Int) (s : SS) (wt : Nat → Bool) : ∀ m, sBest b' law s wt m = sBest b law s wt m
  | 0 => rfl
  | m + 1 => by
    have : sAhead b' law s = sAhead b law s := by funext x y; unfold sAhead; rw [h.W]
    unfold sBest
    rw [h.Best law s wt m, this]
theorem RB.Mk {b b' : BB} (h : RB b b') (law slots d : Int) : ∀ m s, sMk b' law slots d m s = sMk b law slots d m s
  | 0, s => rfl
  | m + 1, s => by
    unfold sMk
    rw [h.Best, h.N, h.Wait]
    split
    · rfl
    · rw [h.Mk law slots d m]
theorem RB.Run {b b' : BB} (h : RB b b') (law slots but : Int) : ∀ m, sRun b' law slots but m = sRun b law slots but m
  | 0 => by
    show sS0 b' = sS0 b
    unfold sS0
    rw [h.2.2.2.2.1, h.2.2.2.2.2.1]
  | m + 1 => by
    show sDay b' law slots but (m : Int) (sRun b' law slots but m) = sDay b law slots but (m : Int) (sRun b law slots but m)
    rw [h.Run law slots but m]
    unfold sDay
    rw [h.Mk, h.Lap, h.For, h.Due, h.N, h.2.2.2.2.2.2.2.1]
theorem RB.K {b b' : BB} (h : RB b b') {g : SG} {o : Nat} {law slots but : Int} {k : Nat} (hK : XK g o b law slots but k) : XK g o b' law slots but k := by
  unfold XK XC at hK ⊢
  rw [h.Run, h.N, h.Wait]
  exact hK
theorem RB.xn {b b' : BB} (h : RB b b') {g g' : SG} (h5 : g' 5 = g 5) (h0 : g' 0 0 7 = g 0 0 7) (hN : XN g b) : XN g' b' := by
  have e1 : bLaw b' = bLaw b := h.2.2.2.1
  have e2 : bSl b' = bSl b := h.2.2.1
  unfold XN at hN ⊢
  rw [h0, e1, e2]
  rcases hN with h1 | ⟨h1, k, h2, h3⟩
  · exact Or.inl h1
  · exact Or.inr ⟨h1, k, h2, h.K (XK_cg h5 h3)⟩
theorem RB.w {b : BB} {j i : Nat} {v : Int} (hj : j ≠ 1 ∧ j ≠ 7 ∧ j ≠ 8 ∧ j ≠ 9 ∧ j ≠ 11 ∧ j ≠ 12 ∧ (j = 0 → i ≠ 1 ∧ i ≠ 4 ∧ i ≠ 5 ∧ i ≠ 9)) : RB b (bw b j i v) := by
  have f0 : ∀ k, (j = 0 → i ≠ k) → bw b j i v 0 k = b 0 k := fun k hk => by rw [bw_at, if_neg]; rintro ⟨rfl, rfl⟩; exact hk rfl rfl
  have f1 : ∀ a, j ≠ a → bw b j i v a = b a := fun a ha => by funext c; rw [bw_at, if_neg]; rintro ⟨rfl, -⟩; exact ha rfl
  obtain ⟨h1, h2, h3, h4, h5, h6, h7⟩ := hj
  exact ⟨f0 _ (fun z => (h7 z).1), f1 _ h1, f0 _ (fun z => (h7 z).2.1), f0 _ (fun z => (h7 z).2.2.1), f1 _ h2, f1 _ h3, f1 _ h4, f0 _ (fun z => (h7 z).2.2.2), f1 _ h5, f1 _ h6⟩
/-- what a call may change: the class's own, the reference's own -/
def XFr (g g' : SG) : Prop := ∀ a, 12 ≤ a → g' a = g a
def MFr (g g' : SG) : Prop := ∀ a, a ≠ 12 → g' a = g a
theorem XFS.Fr {g g' : SG} (h : XFS g g') : XFr g g' := fun a ha => h.1 a (by omega) (by omega) (by omega) (by omega)
theorem XFr.rf (g : SG) : XFr g g := fun _ _ => rfl
theorem XFr.tr {g g1 g2 : SG} (h : XFr g g1) (h2 : XFr g1 g2) : XFr g g2 := fun a ha => (h2 a ha).trans (h a ha)
theorem XFr.wr {g g1 : SG} (h : XFr g g1) (o j i : Nat) (v : Int32) (ho : o < 12) : XFr g (wr g1 o j i v) := by
  intro a ha
  rw [← h a ha]; funext b c; rw [wr_at, if_neg]; rintro ⟨rfl, -⟩; omega
theorem MFr.rf (g : SG) : MFr g g := fun _ _ => rfl
theorem MFr.tr {g g1 g2 : SG} (h : MFr g g1) (h2 : MFr g1 g2) : MFr g g2 := fun a ha => (h2 a ha).trans (h a ha)
theorem MFr.wr {g g1 : SG} (h : MFr g g1) (j i : Nat) (v : Int32) : MFr g (wr g1 12 j i v) := by
  intro a ha
  rw [← h a ha]; funext b c; rw [wr_at, if_neg]; rintro ⟨rfl, -⟩; exact ha rfl
/-- what there is at each call -/
def CI (g : SG) (b : BB) : Prop := BV b ∧ XI g b ∧ MB g b ∧ DG g
/-- the class and the reference answer alike -/
def AGR (D kx km : Nat) (as : List AV) : Prop := ∀ g b, CI g b → ∃ r g1 g2 b', am_cl D kx (.inr (.inr (some (0, 0))) :: as) g = some (some r, g1) ∧ am_cl D km (.inr (.inr (some (12, 0))) :: as) g1 = some (some r, g2) ∧ CI g2 b' ∧ g2 14 = g 14
theorem MB_cg {g g' : SG} {b : BB} (h : g' 12 = g 12) (hB : MB g b) : MB g' b := by
  unfold MB MT MA at hB ⊢
  rw [h]; exact hB
theorem XI_cg {g g' : SG} {b : BB} (h : ∀ a, a < 12 → g' a = g a) (hI : XI g b) : XI g' b := by
  obtain ⟨hB, hN⟩ := hI
  refine ⟨?_, (RB.rf b).xn (h 5 (by omega)) (by rw [h 0 (by omega)]) hN⟩
  unfold XB WOK TX at hB ⊢
  rw [h 1 (by omega), h 2 (by omega), h 3 (by omega), h 4 (by omega), h 0 (by omega)]
  obtain ⟨b1, b2, b3, b4, b5, b6, b7, b8, b9, b10, b11⟩ := hB
  refine ⟨b1, b2, b3, b4, b5, b6, b7, b8, b9, fun s hs => ?_, b11⟩
  rw [h (8 + s) (by omega)]
  exact b10 s hs
theorem agr_mk {D kx km : Nat} {as : List AV} (h : ∀ g b, CI g b → ∃ r b', BV b' ∧ (∃ g1, am_cl D kx (.inr (.inr (some (0, 0))) :: as) g = some (some r, g1) ∧ XI g1 b' ∧ XFr g g1) ∧ ∀ g1, MB g1 b → ∃ g2, am_cl D km (.inr (.inr (some (12, 0))) :: as) g1 = some (some r, g2) ∧ MB g2 b' ∧ MFr g1 g2) : AGR D kx km as := by
  intro g b hC
  obtain ⟨r, b', hb', ⟨g1, x1, x2, x3⟩, hM⟩ := h g b hC
  obtain ⟨g2, y1, y2, y3⟩ := hM g1 (MB_cg (x3 12 (by omega)) hC.2.2.1)
  refine ⟨r, g1, g2, b', x1, y1, ⟨hb', XI_cg (fun a ha => y3 a (by omega)) x2, y2, ?_⟩, ?_⟩
  · have : g2 13 = g 13 := (y3 13 (by omega)).trans (x3 13 (by omega))
    have hD := hC.2.2.2
    unfold DG at hD ⊢
    rw [this]; exact hD
  · exact (y3 14 (by omega)).trans (x3 14 (by omega))
/-- readers -/
theorem agr_rd {D kx km : Nat} {as : List AV} (v : BB → AV) (hx : ∀ g b, BV b → XI g b → DG g → XRd D kx (.inr (.inr (some (0, 0))) :: as) g b (v b)) (hm : ∀ g b, BV b → MB g b → MRd D km (.inr (.inr (some (12, 0))) :: as) g b (v b)) : AGR D kx km as := by
  refine agr_mk (fun g b hC => ⟨v b, b, hC.1, ?_, fun g1 hB => ?_⟩)
  · obtain ⟨g', x1, x2, x3⟩ := hx g b hC.1 hC.2.1 hC.2.2.2
    exact ⟨g', x1, x2, x3.Fr⟩
  · obtain ⟨g', x1, x2, x3, x4⟩ := hm g1 b hC.1 hB
    exact ⟨g', x1, x2, x3.1⟩
