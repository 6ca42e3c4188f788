/-! ===== what the acts do to what is common ===== -/
def BR (j i : Nat) (v : Int) : Prop := (j = 0 ∧ i = 1 → 0 ≤ v ∧ v ≤ 80) ∧ (j = 1 → 0 ≤ v ∧ v ≤ 255) ∧ (j = 0 ∧ i = 4 → 1 ≤ v ∧ v ≤ 9) ∧ (j = 0 ∧ i = 5 → 0 ≤ v ∧ v ≤ 3) ∧ (j = 7 → 0 ≤ v ∧ v ≤ 9) ∧ (j = 8 → 0 ≤ v ∧ v ≤ 99) ∧ (j = 9 → 0 ≤ v ∧ v < 1024) ∧ (j = 0 ∧ i = 9 → 0 ≤ v ∧ v ≤ 8) ∧ (j = 11 → 0 ≤ v ∧ v ≤ 99) ∧ (j = 12 → 0 ≤ v ∧ v ≤ 9) ∧ (j = 0 ∧ i = 20 → 0 ≤ v ∧ v ≤ 8) ∧ (j = 22 → 0 ≤ v ∧ v ≤ 99) ∧ (j = 23 → 0 ≤ v ∧ v ≤ 9) ∧ (j = 24 → 0 ≤ v ∧ v ≤ 1) ∧ (j = 26 → 0 ≤ v ∧ v ≤ 1) ∧ (j = 27 → 0 ≤ v ∧ v ≤ 2) ∧ (j = 28 → 0 ≤ v ∧ v ≤ 48) ∧ (j = 29 → -2147483648 ≤ v ∧ v < 2147483648) ∧ (j = 0 ∧ i = 30 → 0 ≤ v ∧ v ≤ 5)
theorem BV.w {b : BB} (hb : BV b) {j i : Nat} {v : Int} (h : BR j i v) : BV (bw b j i v) := by
  obtain ⟨h1, h2, h3, h4, h5, h6, h7, h8, h9, h10, h11, h12, h13, h14, h15, h16, h17, h18, h19⟩ := hb
  obtain ⟨r1, r2, r3, r4, r5, r6, r7, r8, r9, r10, r11, r12, r13, r14, r15, r16, r17, r18, r19⟩ := h
  have f : ∀ (a c : Nat) {lo hi : Int}, (lo ≤ b a c ∧ b a c ≤ hi) → (j = a ∧ i = c → lo ≤ v ∧ v ≤ hi) → lo ≤ bw b j i v a c ∧ bw b j i v a c ≤ hi := by
    intro a c lo hi p1 p2
    rw [bw_at]
    split
    · next z => exact p2 ⟨z.1.symm, z.2.symm⟩
    · exact p1
  have f' : ∀ (a c : Nat) {lo hi : Int}, (lo ≤ b a c ∧ b a c < hi) → (j = a ∧ i = c → lo ≤ v ∧ v < hi) → lo ≤ bw b j i v a c ∧ bw b j i v a c < hi := by
    intro a c lo hi p1 p2
    rw [bw_at]
    split
    · next z => exact p2 ⟨z.1.symm, z.2.symm⟩
    · exact p1
  exact ⟨f 0 1 h1 r1, fun k => f 1 k (h2 k) (fun z => r2 z.1), f 0 4 h3 r3, f 0 5 h4 r4, fun k => f 7 k (h5 k) (fun z => r5 z.1), fun k => f 8 k (h6 k) (fun z => r6 z.1), fun k => f' 9 k (h7 k) (fun z => r7 z.1), f 0 9 h8 r8, fun k => f 11 k (h9 k) (fun z => r9 z.1), fun k => f 12 k (h10 k) (fun z => r10 z.1), f 0 20 h11 r11, fun k => f 22 k (h12 k) (fun z => r12 z.1), fun k => f 23 k (h13 k) (fun z => r13 z.1), fun k => f 24 k (h14 k) (fun z => r14 z.1), fun k => f 26 k (h15 k) (fun z => r15 z.1), fun k => f 27 k (h16 k) (fun z => r16 z.1), fun k => f 28 k (h17 k) (fun z => r17 z.1), fun k => f' 29 k (h18 k) (fun z => r18 z.1), f 0 30 h19 r19⟩
theorem wb {g : SG} {b : BB} {j i : Nat} {v : Int} {a c : Nat} (h : g 12 a c = iI (b a c)) : wr g 12 j i (iI v) 12 a c = iI (bw b j i v a c) := by
  rw [wr_at, bw_at]
  by_cases e : a = j ∧ c = i
  · rw [if_pos ⟨rfl, e⟩, if_pos e]
  · rw [if_neg (fun z => e z.2), if_neg e]; exact h
theorem bw_ne {b : BB} {j i : Nat} {v : Int} {a c : Nat} (h : ¬ (a = j ∧ c = i)) : bw b j i v a c = b a c := by rw [bw_at, if_neg h]
theorem wr_ne {g : SG} {o j i : Nat} {v : Int32} {a b c : Nat} (h : ¬ (a = o ∧ b = j ∧ c = i)) : wr g o j i v a b c = g a b c := by rw [wr_at, if_neg h]
theorem MB.w {g : SG} {b : BB} (hb : BV b) (hB : MB g b) {j i : Nat} {v : Int} (hj : j = 0 → i ≠ 1 ∧ i ≠ 9 ∧ i ≠ 20) (hv : BR j i v) : MB (wr g 12 j i (iI v)) (bw b j i v) := by
  obtain ⟨⟨a1, a2, a3⟩, b1, b2, b3, b4, b5, b6, b7, b8, b9, b10, b11⟩ := hB
  have e1 : bw b j i v 0 1 = b 0 1 := bw_ne (fun z => (hj z.1.symm).1 z.2.symm)
  have e9 : bw b j i v 0 9 = b 0 9 := bw_ne (fun z => (hj z.1.symm).2.1 z.2.symm)
  have e20 : bw b j i v 0 20 = b 0 20 := bw_ne (fun z => (hj z.1.symm).2.2 z.2.symm)
  have en : bn (bw b j i v) = bn b := by unfold bn; rw [e1]
  have hb' := hb.w hv
  refine ⟨⟨?_, ?_, ?_⟩, wb b1, wb b2, fun p hp => ⟨wb (b3 p hp).1, wb (b3 p hp).2⟩, fun w hw => wb (b4 w hw), wb b5, ?_, wb b7, ?_, fun s hs => ⟨wb (b9 s hs).1, wb (b9 s hs).2.1, wb (b9 s hs).2.2⟩, fun i hi => wb (b10 i hi), wb b11⟩
  · rw [en, wr_ne (fun z => (hj z.2.1.symm).1 z.2.2.symm)]; exact a1
  · rw [en]; exact a2
  · rw [en]; exact fun k hk => ⟨wb (a3 k hk).1, hb'.2.1 k⟩
  · rw [e9]; exact fun k hk => ⟨wb (b6 k hk).1, wb (b6 k hk).2⟩
  · rw [e20]; exact fun k hk => ⟨wb (b8 k hk).1, wb (b8 k hk).2.1, wb (b8 k hk).2.2⟩
theorem MB.c1 {g : SG} {b : BB} (hb : BV b) (hB : MB g b) (m : Int) (hm : 0 ≤ m ∧ m ≤ 80) (hk : ∀ k, k < m.toNat → g 12 1 k = iI (b 1 k)) : MB (wr g 12 0 1 (iI m)) (bw b 0 1 m) := by
  obtain ⟨⟨a1, a2, a3⟩, b1, b2, b3, b4, b5, b6, b7, b8, b9, b10, b11⟩ := hB
  have e1 : bw b 0 1 m 0 1 = m := by rw [bw_at, if_pos ⟨rfl, rfl⟩]
  have e9 : bw b 0 1 m 0 9 = b 0 9 := bw_ne (by omega)
  have e20 : bw b 0 1 m 0 20 = b 0 20 := bw_ne (by omega)
  have en : bn (bw b 0 1 m) = m.toNat := by unfold bn; rw [e1]
  have hb' : BV (bw b 0 1 m) := hb.w (by unfold BR; omega)
  refine ⟨⟨?_, ?_, ?_⟩, wb b1, wb b2, fun p hp => ⟨wb (b3 p hp).1, wb (b3 p hp).2⟩, fun w hw => wb (b4 w hw), wb b5, ?_, wb b7, ?_, fun s hs => ⟨wb (b9 s hs).1, wb (b9 s hs).2.1, wb (b9 s hs).2.2⟩, fun i hi => wb (b10 i hi), wb b11⟩
  · rw [en, wr_at, if_pos ⟨rfl, rfl, rfl⟩, Int.toNat_of_nonneg hm.1]
  · rw [en]; omega
  · rw [en]; exact fun k h => ⟨wb (hk k h), hb'.2.1 k⟩
  · rw [e9]; exact fun k hk => ⟨wb (b6 k hk).1, wb (b6 k hk).2⟩
  · rw [e20]; exact fun k hk => ⟨wb (b8 k hk).1, wb (b8 k hk).2.1, wb (b8 k hk).2.2⟩
theorem MB.c9 {g : SG} {b : BB} (hb : BV b) (hB : MB g b) (m : Int) (hm : 0 ≤ m ∧ m ≤ 8) (hk : ∀ k, k < m.toNat → g 12 11 k = iI (b 11 k) ∧ g 12 12 k = iI (b 12 k)) : MB (wr g 12 0 9 (iI m)) (bw b 0 9 m) := by
  obtain ⟨⟨a1, a2, a3⟩, b1, b2, b3, b4, b5, b6, b7, b8, b9, b10, b11⟩ := hB
  have e1 : bw b 0 9 m 0 1 = b 0 1 := bw_ne (by omega)
  have e9 : bw b 0 9 m 0 9 = m := by rw [bw_at, if_pos ⟨rfl, rfl⟩]
  have e20 : bw b 0 9 m 0 20 = b 0 20 := bw_ne (by omega)
  have en : bn (bw b 0 9 m) = bn b := by unfold bn; rw [e1]
  have hb' : BV (bw b 0 9 m) := hb.w (by unfold BR; omega)
  refine ⟨⟨?_, ?_, ?_⟩, wb b1, wb b2, fun p hp => ⟨wb (b3 p hp).1, wb (b3 p hp).2⟩, fun w hw => wb (b4 w hw), wb b5, ?_, wb b7, ?_, fun s hs => ⟨wb (b9 s hs).1, wb (b9 s hs).2.1, wb (b9 s hs).2.2⟩, fun i hi => wb (b10 i hi), wb b11⟩
  · rw [en, wr_ne (by omega)]; exact a1
  · rw [en]; exact a2
  · rw [en]; exact fun k hk => ⟨wb (a3 k hk).1, hb'.2.1 k⟩
  · rw [e9]; exact fun k h => ⟨wb (hk k h).1, wb (hk k h).2⟩
  · rw [e20]; exact fun k hk => ⟨wb (b8 k hk).1, wb (b8 k hk).2.1, wb (b8 k hk).2.2⟩
theorem MB.c20 {g : SG} {b : BB} (hb : BV b) (hB : MB g b) (m : Int) (hm : 0 ≤ m ∧ m ≤ 8) (hk : ∀ k, k < m.toNat → g 12 22 k = iI (b 22 k) ∧ g 12 23 k = iI (b 23 k) ∧ g 12 24 k = iI (b 24 k)) : MB (wr g 12 0 20 (iI m)) (bw b 0 20 m) := by
  obtain ⟨⟨a1, a2, a3⟩, b1, b2, b3, b4, b5, b6, b7, b8, b9, b10, b11⟩ := hB
  have e1 : bw b 0 20 m 0 1 = b 0 1 := bw_ne (by omega)
  have e9 : bw b 0 20 m 0 9 = b 0 9 := bw_ne (by omega)
  have e20 : bw b 0 20 m 0 20 = m := by rw [bw_at, if_pos ⟨rfl, rfl⟩]
  have en : bn (bw b 0 20 m) = bn b := by unfold bn; rw [e1]
  have hb' : BV (bw b 0 20 m) := hb.w (by unfold BR; omega)
  refine ⟨⟨?_, ?_, ?_⟩, wb b1, wb b2, fun p hp => ⟨wb (b3 p hp).1, wb (b3 p hp).2⟩, fun w hw => wb (b4 w hw), wb b5, ?_, wb b7, ?_, fun s hs => ⟨wb (b9 s hs).1, wb (b9 s hs).2.1, wb (b9 s hs).2.2⟩, fun i hi => wb (b10 i hi), wb b11⟩
  · rw [en, wr_ne (by omega)]; exact a1
  · rw [en]; exact a2
  · rw [en]; exact fun k hk => ⟨wb (a3 k hk).1, hb'.2.1 k⟩
  · rw [e9]; exact fun k hk => ⟨wb (b6 k hk).1, wb (b6 k hk).2⟩
  · rw [e20]; exact fun k h => ⟨wb (hk k h).1, wb (hk k h).2.1, wb (hk k h).2.2⟩
/-! the class's side -/
theorem wr_row {g : SG} {o j i : Nat} {v : Int32} {a : Nat} (h : a ≠ o) : wr g o j i v a = g a := by
  funext b c; rw [wr_ne (fun z => h z.1)]
theorem bw_row {b : BB} {j i : Nat} {v : Int} {a : Nat} (h : a ≠ j) : bw b j i v a = b a := by
  funext c; rw [bw_ne (fun z => h z.1)]
theorem bw_eq {b : BB} {j i : Nat} {v : Int} : bw b j i v j i = v := by rw [bw_at, if_pos ⟨rfl, rfl⟩]
theorem wr_eq {g : SG} {o j i : Nat} {v : Int32} : wr g o j i v o j i = v := by rw [wr_at, if_pos ⟨rfl, rfl, rfl⟩]
theorem WOK_cg {g g' : SG} {t : Nat → Int} {n : Nat} (h : g' 1 = g 1) (hW : WOK g t n) : WOK g' t n := by
  unfold WOK TX at hW ⊢
  rw [h]; exact hW
/-- what does not touch what is common -/
theorem XB.fr {g g' : SG} {b : BB} (hB : XB g b) (h : ∀ a, (1 ≤ a ∧ a ≤ 4) ∨ (8 ≤ a ∧ a ≤ 11) → g' a = g a) (h0 : g' 0 0 8 = g 0 0 8) : XB g' b := by
  obtain ⟨b1, b2, b3, b4, b5, b6, b7, b8, b9, b10, b11⟩ := hB
  refine ⟨WOK_cg (h 1 (by omega)) b1, ?_, ?_, ?_, ?_, ?_, ?_, ?_, ?_, fun s hs => ?_, ?_⟩
  · rw [h 2 (by omega)]; exact b2
  · rw [h 2 (by omega)]; exact b3
  · rw [h 2 (by omega)]; exact b4
  · rw [h 2 (by omega)]; exact b5
  · rw [h 4 (by omega)]; exact b6
  · rw [h 4 (by omega)]; exact b7
  · rw [h 3 (by omega)]; exact b8
  · rw [h 3 (by omega)]; exact b9
  · rw [h (8 + s) (by omega)]; exact b10 s hs
  · exact h0.trans b11
/-- b and b' are alike but at some places that the class keeps in object 2, 3, 4 or as the finding -/
theorem XB.to {g g' : SG} {b b' : BB} (hB : XB g b) (h1 : g' 1 = g 1) (hs : ∀ s, s < 4 → g' (8 + s) = g (8 + s)) (c1 : b' 1 = b 1) (c2 : b' 0 1 = b 0 1) (c3 : b' 26 = b 26) (c4 : b' 27 = b 27) (c5 : b' 28 = b 28) (c6 : b' 29 = b 29)
    (d2 : g' 2 0 0 = iI (b' 0 4)) (d3 : g' 2 0 1 = iI (b' 0 5)) (d4 : ∀ p, p < 6 → g' 2 3 p = iI (b' 7 p) ∧ g' 2 4 p = iI (b' 8 p)) (d5 : ∀ w, w < 10 → g' 2 5 w = iI (b' 9 w)) (d6 : g' 4 0 3 = iI (b' 0 9)) (d7 : ∀ k, k < (b' 0 9).toNat → g' 4 1 k = iI (b' 11 k) ∧ g' 4 2 k = iI (b' 12 k)) (d8 : g' 3 0 3 = iI (b' 0 20)) (d9 : ∀ k, k < (b' 0 20).toNat → g' 3 1 k = iI (b' 22 k) ∧ g' 3 2 k = iI (b' 23 k) ∧ g' 3 3 k = iI (b' 24 k)) (d11 : g' 0 0 8 = iI (b' 0 30)) : XB g' b' := by
  obtain ⟨b1, -, -, -, -, -, -, -, -, b10, -⟩ := hB
  have en : bn b' = bn b := by unfold bn; rw [c2]
  refine ⟨?_, d2, d3, d4, d5, d6, d7, d8, d9, fun s hs' => ?_, d11⟩
  · rw [c1, en]; exact WOK_cg h1 b1
  · rw [hs s hs', c3, c4, c5, c6]; exact b10 s hs'
theorem U_slots {g : SG} {b : BB} (hB : XB g b) (v : Int) : XB (wr g 2 0 0 (iI v)) (bw b 0 4 v) := by
  have hq := hB
  obtain ⟨-, b2, b3, b4, b5, b6, b7, b8, b9, -, b11⟩ := hB
  refine hq.to (wr_row (by omega)) (fun s _ => wr_row (by omega)) (bw_row (by omega)) (bw_ne (by omega)) (bw_row (by omega)) (bw_row (by omega)) (bw_row (by omega)) (bw_row (by omega)) ?_ ?_ ?_ ?_ ?_ ?_ ?_ ?_ ?_
  · rw [wr_eq, bw_eq]
  · rw [wr_ne (by omega), bw_ne (by omega)]; exact b3
  · intro p hp; rw [wr_ne (by omega), wr_ne (by omega), bw_row (by omega), bw_row (by omega)]; exact b4 p hp
  · intro p hp; rw [wr_ne (by omega), bw_row (by omega)]; exact b5 p hp
  · rw [wr_row (by omega), bw_ne (by omega)]; exact b6
  · rw [wr_row (by omega), bw_ne (by omega), bw_row (by omega), bw_row (by omega)]; exact b7
  · rw [wr_row (by omega), bw_ne (by omega)]; exact b8
  · rw [wr_row (by omega), bw_ne (by omega), bw_row (by omega), bw_row (by omega), bw_row (by omega)]; exact b9
  · rw [wr_row (by omega), bw_ne (by omega)]; exact b11
theorem U_law {g : SG} {b : BB} (hB : XB g b) (v : Int) : XB (wr g 2 0 1 (iI v)) (bw b 0 5 v) := by
  have hq := hB
  obtain ⟨-, b2, b3, b4, b5, b6, b7, b8, b9, -, b11⟩ := hB
  refine hq.to (wr_row (by omega)) (fun s _ => wr_row (by omega)) (bw_row (by omega)) (bw_ne (by omega)) (bw_row (by omega)) (bw_row (by omega)) (bw_row (by omega)) (bw_row (by omega)) ?_ ?_ ?_ ?_ ?_ ?_ ?_ ?_ ?_
  · rw [wr_ne (by omega), bw_ne (by omega)]; exact b2
  · rw [wr_eq, bw_eq]
  · intro p hp; rw [wr_ne (by omega), wr_ne (by omega), bw_row (by omega), bw_row (by omega)]; exact b4 p hp
  · intro p hp; rw [wr_ne (by omega), bw_row (by omega)]; exact b5 p hp
  · rw [wr_row (by omega), bw_ne (by omega)]; exact b6
  · rw [wr_row (by omega), bw_ne (by omega), bw_row (by omega), bw_row (by omega)]; exact b7
  · rw [wr_row (by omega), bw_ne (by omega)]; exact b8
  · rw [wr_row (by omega), bw_ne (by omega), bw_row (by omega), bw_row (by omega), bw_row (by omega)]; exact b9
  · rw [wr_row (by omega), bw_ne (by omega)]; exact b11
/-- means (7, cell 3), trust (8, cell 4), what is after what (9, cell 5) -/
theorem U_mta {g : SG} {b : BB} (hB : XB g b) (j i : Nat) (hj : j = 7 ∨ j = 8 ∨ j = 9) (v : Int) : XB (wr g 2 (j - 4) i (iI v)) (bw b j i v) := by
  have hq := hB
  obtain ⟨-, b2, b3, b4, b5, b6, b7, b8, b9, -, b11⟩ := hB
  have key : ∀ a c, a = 7 ∨ a = 8 ∨ a = 9 → g 2 (a - 4) c = iI (b a c) → wr g 2 (j - 4) i (iI v) 2 (a - 4) c = iI (bw b j i v a c) := by
    intro a c ha h
    by_cases e : a = j ∧ c = i
    · obtain ⟨rfl, rfl⟩ := e
      rw [wr_eq, bw_eq]
    · rw [wr_ne (by omega), bw_ne e]; exact h
  refine hq.to (wr_row (by omega)) (fun s _ => wr_row (by omega)) (bw_row (by omega)) (bw_ne (by omega)) (bw_row (by omega)) (bw_row (by omega)) (bw_row (by omega)) (bw_row (by omega)) ?_ ?_ ?_ ?_ ?_ ?_ ?_ ?_ ?_
  · rw [wr_ne (by omega), bw_ne (by omega)]; exact b2
  · rw [wr_ne (by omega), bw_ne (by omega)]; exact b3
  · intro p hp; exact ⟨key 7 p (by omega) (b4 p hp).1, key 8 p (by omega) (b4 p hp).2⟩
  · intro p hp; exact key 9 p (by omega) (b5 p hp)
  · rw [wr_row (by omega), bw_ne (by omega)]; exact b6
  · rw [wr_row (by omega), bw_ne (by omega), bw_row (by omega), bw_row (by omega)]; exact b7
  · rw [wr_row (by omega), bw_ne (by omega)]; exact b8
  · rw [wr_row (by omega), bw_ne (by omega), bw_row (by omega), bw_row (by omega), bw_row (by omega)]; exact b9
  · rw [wr_row (by omega), bw_ne (by omega)]; exact b11
theorem U_find {g : SG} {b : BB} (hB : XB g b) (v : Int) : XB (wr g 0 0 8 (iI v)) (bw b 0 30 v) := by
  have hq := hB
  obtain ⟨-, b2, b3, b4, b5, b6, b7, b8, b9, -, b11⟩ := hB
  refine hq.to (wr_row (by omega)) (fun s _ => wr_row (by omega)) (bw_row (by omega)) (bw_ne (by omega)) (bw_row (by omega)) (bw_row (by omega)) (bw_row (by omega)) (bw_row (by omega)) ?_ ?_ ?_ ?_ ?_ ?_ ?_ ?_ ?_
  · rw [wr_row (by omega), bw_ne (by omega)]; exact b2
  · rw [wr_row (by omega), bw_ne (by omega)]; exact b3
  · rw [wr_row (by omega), bw_row (by omega), bw_row (by omega)]; exact b4
  · rw [wr_row (by omega), bw_row (by omega)]; exact b5
  · rw [wr_row (by omega), bw_ne (by omega)]; exact b6
  · rw [wr_row (by omega), bw_ne (by omega), bw_row (by omega), bw_row (by omega)]; exact b7
  · rw [wr_row (by omega), bw_ne (by omega)]; exact b8
  · rw [wr_row (by omega), bw_ne (by omega), bw_row (by omega), bw_row (by omega), bw_row (by omega)]; exact b9
  · rw [wr_eq, bw_eq]
/-- a note more, a note less: forgivings -/
theorem U_f {g : SG} {b : BB} (hB : XB g b) (k : Nat) (hk : (b 0 9).toNat = k) (x y : Int) : XB (wr (wr (wr (wr g 4 1 k (iI x)) 4 2 k (iI y)) 4 3 k (iI 1)) 4 0 3 (iI ((k : Int) + 1))) (bw (bw (bw b 11 k x) 12 k y) 0 9 ((k : Int) + 1)) := by
  have hq := hB
  obtain ⟨-, b2, b3, b4, b5, b6, b7, b8, b9, -, b11⟩ := hB
  have rw1 : ∀ a, a ≠ 4 → wr (wr (wr (wr g 4 1 k (iI x)) 4 2 k (iI y)) 4 3 k (iI 1)) 4 0 3 (iI ((k : Int) + 1)) a = g a := fun a ha => by rw [wr_row ha, wr_row ha, wr_row ha, wr_row ha]
  have rb1 : ∀ a, a ≠ 0 → a ≠ 11 → a ≠ 12 → bw (bw (bw b 11 k x) 12 k y) 0 9 ((k : Int) + 1) a = b a := fun a h0 h1 h2 => by rw [bw_row h0, bw_row h2, bw_row h1]
  have rb0 : ∀ c, c ≠ 9 → bw (bw (bw b 11 k x) 12 k y) 0 9 ((k : Int) + 1) 0 c = b 0 c := fun c hc => by rw [bw_ne (by omega), bw_ne (by omega), bw_ne (by omega)]
  refine hq.to (rw1 1 (by omega)) (fun s _ => rw1 (8 + s) (by omega)) (rb1 1 (by omega) (by omega) (by omega)) (rb0 1 (by omega)) (rb1 26 (by omega) (by omega) (by omega)) (rb1 27 (by omega) (by omega) (by omega)) (rb1 28 (by omega) (by omega) (by omega)) (rb1 29 (by omega) (by omega) (by omega)) ?_ ?_ ?_ ?_ ?_ ?_ ?_ ?_ ?_
  · rw [rw1 2 (by omega), rb0 4 (by omega)]; exact b2
  · rw [rw1 2 (by omega), rb0 5 (by omega)]; exact b3
  · rw [rw1 2 (by omega), rb1 7 (by omega) (by omega) (by omega), rb1 8 (by omega) (by omega) (by omega)]; exact b4
  · rw [rw1 2 (by omega), rb1 9 (by omega) (by omega) (by omega)]; exact b5
  · rw [wr_eq, bw_eq]
  · rw [bw_eq]
    intro i hi
    have hi2 : i < k + 1 := by omega
    by_cases e : i = k
    · subst e
      refine ⟨?_, ?_⟩
      · rw [wr_ne (by omega), wr_ne (by omega), wr_ne (by omega), wr_eq, bw_ne (by omega), bw_ne (by omega), bw_eq]
      · rw [wr_ne (by omega), wr_ne (by omega), wr_eq, bw_ne (by omega), bw_eq]
    · have := b7 i (by omega)
      refine ⟨?_, ?_⟩
      · rw [wr_ne (by omega), wr_ne (by omega), wr_ne (by omega), wr_ne (by omega), bw_ne (by omega), bw_ne (by omega), bw_ne (by omega)]; exact this.1
      · rw [wr_ne (by omega), wr_ne (by omega), wr_ne (by omega), wr_ne (by omega), bw_ne (by omega), bw_ne (by omega), bw_ne (by omega)]; exact this.2
  · rw [rw1 3 (by omega), rb0 20 (by omega)]; exact b8
  · rw [rw1 3 (by omega), rb0 20 (by omega), rb1 22 (by omega) (by omega) (by omega), rb1 23 (by omega) (by omega) (by omega), rb1 24 (by omega) (by omega) (by omega)]; exact b9
  · rw [rw1 0 (by omega), rb0 30 (by omega)]; exact b11
theorem U_fc {g : SG} {b : BB} (hB : XB g b) (m : Int) (hm : m ≤ b 0 9) : XB (wr g 4 0 3 (iI m)) (bw b 0 9 m) := by
  have hq := hB
  obtain ⟨-, b2, b3, b4, b5, b6, b7, b8, b9, -, b11⟩ := hB
  refine hq.to (wr_row (by omega)) (fun s _ => wr_row (by omega)) (bw_row (by omega)) (bw_ne (by omega)) (bw_row (by omega)) (bw_row (by omega)) (bw_row (by omega)) (bw_row (by omega)) ?_ ?_ ?_ ?_ ?_ ?_ ?_ ?_ ?_
  · rw [wr_row (by omega), bw_ne (by omega)]; exact b2
  · rw [wr_row (by omega), bw_ne (by omega)]; exact b3
  · rw [wr_row (by omega), bw_row (by omega), bw_row (by omega)]; exact b4
  · rw [wr_row (by omega), bw_row (by omega)]; exact b5
  · rw [wr_eq, bw_eq]
  · rw [bw_eq]
    intro i hi
    rw [wr_ne (by omega), wr_ne (by omega), bw_row (by omega), bw_row (by omega)]; exact b7 i (by omega)
  · rw [wr_row (by omega), bw_ne (by omega)]; exact b8
  · rw [wr_row (by omega), bw_ne (by omega), bw_row (by omega), bw_row (by omega), bw_row (by omega)]; exact b9
  · rw [wr_row (by omega), bw_ne (by omega)]; exact b11
/-- sights -/
theorem U_s {g : SG} {b : BB} (hB : XB g b) (k : Nat) (hk : (b 0 20).toNat = k) (x y z : Int) : XB (wr (wr (wr (wr g 3 1 k (iI x)) 3 2 k (iI y)) 3 3 k (iI z)) 3 0 3 (iI ((k : Int) + 1))) (bw (bw (bw (bw b 22 k x) 23 k y) 24 k z) 0 20 ((k : Int) + 1)) := by
  have hq := hB
  obtain ⟨-, b2, b3, b4, b5, b6, b7, b8, b9, -, b11⟩ := hB
  have rw1 : ∀ a, a ≠ 3 → wr (wr (wr (wr g 3 1 k (iI x)) 3 2 k (iI y)) 3 3 k (iI z)) 3 0 3 (iI ((k : Int) + 1)) a = g a := fun a ha => by rw [wr_row ha, wr_row ha, wr_row ha, wr_row ha]
  have rb1 : ∀ a, a ≠ 0 → a ≠ 22 → a ≠ 23 → a ≠ 24 → bw (bw (bw (bw b 22 k x) 23 k y) 24 k z) 0 20 ((k : Int) + 1) a = b a := fun a h0 h1 h2 h3 => by rw [bw_row h0, bw_row h3, bw_row h2, bw_row h1]
  have rb0 : ∀ c, c ≠ 20 → bw (bw (bw (bw b 22 k x) 23 k y) 24 k z) 0 20 ((k : Int) + 1) 0 c = b 0 c := fun c hc => by rw [bw_ne (by omega), bw_ne (by omega), bw_ne (by omega), bw_ne (by omega)]
  refine hq.to (rw1 1 (by omega)) (fun s _ => rw1 (8 + s) (by omega)) (rb1 1 (by omega) (by omega) (by omega) (by omega)) (rb0 1 (by omega)) (rb1 26 (by omega) (by omega) (by omega) (by omega)) (rb1 27 (by omega) (by omega) (by omega) (by omega)) (rb1 28 (by omega) (by omega) (by omega) (by omega)) (rb1 29 (by omega) (by omega) (by omega) (by omega)) ?_ ?_ ?_ ?_ ?_ ?_ ?_ ?_ ?_
  · rw [rw1 2 (by omega), rb0 4 (by omega)]; exact b2
  · rw [rw1 2 (by omega), rb0 5 (by omega)]; exact b3
  · rw [rw1 2 (by omega), rb1 7 (by omega) (by omega) (by omega) (by omega), rb1 8 (by omega) (by omega) (by omega) (by omega)]; exact b4
  · rw [rw1 2 (by omega), rb1 9 (by omega) (by omega) (by omega) (by omega)]; exact b5
  · rw [rw1 4 (by omega), rb0 9 (by omega)]; exact b6
  · rw [rw1 4 (by omega), rb0 9 (by omega), rb1 11 (by omega) (by omega) (by omega) (by omega), rb1 12 (by omega) (by omega) (by omega) (by omega)]; exact b7
  · rw [wr_eq, bw_eq]
  · rw [bw_eq]
    intro i hi
    have hi2 : i < k + 1 := by omega
    by_cases e : i = k
    · subst e
      refine ⟨?_, ?_, ?_⟩
      · rw [wr_ne (by omega), wr_ne (by omega), wr_ne (by omega), wr_eq, bw_ne (by omega), bw_ne (by omega), bw_ne (by omega), bw_eq]
      · rw [wr_ne (by omega), wr_ne (by omega), wr_eq, bw_ne (by omega), bw_ne (by omega), bw_eq]
      · rw [wr_ne (by omega), wr_eq, bw_ne (by omega), bw_eq]
    · have := b9 i (by omega)
      refine ⟨?_, ?_, ?_⟩
      · rw [wr_ne (by omega), wr_ne (by omega), wr_ne (by omega), wr_ne (by omega), bw_ne (by omega), bw_ne (by omega), bw_ne (by omega), bw_ne (by omega)]; exact this.1
      · rw [wr_ne (by omega), wr_ne (by omega), wr_ne (by omega), wr_ne (by omega), bw_ne (by omega), bw_ne (by omega), bw_ne (by omega), bw_ne (by omega)]; exact this.2.1
      · rw [wr_ne (by omega), wr_ne (by omega), wr_ne (by omega), wr_ne (by omega), bw_ne (by omega), bw_ne (by omega), bw_ne (by omega), bw_ne (by omega)]; exact this.2.2
  · rw [rw1 0 (by omega), rb0 30 (by omega)]; exact b11
theorem U_sc {g : SG} {b : BB} (hB : XB g b) (m : Int) (hm : m ≤ b 0 20) : XB (wr g 3 0 3 (iI m)) (bw b 0 20 m) := by
  have hq := hB
  obtain ⟨-, b2, b3, b4, b5, b6, b7, b8, b9, -, b11⟩ := hB
  refine hq.to (wr_row (by omega)) (fun s _ => wr_row (by omega)) (bw_row (by omega)) (bw_ne (by omega)) (bw_row (by omega)) (bw_row (by omega)) (bw_row (by omega)) (bw_row (by omega)) ?_ ?_ ?_ ?_ ?_ ?_ ?_ ?_ ?_
  · rw [wr_row (by omega), bw_ne (by omega)]; exact b2
  · rw [wr_row (by omega), bw_ne (by omega)]; exact b3
  · rw [wr_row (by omega), bw_row (by omega), bw_row (by omega)]; exact b4
  · rw [wr_row (by omega), bw_row (by omega)]; exact b5
  · rw [wr_row (by omega), bw_ne (by omega)]; exact b6
  · rw [wr_row (by omega), bw_ne (by omega), bw_row (by omega), bw_row (by omega)]; exact b7
  · rw [wr_eq, bw_eq]
  · rw [bw_eq]
    intro i hi
    rw [wr_ne (by omega), wr_ne (by omega), wr_ne (by omega), bw_row (by omega), bw_row (by omega), bw_row (by omega)]; exact b9 i (by omega)
  · rw [wr_row (by omega), bw_ne (by omega)]; exact b11
/-- the text -/
theorem U_text {g g' : SG} {b b' : BB} (hB : XB g b) (hW : WOK g' (b' 1) (bn b')) (h : ∀ a, a ≠ 1 → g' a = g a) (hr : ∀ a, a ≠ 0 → a ≠ 1 → b' a = b a) (h0 : ∀ c, c ≠ 1 → b' 0 c = b 0 c) : XB g' b' := by
  obtain ⟨-, b2, b3, b4, b5, b6, b7, b8, b9, b10, b11⟩ := hB
  refine ⟨hW, ?_, ?_, ?_, ?_, ?_, ?_, ?_, ?_, fun s hs => ?_, ?_⟩
  · rw [h 2 (by omega), h0 _ (by omega)]; exact b2
  · rw [h 2 (by omega), h0 _ (by omega)]; exact b3
  · rw [h 2 (by omega), hr 7 (by omega) (by omega), hr 8 (by omega) (by omega)]; exact b4
  · rw [h 2 (by omega), hr 9 (by omega) (by omega)]; exact b5
  · rw [h 4 (by omega), h0 _ (by omega)]; exact b6
  · rw [h 4 (by omega), h0 _ (by omega), hr 11 (by omega) (by omega), hr 12 (by omega) (by omega)]; exact b7
  · rw [h 3 (by omega), h0 _ (by omega)]; exact b8
  · rw [h 3 (by omega), h0 _ (by omega), hr 22 (by omega) (by omega), hr 23 (by omega) (by omega), hr 24 (by omega) (by omega)]; exact b9
  · rw [h (8 + s) (by omega), hr 26 (by omega) (by omega), hr 27 (by omega) (by omega), hr 28 (by omega) (by omega), hr 29 (by omega) (by omega)]; exact b10 s hs
  · rw [h 0 (by omega), h0 _ (by omega)]; exact b11
/-- one sheet has changed -/
theorem U_sh {g g' : SG} {b b' : BB} (hB : XB g b) (s : Nat) (h : ∀ a, a ≠ 8 + s → g' a = g a) (hr : ∀ a, a < 26 ∨ 29 < a → b' a = b a) (h6 : ∀ t, t ≠ s → b' 26 t = b 26 t ∧ b' 27 t = b 27 t ∧ b' 28 t = b 28 t ∧ ∀ i, i < 48 → b' 29 (48 * t + i) = b 29 (48 * t + i))
    (hS : g' (8 + s) 0 1 = iI (1 - b' 26 s) ∧ (b' 26 s = 1 → g' (8 + s) 0 2 = iI (b' 27 s) ∧ g' (8 + s) 0 3 = iI (b' 28 s) ∧ ∀ i, i < 48 → g' (8 + s) 1 i = iI (b' 29 (48 * s + i)))) : XB g' b' := by
  obtain ⟨b1, b2, b3, b4, b5, b6, b7, b8, b9, b10, b11⟩ := hB
  have en : bn b' = bn b := by unfold bn; rw [hr 0 (by omega)]
  refine ⟨?_, ?_, ?_, ?_, ?_, ?_, ?_, ?_, ?_, fun t ht => ?_, ?_⟩
  · rw [hr 1 (by omega), en]; exact WOK_cg (h 1 (by omega)) b1
  · rw [h 2 (by omega), hr 0 (by omega)]; exact b2
  · rw [h 2 (by omega), hr 0 (by omega)]; exact b3
  · rw [h 2 (by omega), hr 7 (by omega), hr 8 (by omega)]; exact b4
  · rw [h 2 (by omega), hr 9 (by omega)]; exact b5
  · rw [h 4 (by omega), hr 0 (by omega)]; exact b6
  · rw [h 4 (by omega), hr 0 (by omega), hr 11 (by omega), hr 12 (by omega)]; exact b7
  · rw [h 3 (by omega), hr 0 (by omega)]; exact b8
  · rw [h 3 (by omega), hr 0 (by omega), hr 22 (by omega), hr 23 (by omega), hr 24 (by omega)]; exact b9
  · by_cases e : t = s
    · subst e; exact hS
    · obtain ⟨p1, p2, p3, p4⟩ := h6 t e
      rw [h (8 + t) (by omega), p1, p2, p3]
      exact ⟨(b10 t ht).1, fun q => ⟨((b10 t ht).2 q).1, ((b10 t ht).2 q).2.1, fun i hi => by rw [p4 i hi]; exact ((b10 t ht).2 q).2.2 i hi⟩⟩
  · rw [h 0 (by omega), hr 0 (by omega)]; exact b11
/-- stale -/
theorem XI.st {g : SG} {b : BB} (hB : XB g b) : XI (wr g 0 0 7 (iI 1)) b := ⟨hB.fr (fun a ha => wr_row (by omega)) (by rw [wr_ne (by omega)]), Or.inl (by rw [wr_eq])⟩
theorem XN_st {g : SG} {b : BB} (h : g 0 0 7 = iI 1) : XN g b := Or.inl h
