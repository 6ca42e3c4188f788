/-! ===== what the reference may change, all of it ===== -/
def mscr (j i : Nat) : Prop := (j = 0 ∧ i = 2) ∨ j = 4 ∨ (13 ≤ j ∧ j ≤ 20) ∨ j = 25 ∨ j = 30
def MFS (g g' : SG) : Prop := (∀ a, a ≠ 12 → g' a = g a) ∧ ∀ j i, ¬ mscr j i → g' 12 j i = g 12 j i
theorem MFS.rf (g : SG) : MFS g g := ⟨fun _ _ => rfl, fun _ _ _ => rfl⟩
theorem MFS.tr {g g1 g2 : SG} (h : MFS g g1) (h2 : MFS g1 g2) : MFS g g2 := ⟨fun a ha => (h2.1 a ha).trans (h.1 a ha), fun j i hj => (h2.2 j i hj).trans (h.2 j i hj)⟩
theorem MFS.wr {g g1 : SG} (h : MFS g g1) (j i : Nat) (v : Int32) (hj : mscr j i) : MFS g (wr g1 12 j i v) := by
  refine ⟨fun a ha => ?_, fun k c hk => ?_⟩
  · rw [← h.1 a ha]; funext b c; simp [wr_at, ha]
  · rw [← h.2 k c hk]
    rw [wr_at, if_neg]
    rintro ⟨-, rfl, rfl⟩
    exact hk hj
theorem MF2.S {g g' : SG} (h : MF2 g g') : MFS g g' := ⟨h.1, fun j i hj => by rw [h.2 j (fun z => hj (by unfold mscr; omega))]⟩
theorem MF3.S {g g' : SG} (h : MF3 g g') : MFS g g' := ⟨h.1, fun j i hj => by rw [h.2 j (fun z => hj (by unfold mscr; omega))]⟩
theorem MFr1.S {g g' : SG} (h : MFr1 g g') : MFS g g' := by
  refine ⟨h.1, fun j i hj => ?_⟩
  unfold mscr at hj
  by_cases e : j = 0
  · subst e
    exact h.2.2 i (by omega)
  · rw [h.2.1 j e (by omega)]
theorem MFS.B {g g' : SG} {b : BB} (h : MFS g g') (hB : MB g b) : MB g' b := by
  obtain ⟨⟨a1, a2, a3⟩, b1, b2, b3, b4, b5, b6, b7, b8, b9, b10, b11⟩ := hB
  have r : ∀ j i, ¬ mscr j i → g' 12 j i = g 12 j i := h.2
  refine ⟨⟨by rw [r _ _ (by unfold mscr; omega)]; exact a1, a2, fun k hk => ⟨by rw [r _ _ (by unfold mscr; omega)]; exact (a3 k hk).1, (a3 k hk).2⟩⟩, by rw [r _ _ (by unfold mscr; omega)]; exact b1, by rw [r _ _ (by unfold mscr; omega)]; exact b2, fun p hp => ⟨by rw [r _ _ (by unfold mscr; omega)]; exact (b3 p hp).1, by rw [r _ _ (by unfold mscr; omega)]; exact (b3 p hp).2⟩, fun w hw => by rw [r _ _ (by unfold mscr; omega)]; exact b4 w hw, by rw [r _ _ (by unfold mscr; omega)]; exact b5, fun k hk => ⟨by rw [r _ _ (by unfold mscr; omega)]; exact (b6 k hk).1, by rw [r _ _ (by unfold mscr; omega)]; exact (b6 k hk).2⟩, by rw [r _ _ (by unfold mscr; omega)]; exact b7, fun k hk => ⟨by rw [r _ _ (by unfold mscr; omega)]; exact (b8 k hk).1, by rw [r _ _ (by unfold mscr; omega)]; exact (b8 k hk).2.1, by rw [r _ _ (by unfold mscr; omega)]; exact (b8 k hk).2.2⟩, fun s hs => ⟨by rw [r _ _ (by unfold mscr; omega)]; exact (b9 s hs).1, by rw [r _ _ (by unfold mscr; omega)]; exact (b9 s hs).2.1, by rw [r _ _ (by unfold mscr; omega)]; exact (b9 s hs).2.2⟩, fun i hi => by rw [r _ _ (by unfold mscr; omega)]; exact b10 i hi, by rw [r _ _ (by unfold mscr; omega)]; exact b11⟩
theorem MFN.S {g g' : SG} (h : MFN g g') : MFS g g' := ⟨h.1, fun j i hj => h.2 j i (fun z => hj (by unfold mscn at z; unfold mscr; omega))⟩
section
variable (d : Nat)
theorem c_reads {g : SG} {b : BB} (hB : MB g b) : ∃ g', am_cl (d + 5) 114 [.inr (.inr (some (12, 0)))] g = some (none, g') ∧ MB g' b ∧ MN g' b ∧ MFS g g' := by
  obtain ⟨g', x1, x2, x3, x4⟩ := c_readsN d hB
  exact ⟨g', x1, x2, x3, x4.S⟩
theorem c_runs {g : SG} {b : BB} (hb : BV b) (hB : MB g b) (L : Nat) (hL : L ≤ 99) (law slots but : Int) (hl : 0 ≤ law ∧ law ≤ 3) (hs : 1 ≤ slots ∧ slots ≤ 9) (hbut : -1 ≤ but ∧ but ≤ 8) : ∃ g', am_cl (d + 6) 131 [.inr (.inr (some (12, 0))), .inl (iI L), .inl (iI law), .inl (iI slots), .inl (iI but)] g = some (none, g') ∧ MB g' b ∧ MN g' b ∧ MRun g' b law slots but (L + 1) ∧ MFS g g' := by
  obtain ⟨g', x1, x2, x3, x4, x5⟩ := c_runsN d hb hB L hL law slots but hl hs hbut
  exact ⟨g', x1, x2, x3, x4, x5.S⟩
end
