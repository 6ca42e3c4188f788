/-! ===== call by call: the class and the reference answer alike ===== -/
section
variable (d : Nat)
theorem ag_fault : AGR (d + 11) 56 113 [] := by
  have h : AGR (d + 11) 56 113 [] := agr_rd (fun b => .inl (iI (vFault b))) (fun g b hb hI hD => x_fault (d + 10) hI  ) (fun g b hb hB => m_fault (d + 6) hB  )
  exact h
theorem ag_want (x1 : Int32) (x2 : Int32) : AGR (d + 11) 57 119 [.inl x1, .inl x2] := by
  have h : AGR (d + 11) 57 119 [.inl (iI x1.toInt), .inl (iI x2.toInt)] := agr_rd (fun b => .inl (iI (vWant b x1.toInt x2.toInt))) (fun g b hb hI hD => x_want (d + 9) hb hI x1.toInt x2.toInt (ii_rng x1) (ii_rng x2)) (fun g b hb hB => m_want (d + 4) hb hB x1.toInt x2.toInt (ii_rng x1) (ii_rng x2))
  simp only [ii_self] at h
  exact h
theorem ag_held (x1 : Int32) : AGR (d + 11) 63 134 [.inl x1] := by
  have h : AGR (d + 11) 63 134 [.inl (iI x1.toInt)] := agr_rd (fun b => .inl (iI (vHeld b x1.toInt))) (fun g b hb hI hD => x_held (d + 5) hb hI x1.toInt (ii_rng x1)) (fun g b hb hB => m_held (d + 2) hb hB x1.toInt (ii_rng x1))
  simp only [ii_self] at h
  exact h
theorem ag_waiting (x1 : Int32) : AGR (d + 11) 64 136 [.inl x1] := by
  have h : AGR (d + 11) 64 136 [.inl (iI x1.toInt)] := agr_rd (fun b => .inl (iI (vWait b x1.toInt))) (fun g b hb hI hD => x_waiting (d + 5) hb hI x1.toInt (ii_rng x1)) (fun g b hb hB => m_waiting (d + 2) hb hB x1.toInt (ii_rng x1))
  simp only [ii_self] at h
  exact h
theorem ag_trust (x1 : Int32) (x2 : Int32) : AGR (d + 11) 65 138 [.inl x1, .inl x2] := by
  have h : AGR (d + 11) 65 138 [.inl (iI x1.toInt), .inl (iI x2.toInt)] := agr_rd (fun b => .inl (vTrust b x1.toInt x2.toInt)) (fun g b hb hI hD => x_trust (d + 5) hb hI x1.toInt x2.toInt (ii_rng x1) (ii_rng x2)) (fun g b hb hB => m_trust (d + 2) hb hB x1.toInt x2.toInt (ii_rng x1) (ii_rng x2))
  simp only [ii_self] at h
  exact h
theorem ag_means (x1 : Int32) (x2 : Int32) : AGR (d + 11) 66 140 [.inl x1, .inl x2] := by
  have h : AGR (d + 11) 66 140 [.inl (iI x1.toInt), .inl (iI x2.toInt)] := agr_rd (fun b => .inl (iI (vMeans b x1.toInt x2.toInt))) (fun g b hb hI hD => x_means (d + 5) hb hI x1.toInt x2.toInt (ii_rng x1) (ii_rng x2)) (fun g b hb hB => m_means (d + 2) hb hB x1.toInt x2.toInt (ii_rng x1) (ii_rng x2))
  simp only [ii_self] at h
  exact h
theorem ag_made (x1 : Int32) (x2 : Int32) : AGR (d + 11) 67 143 [.inl x1, .inl x2] := by
  have h : AGR (d + 11) 67 143 [.inl (iI x1.toInt), .inl (iI x2.toInt)] := agr_rd (fun b => .inl (iI (vMade b x1.toInt x2.toInt))) (fun g b hb hI hD => x_made (d + 5) hb hI x1.toInt x2.toInt (ii_rng x1) (ii_rng x2)) (fun g b hb hB => m_made (d + 2) hb hB x1.toInt x2.toInt (ii_rng x1) (ii_rng x2))
  simp only [ii_self] at h
  exact h
theorem ag_without (x1 : Int32) (x2 : Int32) (x3 : Int32) : AGR (d + 11) 68 145 [.inl x1, .inl x2, .inl x3] := by
  have h : AGR (d + 11) 68 145 [.inl (iI x1.toInt), .inl (iI x2.toInt), .inl (iI x3.toInt)] := agr_rd (fun b => .inl (iI (vWithout b x1.toInt x2.toInt x3.toInt))) (fun g b hb hI hD => x_without (d + 5) hb hI x1.toInt x2.toInt x3.toInt (ii_rng x1) (ii_rng x2) (ii_rng x3)) (fun g b hb hB => m_without (d + 3) hb hB x1.toInt x2.toInt x3.toInt (ii_rng x1) (ii_rng x2) (ii_rng x3))
  simp only [ii_self] at h
  exact h
theorem ag_gain (x1 : Int32) : AGR (d + 11) 69 147 [.inl x1] := by
  have h : AGR (d + 11) 69 147 [.inl (iI x1.toInt)] := agr_rd (fun b => .inl (iI (vGain b x1.toInt))) (fun g b hb hI hD => x_gain (d + 5) hb hI x1.toInt (ii_rng x1)) (fun g b hb hB => m_gain (d + 3) hb hB x1.toInt (ii_rng x1))
  simp only [ii_self] at h
  exact h
theorem ag_best : AGR (d + 11) 70 149 [] := by
  have h : AGR (d + 11) 70 149 [] := agr_rd (fun b => .inl (iI (vBest b))) (fun g b hb hI hD => x_best (d + 4) hb hI  ) (fun g b hb hB => m_best (d + 2) hb hB  )
  exact h
theorem ag_room (x1 : Int32) (x2 : Int32) (x3 : Int32) (x4 : Int32) : AGR (d + 11) 71 152 [.inl x1, .inl x2, .inl x3, .inl x4] := by
  have h : AGR (d + 11) 71 152 [.inl (iI x1.toInt), .inl (iI x2.toInt), .inl (iI x3.toInt), .inl (iI x4.toInt)] := agr_rd (fun b => .inl (iI (vRoom b x1.toInt x2.toInt x3.toInt x4.toInt))) (fun g b hb hI hD => x_room (d + 5) hb hI x1.toInt x2.toInt x3.toInt x4.toInt (ii_rng x1) (ii_rng x2) (ii_rng x3) (ii_rng x4)) (fun g b hb hB => m_room (d + 1) hb hB x1.toInt x2.toInt x3.toInt x4.toInt (ii_rng x1) (ii_rng x2) (ii_rng x3) (ii_rng x4))
  simp only [ii_self] at h
  exact h
theorem ag_price (x1 : Int32) : AGR (d + 11) 72 154 [.inl x1] := by
  have h : AGR (d + 11) 72 154 [.inl (iI x1.toInt)] := agr_rd (fun b => .inl (iI (vPrice b x1.toInt))) (fun g b hb hI hD => x_price (d + 5) hb hI x1.toInt (ii_rng x1)) (fun g b hb hB => m_price (d + 1) hb hB x1.toInt (ii_rng x1))
  simp only [ii_self] at h
  exact h
theorem ag_hoarder : AGR (d + 11) 73 156 [] := by
  have h : AGR (d + 11) 73 156 [] := agr_rd (fun b => .inl (iI (vHoard b))) (fun g b hb hI hD => x_hoarder (d + 5) hb hI  ) (fun g b hb hB => m_hoarder (d + 2) hb hB  )
  exact h
theorem ag_rings : AGR (d + 11) 74 160 [] := by
  have h : AGR (d + 11) 74 160 [] := agr_rd (fun b => .inl (iI (vRing b))) (fun g b hb hI hD => x_rings (d + 6) hb hI  ) (fun g b hb hB => m_rings (d + 4) hb hB  )
  exact h
theorem ag_freed (x1 : Int32) : AGR (d + 11) 75 162 [.inl x1] := by
  have h : AGR (d + 11) 75 162 [.inl (iI x1.toInt)] := agr_rd (fun b => .inl (iI (vFreed b x1.toInt))) (fun g b hb hI hD => x_freed (d + 5) hb hI x1.toInt (ii_rng x1)) (fun g b hb hB => m_freed (d + 4) hb hB x1.toInt (ii_rng x1))
  simp only [ii_self] at h
  exact h
theorem ag_depth (x1 : Int32) : AGR (d + 11) 76 164 [.inl x1] := by
  have h : AGR (d + 11) 76 164 [.inl (iI x1.toInt)] := agr_rd (fun b => .inl (iI (vDepth b x1.toInt))) (fun g b hb hI hD => x_depth (d + 6) hb hI x1.toInt (ii_rng x1)) (fun g b hb hB => m_depth (d + 3) hb hB x1.toInt (ii_rng x1))
  simp only [ii_self] at h
  exact h
theorem ag_fits (x1 : Int32) : AGR (d + 11) 79 169 [.inl x1] := by
  have h : AGR (d + 11) 79 169 [.inl (iI x1.toInt)] := agr_rd (fun b => .inl (iI (vFits b x1.toInt))) (fun g b hb hI hD => x_fits (d + 5) hb hI x1.toInt (ii_rng x1)) (fun g b hb hB => m_fits (d + 2) hb hB x1.toInt (ii_rng x1))
  simp only [ii_self] at h
  exact h
theorem ag_unlike (x1 : Int32) (x2 : Int32) : AGR (d + 11) 80 171 [.inl x1, .inl x2] := by
  have h : AGR (d + 11) 80 171 [.inl (iI x1.toInt), .inl (iI x2.toInt)] := agr_rd (fun b => .inl (iI (vUnlike b x1.toInt x2.toInt))) (fun g b hb hI hD => x_unlike (d + 5) hb hI x1.toInt x2.toInt (ii_rng x1) (ii_rng x2)) (fun g b hb hB => m_unlike (d + 3) hb hB x1.toInt x2.toInt (ii_rng x1) (ii_rng x2))
  simp only [ii_self] at h
  exact h
theorem ag_owed (x1 : Int32) (x2 : Int32) (x3 : Int32) : AGR (d + 11) 81 174 [.inl x1, .inl x2, .inl x3] := by
  have h : AGR (d + 11) 81 174 [.inl (iI x1.toInt), .inl (iI x2.toInt), .inl (iI x3.toInt)] := agr_rd (fun b => .inl (iI (vOwed b x1.toInt x2.toInt x3.toInt))) (fun g b hb hI hD => x_owed (d + 5) hb hI x1.toInt x2.toInt x3.toInt (ii_rng x1) (ii_rng x2) (ii_rng x3)) (fun g b hb hB => m_owed (d + 2) hb hB x1.toInt x2.toInt x3.toInt (ii_rng x1) (ii_rng x2) (ii_rng x3))
  simp only [ii_self] at h
  exact h
theorem ag_cleared (x1 : Int32) : AGR (d + 11) 82 176 [.inl x1] := by
  have h : AGR (d + 11) 82 176 [.inl (iI x1.toInt)] := agr_rd (fun b => .inl (iI (vClear b x1.toInt))) (fun g b hb hI hD => x_cleared (d + 5) hb hI x1.toInt (ii_rng x1)) (fun g b hb hB => m_cleared (d + 2) hb hB x1.toInt (ii_rng x1))
  simp only [ii_self] at h
  exact h
theorem ag_count (x1 : Int32) : AGR (d + 11) 89 188 [.inl x1] := by
  have h : AGR (d + 11) 89 188 [.inl (iI x1.toInt)] := agr_rd (fun b => .inl (iI (vCount b x1.toInt))) (fun g b hb hI hD => x_count (d + 5) hb hI x1.toInt (ii_rng x1)) (fun g b hb hB => m_count (d + 2) hb hB x1.toInt (ii_rng x1))
  simp only [ii_self] at h
  exact h
theorem ag_digest : AGR (d + 11) 90 190 [] := by
  have h : AGR (d + 11) 90 190 [] := agr_rd (fun b => .inr (.inl (vDig b))) (fun g b hb hI hD => x_digest (d + 3) hb hI hD  ) (fun g b hb hB => m_digest (d + 0) hb hB  )
  exact h
theorem ag_type (x1 : Int32) : AGR (d + 11) 54 108 [.inl x1] := by
  have h := agr_type (d + 4) x1.toInt (ii_rng x1)
  simp only [ii_self] at h
  exact h
theorem ag_wipe : AGR (d + 11) 55 109 [] := by
  have h := agr_wipe (d + 4)  
  exact h
theorem ag_set (x1 : Int32) (x2 : Int32) (x3 : Int32) : AGR (d + 11) 58 120 [.inl x1, .inl x2, .inl x3] := by
  have h := agr_set (d + 4) x1.toInt x2.toInt x3.toInt (ii_rng x1) (ii_rng x2) (ii_rng x3)
  simp only [ii_self] at h
  exact h
theorem ag_after (x1 : Int32) (x2 : Int32) (x3 : Int32) : AGR (d + 11) 59 121 [.inl x1, .inl x2, .inl x3] := by
  have h := agr_after (d + 4) x1.toInt x2.toInt x3.toInt (ii_rng x1) (ii_rng x2) (ii_rng x3)
  simp only [ii_self] at h
  exact h
theorem ag_read (x1 : Int32) : AGR (d + 11) 60 122 [.inl x1] := by
  have h := agr_read (d + 4) x1.toInt (ii_rng x1)
  simp only [ii_self] at h
  exact h
theorem ag_forgive (x1 : Int32) (x2 : Int32) : AGR (d + 11) 61 123 [.inl x1, .inl x2] := by
  have h := agr_forgive (d + 4) x1.toInt x2.toInt (ii_rng x1) (ii_rng x2)
  simp only [ii_self] at h
  exact h
theorem ag_undo : AGR (d + 11) 62 124 [] := by
  have h := agr_undo (d + 4)  
  exact h
theorem ag_seen (x1 : Int32) (x2 : Int32) (x3 : Int32) : AGR (d + 11) 77 165 [.inl x1, .inl x2, .inl x3] := by
  have h := agr_seen (d + 4) x1.toInt x2.toInt x3.toInt (ii_rng x1) (ii_rng x2) (ii_rng x3)
  simp only [ii_self] at h
  exact h
theorem ag_forget : AGR (d + 11) 78 166 [] := by
  have h := agr_forget (d + 4)  
  exact h
theorem ag_sheet (x1 : Int32) (x2 : Int32) (x3 : Int32) : AGR (d + 11) 83 179 [.inl x1, .inl x2, .inl x3] := by
  have h := agr_sheet (d + 4) x1.toInt x2.toInt x3.toInt (ii_rng x1) (ii_rng x2) (ii_rng x3)
  simp only [ii_self] at h
  exact h
theorem ag_lose (x1 : Int32) : AGR (d + 11) 84 180 [.inl x1] := by
  have h := agr_lose (d + 4) x1.toInt (ii_rng x1)
  simp only [ii_self] at h
  exact h
theorem ag_put (x1 : Int32) (x2 : Int32) (x3 : Int32) (x4 : Int32) : AGR (d + 11) 85 183 [.inl x1, .inl x2, .inl x3, .inl x4] := by
  have h := agr_put (d + 4) x1.toInt x2.toInt x3.toInt x4.toInt (ii_rng x1) (ii_rng x2) (ii_rng x3) (ii_rng x4)
  simp only [ii_self] at h
  exact h
theorem ag_get (x1 : Int32) (x2 : Int32) (x3 : Int32) : AGR (d + 11) 86 184 [.inl x1, .inl x2, .inl x3] := by
  have h := agr_get (d + 4) x1.toInt x2.toInt x3.toInt (ii_rng x1) (ii_rng x2) (ii_rng x3)
  simp only [ii_self] at h
  exact h
theorem ag_copy (x1 : Int32) (x2 : Int32) (x3 : Int32) (x4 : Int32) (x5 : Int32) : AGR (d + 11) 87 185 [.inl x1, .inl x2, .inl x3, .inl x4, .inl x5] := by
  have h := agr_copy (d + 4) x1.toInt x2.toInt x3.toInt x4.toInt x5.toInt (ii_rng x1) (ii_rng x2) (ii_rng x3) (ii_rng x4) (ii_rng x5)
  simp only [ii_self] at h
  exact h
theorem ag_write (x1 : Int32) (x2 : Int32) : AGR (d + 11) 88 186 [.inl x1, .inl x2] := by
  have h := agr_write (d + 1) x1.toInt x2.toInt (ii_rng x1) (ii_rng x2)
  simp only [ii_self] at h
  exact h
end
/-! ===== what a method of ints answers is an int ===== -/
theorem am_st_ret {i : Instr} {a b c pc : Nat} {L : LO} {st : List AV} {g : SG} {r : Option AV} (h : am_st i a b c pc L st g = some (.inr (.inl r))) : (i = .ireturn ∧ ∃ v, r = some (.inl v)) ∨ (i = .lreturn ∧ ∃ v, r = some (.inr (.inl v))) ∨ i = .areturn ∨ i = .return_ := by
  have same : ∀ {p : Nat} {M : LO} {t : List AV} {u : SG}, am_nx p M t u = some (.inr (.inl r)) → False := by
    intro p M t u e
    unfold am_nx at e
    cases e
  cases i <;> first
    | exact (same h).elim
    | (obtain ⟨_, _, _, _, e⟩ := am_b2_inv h; cases e; done)
    | (obtain ⟨_, _, _, _, e⟩ := am_c2_inv h; cases e; done)
    | (obtain ⟨_, _, _, e⟩ := am_b1_inv h; cases e; done)
    | (obtain ⟨_, _, _, e⟩ := am_ld_inv h; cases e; done)
    | (obtain ⟨_, _, _, _, _, _, e⟩ := am_s1_inv h; cases e; done)
    | (obtain ⟨_, _, _, _, _, e⟩ := am_s2_inv h; cases e; done)
    | (exfalso; unfold am_st at h; dsimp only at h; cases h; done)
    | exact Or.inr (Or.inr (Or.inl rfl))
    | exact Or.inr (Or.inr (Or.inr rfl))
    | skip
  case ireturn =>
    unfold am_st at h
    dsimp only at h
    split at h
    · split at h
      · cases h; exact Or.inl ⟨rfl, _, rfl⟩
      · cases h
    · cases h
  case lreturn =>
    unfold am_st at h
    dsimp only at h
    split at h
    · split at h
      · cases h; exact Or.inr (Or.inl ⟨rfl, _, rfl⟩)
      · cases h
    · cases h
  all_goals
    exfalso
    unfold am_st at h
    dsimp only at h
    try unfold am_br at h
    repeat' first | exact same h | (cases h; done) | split at h
theorem am_ab_id {pc : Nat} {i i' : Instr} (h : am_ab pc i = some i') (hn : ∀ p q r s, i' ≠ .tableswitch p q r s) : i = i' := by
  unfold am_ab at h
  split at h
  · split at h
    · cases h; exact absurd rfl (hn _ _ _ _)
    · cases h
  · exact Option.some.inj h
theorem am_rn_ty {C : Nat → List AV → SG → Option RE} {k : Nat} {mm : am_MI} (hm : am_mi k = some mm) : ∀ (n pc : Nat) (L : LO) (st : List AV) (g : SG) (r : Option AV) (g' : SG), am_rn C k n pc L st g = some (r, g') → (mm.2.2.2.1 = some .int → ∃ v, r = some (.inl v)) ∧ (mm.2.2.2.1 = some .long → ∃ v, r = some (.inr (.inl v))) := by
  intro n
  induction n with
  | zero => intro pc L st g r g' h; cases h
  | succ n ih =>
    intro pc L st g r g' h
    obtain ⟨i', a, b, c, z, hf, hs, ha⟩ := am_rn_inv h
    rcases z with ⟨pc', L', st', g2⟩ | r2 | ⟨y, as, rest⟩
    · exact ih _ _ _ _ _ _ ha
    · cases ha
      unfold am_ft at hf
      rw [hm] at hf
      obtain ⟨i, len, hd, hab, hrs, hlen⟩ := am_dc_inv hf
      rcases am_st_ret hs with ⟨e, v, rfl⟩ | ⟨e, v, rfl⟩ | e | e
      · subst e
        have e2 := am_ab_id hab (fun _ _ _ _ z => by cases z)
        subst e2
        refine ⟨fun _ => ⟨v, rfl⟩, fun hr => ?_⟩
        unfold am_rs at hrs
        dsimp only at hrs
        rw [hr, if_neg (by decide), if_neg (by decide)] at hrs
        cases hrs
      · subst e
        have e2 := am_ab_id hab (fun _ _ _ _ z => by cases z)
        subst e2
        refine ⟨fun hr => ?_, fun _ => ⟨v, rfl⟩⟩
        unfold am_rs at hrs
        dsimp only at hrs
        rw [hr, if_neg (by decide)] at hrs
        cases hrs
      · subst e
        have e2 := am_ab_id hab (fun _ _ _ _ z => by cases z)
        subst e2
        unfold am_rs at hrs
        dsimp only at hrs
        exact ⟨fun hr => (by rw [hr] at hrs; cases hrs), fun hr => (by rw [hr] at hrs; cases hrs)⟩
      · subst e
        have e2 := am_ab_id hab (fun _ _ _ _ z => by cases z)
        subst e2
        unfold am_rs at hrs
        dsimp only at hrs
        exact ⟨fun hr => (by rw [hr, if_neg (by decide)] at hrs; cases hrs), fun hr => (by rw [hr, if_neg (by decide)] at hrs; cases hrs)⟩
    · unfold am_af at ha
      dsimp only at ha
      split at ha
      · cases ha
      · exact ih _ _ _ _ _ _ ha
theorem am_cl_ty {d y : Nat} {as : List AV} {g : SG} {r : Option AV} {g' : SG} {mm : am_MI} (hy : ¬ 996 ≤ y) (hm : am_mi y = some mm) (h : am_cl (d + 1) y as g = some (r, g')) : (mm.2.2.2.1 = some .int → ∃ v, r = some (.inl v)) ∧ (mm.2.2.2.1 = some .long → ∃ v, r = some (.inr (.inl v))) := by
  rw [am_cl, if_neg hy, hm] at h
  dsimp only at h
  split at h
  · obtain ⟨n, hn⟩ := (am_ev_iff _ _ _ _ _ _ _).mp h
    exact am_rn_ty hm n _ _ _ _ _ _ hn
  · cases h
def AGI (D kx km : Nat) (as : List AV) : Prop := ∀ g b, CI g b → ∃ (v : Int32) (g1 g2 : SG) (b' : BB), am_cl D kx (.inr (.inr (some (0, 0))) :: as) g = some (some (.inl v), g1) ∧ am_cl D km (.inr (.inr (some (12, 0))) :: as) g1 = some (some (.inl v), g2) ∧ CI g2 b' ∧ g2 14 = g 14 ∧ g1 14 = g 14
def AGL (D kx km : Nat) (as : List AV) : Prop := ∀ g b, CI g b → ∃ (v : Int64) (g1 g2 : SG) (b' : BB), am_cl D kx (.inr (.inr (some (0, 0))) :: as) g = some (some (.inr (.inl v)), g1) ∧ am_cl D km (.inr (.inr (some (12, 0))) :: as) g1 = some (some (.inr (.inl v)), g2) ∧ CI g2 b' ∧ g2 14 = g 14 ∧ g1 14 = g 14
theorem AGR.toI {d kx km : Nat} {as : List AV} {mm : am_MI} (h : AGR (d + 1) kx km as) (hy : ¬ 996 ≤ kx) (hm : am_mi kx = some mm) (hr : mm.2.2.2.1 = some .int) : AGI (d + 1) kx km as := by
  intro g b hC
  obtain ⟨r, g1, g2, b', h1, h2, h3, h4⟩ := h g b hC
  obtain ⟨v, hv⟩ := (am_cl_ty hy hm h1).1 hr
  cases hv
  exact ⟨v, g1, g2, b', h1, h2, h3, h4, (am_cl_ro _ _ _ _ _ _ h1).2⟩
theorem AGR.toL {d kx km : Nat} {as : List AV} {mm : am_MI} (h : AGR (d + 1) kx km as) (hy : ¬ 996 ≤ kx) (hm : am_mi kx = some mm) (hr : mm.2.2.2.1 = some .long) : AGL (d + 1) kx km as := by
  intro g b hC
  obtain ⟨r, g1, g2, b', h1, h2, h3, h4⟩ := h g b hC
  obtain ⟨v, hv⟩ := (am_cl_ty hy hm h1).2 hr
  cases hv
  exact ⟨v, g1, g2, b', h1, h2, h3, h4, (am_cl_ro _ _ _ _ _ _ h1).2⟩
