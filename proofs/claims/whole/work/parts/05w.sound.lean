theorem am_rn_ro {C : Nat → List AV → SG → Option RE} {k : Nat} (hC : ∀ y as g r g', C y as g = some (r, g') → g' 13 = g 13 ∧ g' 14 = g 14) : ∀ (n pc : Nat) (L : LO) (st : List AV) (g : SG) (r : Option AV) (g' : SG), am_rn C k n pc L st g = some (r, g') → g' 13 = g 13 ∧ g' 14 = g 14 := by
  intro n
  induction n with
  | zero => intro pc L st g r g' h; cases h
  | succ n ih =>
    intro pc L st g r g' h
    obtain ⟨i, a, b, c, z, hf, hs, ha⟩ := am_rn_inv h
    rcases z with ⟨pc1, L1, st1, g1⟩ | r1 | ⟨y, as, rest⟩
    · have h1 := am_st_ro hs
      have h2 := ih _ _ _ _ _ _ ha
      exact ⟨h2.1.trans h1.1, h2.2.trans h1.2⟩
    · cases ha; exact ⟨rfl, rfl⟩
    · unfold am_af at ha
      dsimp only at ha
      cases hc : C y as g with
      | none => rw [hc] at ha; cases ha
      | some w =>
        rw [hc] at ha
        obtain ⟨r1, g1⟩ := w
        have h1 := hC _ _ _ _ _ hc
        have h2 := ih _ _ _ _ _ _ ha
        exact ⟨h2.1.trans h1.1, h2.2.trans h1.2⟩
theorem am_na_ro {y : Nat} {as : List AV} {g : SG} {r : Option AV} {g' : SG} (h : am_na y as g = some (r, g')) : g' 13 = g 13 ∧ g' 14 = g 14 := by
  unfold am_na at h
  split at h
  · unfold am_cp at h
    split at h
    · next o j sp u v dp n =>
      split at h
      · next k0 n0 k1 n1 h0 h1 =>
        split at h
        · next hq =>
          cases h
          have hu := am_al_o h1 (by omega)
          constructor
          · funext b c; dsimp only; rw [if_neg (fun z => by omega)]
          · funext b c; dsimp only; rw [if_neg (fun z => by omega)]
        · cases h
      · cases h
    · cases h
  · split at h
    · split at h
      · cases h; exact ⟨rfl, rfl⟩
      · cases h
    · split at h
      · cases h; exact ⟨rfl, rfl⟩
      · split at h
        · cases h; exact ⟨rfl, rfl⟩
        · cases h
    · cases h
theorem am_cl_ro : ∀ (d y : Nat) (as : List AV) (g : SG) (r : Option AV) (g' : SG), am_cl d y as g = some (r, g') → g' 13 = g 13 ∧ g' 14 = g 14 := by
  intro d
  induction d with
  | zero => intro y as g r g' h; cases h
  | succ d ih =>
    intro y as g r g' h
    rw [am_cl] at h
    split at h
    · exact am_na_ro h
    · split at h
      · cases h
      · split at h
        · obtain ⟨n, hn⟩ := (am_ev_iff _ _ _ _ _ _ _).mp h
          exact am_rn_ro ih n _ _ _ _ _ _ hn
        · cases h
theorem am_fl_word {own ix : Nat} {row : am_FL} {on : String} (h : am_fls.find? (fun r => r.1 == own && r.2.1 == ix) = some row) (ho : am_on[own]? = some on) : ∃ q : vw_C, vwCl[row.2.2.1]? = some q ∧ (if row.2.2.2.2.2 = 0 then Jvm.Cond.fieldLink on ix (q.2.1 row.2.2.2.1).1 (q.2.1 row.2.2.2.1).2.1 (q.2.1 row.2.2.2.1).2.2.1 else .fieldLinkNest on ix (q.2.1 row.2.2.2.1).1 (q.2.1 row.2.2.2.1).2.1 (q.2.1 row.2.2.2.1).2.2.1 "PromisesKept") ∈ lw_tbl := by
  have h1 := List.find?_some h
  have h2 := List.all_eq_true.mp am_fls_ok row (List.mem_of_find?_eq_some h)
  simp only [Bool.and_eq_true, beq_iff_eq, decide_eq_true_eq] at h1 h2
  obtain ⟨e1, e2⟩ := h1
  obtain ⟨e3, e4⟩ := h2
  unfold am_fw at e3 e4
  rw [e1, ho] at e3 e4
  cases hq : vwCl[row.2.2.1]? with
  | none => rw [hq] at e4; cases e4
  | some q =>
    rw [hq] at e3
    dsimp only at e3
    rw [e2] at e3
    exact ⟨q, rfl, List.mem_of_getElem? e3⟩
theorem am_ml_word {own ix : Nat} {row : am_ML} {on : String} {ms : List am_ML} (hok : ms.all (fun r => decide (lw_tbl[r.2.2.2.1]? = am_mw r) && (am_mw r).isSome) = true) (h : ms.find? (fun r => r.1 == own && r.2.1 == ix) = some row) (ho : am_on[own]? = some on) {m : am_MI} (hm : am_mts[row.2.2.1]? = some m) : (if row.2.2.2.2 = 0 then Jvm.Cond.methodLink on ix m.1 else .methodLinkNest on ix m.1 "PromisesKept") ∈ lw_tbl := by
  have h1 := List.find?_some h
  have h2 := List.all_eq_true.mp hok row (List.mem_of_find?_eq_some h)
  simp only [Bool.and_eq_true, beq_iff_eq, decide_eq_true_eq] at h1 h2
  obtain ⟨e1, e2⟩ := h1
  obtain ⟨e3, e4⟩ := h2
  unfold am_mw at e3 e4
  rw [e1, ho, hm] at e3
  dsimp only at e3
  rw [e2] at e3
  exact List.mem_of_getElem? e3
theorem am_fv_get (ad : Nat → Nat → Nat) (g : SG) (o b : Nat) (z : Nat × Nat) : am_cv ad (match am_fk z with
    | 0 => .inl (g o 0 b)
    | 1 => .inr (.inr (some (o, b + 1)))
    | k + 2 => .inr (.inr (some (k, 0)))) = am_fv ad g o b z := by
  unfold am_fk am_fv
  by_cases h : z.1 ≤ 1
  · rw [if_pos h, if_pos h]; rfl
  · rw [if_neg h, if_neg h]
    by_cases h4 : z.1 = 4
    · rw [if_pos h4, if_pos h4]; rfl
    · rw [if_neg h4, if_neg h4]; rfl
theorem am_et_o (ad : Nat → Nat → Nat) (K : am_K3) (g : SG) {o a : Nat} (h : am_co o = some a) : am_et ad K g (o, 0) = .inr (a, am_fs ad g o (am_kt.getD a [])) := by
  unfold am_et
  dsimp only
  rw [h]
theorem am_et_a (ad : Nat → Nat → Nat) (K : am_K3) (g : SG) {o j n : Nat} (h : am_al o j = some (0, n)) : am_et ad K g (o, j) = .inl (K.1, n, .inl (g o j)) := by
  cases j with
  | zero => cases h
  | succ j =>
    unfold am_et
    dsimp only
    rw [h]
    rfl
theorem am_et_z (ad : Nat → Nat → Nat) (K : am_K3) (g : SG) {o j n : Nat} (h : am_al o j = some (1, n)) : am_et ad K g (o, j) = .inl (K.2.1, n, .inl (g o j)) := by
  cases j with
  | zero => cases h
  | succ j =>
    unfold am_et
    dsimp only
    rw [h]
    rfl
theorem am_et_q (ad : Nat → Nat → Nat) (K : am_K3) (g : SG) {o j n : Nat} (h : am_al o j = some (2, n)) : am_et ad K g (o, j) = .inl (K.2.2, n, .inr (.inr (.inr (.inr (fun i => some (ad (8 + i) 0)))))) := by
  cases j with
  | zero => cases h
  | succ j =>
    unfold am_et
    dsimp only
    rw [h]
    rfl
theorem am_at {q : Nat × Nat} (h : q ∈ am_ce) : ∃ i : Nat, am_ce[i]? = some q := List.getElem?_of_mem h
theorem am_cat_sum (ad : Nat → Nat → Nat) (rest : List AV) (h : rest.length ≤ 4) : ((rest.map (am_cv ad)).map fun v => v.category).sum ≤ 8 := by
  have key : ∀ r : List AV, ((r.map (am_cv ad)).map fun v => v.category).sum ≤ 2 * r.length := by
    intro r
    induction r with
    | nil => simp
    | cons v r ih =>
      have h1 : (am_cv ad v).category ≤ 2 := by
        rcases lv_cat (am_cv ad v) with e | e <;> omega
      simp only [List.map_cons, List.sum_cons, List.length_cons]
      omega
  have := key rest
  omega
def am_rt (i : Instr) (r : Option AV) (ret : Option FieldType) : Prop := (i = .ireturn ∧ ∃ x, r = some (.inl x) ∧ (ret = some .int ∨ (ret = some .boolean ∧ (x = 0 ∨ x = 1)))) ∨ (i = .lreturn ∧ ∃ x, r = some (.inr (.inl x)) ∧ ret = some .long) ∨ (i = .areturn ∧ ∃ x n, r = some (.inr (.inr x)) ∧ ret = some (.object n)) ∨ (i = .return_ ∧ r = none ∧ ret = none)
/-- a call's end in the great machine -/
theorem am_after {p : Program} {l : Launch} {e : Env} {R : Room} {s : State} {m : MethodId} {args : Array Value} {below : List Frame} {meth : Method} {c : Code} {H : Heap} {locs : List Loc} {cells slots : Nat} {Q : State → Prop} {pc : Nat} {ls : Array Slot} {st0 rest : List Value} {a : Array Value} {ad : Nat → Nat → Nat} {D : va_G} {K : am_K3} {A : Nat → Prop} {r1 : Option AV} {g1 : SG}
    (hr : va_Run p l e R s m args below meth c H locs cells slots 0 0 (F0 m pc ls st0) rest (am_Qc ad D K A r1 g1 a) A) (hS : va_S A s.heap H locs)
    (kk : ∀ (H1 : Heap) (locs1 : List Loc), va_P D vwCl (am_wl ad K g1) H1 → va_S A s.heap H1 locs1 → W p l e R s m args below meth c H1 locs1 cells slots Q (F0 m (pc + 3) ls ((r1.map (am_cv ad)).toList ++ rest))) : W p l e R s m args below meth c H locs cells slots Q (F0 m pc ls st0) := by
  intro T hT X
  obtain ⟨v, st₀, t, T', L, h0, X', hL, e1, e2, ⟨hv, hp, hz, hk⟩, st⟩ := hr T hT X
  cases hv
  rw [h0] at hz hk
  obtain ⟨t2, a1, b1⟩ := kk T'.heap (locs ++ L) (by rw [e1]; exact hp)
    ⟨Nat.le_trans hS.1 (by rw [e1]; exact hz), fun q h1 h2 => by rw [e1, hk q (Nat.lt_of_lt_of_le h1 hS.1) h2]; exact hS.2.1 q h1 h2, fun q hq => by
      rcases List.mem_append.mp hq with h | h
      · exact hS.2.2 q h
      · exact hL q h⟩ T' rfl X'
  exact ⟨t2, st t2 a1, b1⟩
