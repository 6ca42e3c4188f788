/-! ===== the cells of the small machine in the heap of the great one ===== -/
def am_cv (ad : Nat → Nat → Nat) (v : AV) : Value := match v with
  | .inl x => .int x
  | .inr (.inl x) => .long x
  | .inr (.inr none) => .null
  | .inr (.inr (some q)) => .ref (ad q.1 q.2)
def am_fv (ad : Nat → Nat → Nat) (g : SG) (o b : Nat) (q : Nat × Nat) : Value := if q.1 ≤ 1 then .int (g o 0 b) else if q.1 = 4 then .ref (ad q.2 0) else .ref (ad o (b + 1))
def am_fs (ad : Nat → Nat → Nat) (g : SG) (o : Nat) (r : List (Nat × Nat)) : List Value := r.mapIdx (fun b q => am_fv ad g o b q)
abbrev am_K3 : Type := ClassId × ClassId × ClassId
def am_et (ad : Nat → Nat → Nat) (K : am_K3) (g : SG) (q : Nat × Nat) : va_E := match q.2 with
  | 0 => match am_co q.1 with
    | some c => .inr (c, am_fs ad g q.1 (am_kt.getD c []))
    | none => .inr (0, [])
  | j + 1 => match am_al q.1 (j + 1) with
    | some (k, n) => if k = 0 then .inl (K.1, n, .inl (g q.1 (j + 1))) else if k = 1 then .inl (K.2.1, n, .inl (g q.1 (j + 1))) else .inl (K.2.2, n, .inr (.inr (.inr (.inr (fun i => some (ad (8 + i) 0))))))
    | none => .inr (0, [])
def am_ce : List (Nat × Nat) := (List.range 13).flatMap (fun o => ((List.range 32).filter (fun j => j == 0 || (am_al o j).isSome)).map (fun j => (o, j)))
theorem am_ce_nd : am_ce.Nodup := by decide +kernel
theorem am_co_lt {o c : Nat} (h : am_co o = some c) : o < 13 := (List.getElem?_eq_some_iff.mp h).1
theorem am_kt_len : am_kt.all (fun r => decide (r.length ≤ 31)) = true := by decide
theorem am_al_j {o j : Nat} {q : Nat × Nat} (h : am_al o j = some q) : j < 32 ∧ j ≠ 0 := by
  cases j with
  | zero => simp [am_al] at h
  | succ j =>
    refine ⟨?_, by omega⟩
    unfold am_al at h
    dsimp only at h
    split at h
    · split at h
      · omega
      · simp at h
    · split at h
      · split at h
        · omega
        · simp at h
      · split at h
        · simp at h
        · next c hc =>
          split at h
          · simp at h
          · next r hr =>
            split at h
            · simp at h
            · next z hz =>
              have h1 := List.all_eq_true.mp am_kt_len r (List.mem_of_getElem? hr)
              have h2 := (List.getElem?_eq_some_iff.mp hz).1
              simp at h1
              omega
theorem am_al_o {o j k n : Nat} (h : am_al o j = some (k, n)) (hk : k ≤ 2) : o < 13 := by
  cases j with
  | zero => simp [am_al] at h
  | succ j =>
    unfold am_al at h
    dsimp only at h
    split at h
    · split at h
      · simp at h; omega
      · simp at h
    · split at h
      · split at h
        · simp at h; omega
        · simp at h
      · split at h
        · simp at h
        · next c hc => exact (List.getElem?_eq_some_iff.mp hc).1
theorem am_al_k {o j k n : Nat} (h : am_al o j = some (k, n)) : k ≤ 4 ∧ (k = 3 → o = 13 ∧ j = 1 ∧ n = 3) ∧ (k = 4 → o = 14 ∧ j = 1) := by
  cases j with
  | zero => simp [am_al] at h
  | succ j =>
    unfold am_al at h
    dsimp only at h
    split at h
    · split at h
      · simp at h; omega
      · simp at h
    · split at h
      · split at h
        · simp at h; omega
        · simp at h
      · split at h
        · simp at h
        · split at h
          · simp at h
          · split at h
            · simp at h
            · split at h
              · simp at h; omega
              · split at h
                · simp at h; omega
                · split at h
                  · simp at h; omega
                  · simp at h
theorem am_ce_o {o c : Nat} (h : am_co o = some c) : (o, 0) ∈ am_ce := by
  refine List.mem_flatMap.mpr ⟨o, List.mem_range.mpr (am_co_lt h), List.mem_map.mpr ⟨0, List.mem_filter.mpr ⟨List.mem_range.mpr (by omega), rfl⟩, rfl⟩⟩
theorem am_ce_a {o j k n : Nat} (h : am_al o j = some (k, n)) (hk : k ≤ 2) : (o, j) ∈ am_ce := by
  refine List.mem_flatMap.mpr ⟨o, List.mem_range.mpr (am_al_o h hk), List.mem_map.mpr ⟨j, List.mem_filter.mpr ⟨List.mem_range.mpr (am_al_j h).1, by simp [h]⟩, rfl⟩⟩
def am_wl (ad : Nat → Nat → Nat) (K : am_K3) (g : SG) : va_W := am_ce.map (fun q => (ad q.1 q.2, am_et ad K g q))
theorem am_wl_at (ad : Nat → Nat → Nat) (K : am_K3) (g : SG) {i : Nat} {q : Nat × Nat} (h : am_ce[i]? = some q) : (am_wl ad K g)[i]? = some (ad q.1 q.2, am_et ad K g q) := by
  unfold am_wl
  rw [List.getElem?_map, h]; rfl
theorem am_wl_set (ad : Nat → Nat → Nat) (K : am_K3) (g g' : SG) {i : Nat} {q : Nat × Nat} (h : am_ce[i]? = some q) (ho : ∀ z, z ≠ q → am_et ad K g' z = am_et ad K g z) : (am_wl ad K g).set i (ad q.1 q.2, am_et ad K g' q) = am_wl ad K g' := by
  apply List.ext_getElem?
  intro n
  unfold am_wl
  rw [List.getElem?_set]
  have hl := (List.getElem?_eq_some_iff.mp h).1
  by_cases hn : i = n
  · subst hn
    rw [if_pos rfl, List.length_map, if_pos hl, List.getElem?_map, h]; rfl
  · rw [if_neg hn, List.getElem?_map, List.getElem?_map]
    cases hz : am_ce[n]? with
    | none => rfl
    | some z =>
      have hne : z ≠ q := by
        intro e
        subst e
        exact hn ((List.getElem?_inj hl am_ce_nd).mp (h.trans hz.symm))
      simp only [Option.map_some]
      rw [ho z hne]
theorem am_fs_wr (ad : Nat → Nat → Nat) (g : SG) (o j i : Nat) (v : Int32) (o' : Nat) (r : List (Nat × Nat)) (h : o' = o → j ≠ 0) : am_fs ad (wr g o j i v) o' r = am_fs ad g o' r := by
  unfold am_fs
  congr 1
  funext b q
  unfold am_fv wr
  by_cases e : o' = o
  · rw [if_neg (fun z : o' = o ∧ 0 = j ∧ b = i => h e z.2.1.symm)]
  · rw [if_neg (fun z : o' = o ∧ 0 = j ∧ b = i => e z.1)]
theorem am_row_wr (g : SG) (o j i : Nat) (v : Int32) (o' j' : Nat) (h : ¬ (o' = o ∧ j' = j)) : wr g o j i v o' j' = g o' j' := by
  funext q
  unfold wr
  rw [if_neg (fun z => h ⟨z.1, z.2.1⟩)]
theorem am_row_up (g : SG) (o j i : Nat) (v : Int32) : wr g o j i v o j = upd (g o j) i v := by
  funext q
  unfold wr upd
  simp
theorem am_et_wr (ad : Nat → Nat → Nat) (K : am_K3) (g : SG) (o j i : Nat) (v : Int32) (z : Nat × Nat) (h : z ≠ (o, j)) : am_et ad K (wr g o j i v) z = am_et ad K g z := by
  obtain ⟨o', j'⟩ := z
  have hn : ¬ (o' = o ∧ j' = j) := fun e => h (by rw [e.1, e.2])
  unfold am_et
  cases j' with
  | zero =>
    dsimp only
    cases am_co o' with
    | none => rfl
    | some c => dsimp only; rw [am_fs_wr ad g o j i v o' _ (fun e1 e2 => hn ⟨e1, e2.symm⟩)]
  | succ j' =>
    dsimp only
    rw [am_row_wr g o j i v o' (j' + 1) hn]
theorem am_fs_set (ad : Nat → Nat → Nat) (g : SG) (o b : Nat) (v : Int32) (r : List (Nat × Nat)) (q : Nat × Nat) (hq : r[b]? = some q) (h1 : q.1 ≤ 1) : (am_fs ad g o r).set b (.int v) = am_fs ad (wr g o 0 b v) o r := by
  apply List.ext_getElem?
  intro n
  unfold am_fs
  rw [List.getElem?_set, List.length_mapIdx]
  have hl := (List.getElem?_eq_some_iff.mp hq).1
  by_cases hn : b = n
  · subst hn
    rw [if_pos rfl, if_pos hl, List.getElem?_mapIdx, hq]
    simp [am_fv, h1, wr]
  · rw [if_neg hn, List.getElem?_mapIdx, List.getElem?_mapIdx]
    cases r[n]? with
    | none => rfl
    | some z =>
      have e : am_fv ad (wr g o 0 b v) o n z = am_fv ad g o n z := by
        unfold am_fv wr
        rw [if_neg (fun z : o = o ∧ 0 = 0 ∧ n = b => hn z.2.2.symm)]
      simp only [Option.map_some, e]
/-- the fields of the kinds of objects, in the tables' words -/
theorem am_vw (ci : Nat) (q : vw_C) (h : vwCl[ci]? = some q) : ∃ (r : List (Nat × Nat)) (ty : Nat → FieldType), am_kt[ci]? = some r ∧ r.length = q.2.2 ∧ (∀ k, k < q.2.2 → parseFieldDescriptor (q.2.1 k).2.2.1 = some (ty k)) ∧ (∀ a, a < q.2.2 → ∀ b, b < q.2.2 → a ≠ b → (q.2.1 a).2.1 ≠ (q.2.1 b).2.1) ∧
    (∀ w ∈ u_ws q.1 q.2.1 q.2.2, w ∈ lw_tbl ∧ goodWord w = true) ∧ (∀ j z, r[j]? = some z → z.1 = 0 → ty j = .int ∧ (q.2.1 j).2.2.2 = false) ∧ (∀ j z, r[j]? = some z → z.1 = 1 → ty j = .boolean ∧ (q.2.1 j).2.2.2 = false) := by
  have key : ∀ (C : String) (T : u_T) (N : Nat) (ps : List Nat), (List.range N).all (fun k => decide (lw_tbl[ps.getD k 0]? = some (u_lay C T k)) && goodWord (u_lay C T k)) = true → ∀ w ∈ u_ws C T N, w ∈ lw_tbl ∧ goodWord w = true := by
    intro C T N ps h w hw
    obtain ⟨k, hk, rfl⟩ := List.mem_map.mp hw
    have h1 := List.all_eq_true.mp h k hk
    simp only [Bool.and_eq_true, decide_eq_true_eq] at h1
    exact ⟨List.mem_of_getElem? h1.1, h1.2⟩
  have fld : ∀ (T : u_T) (ty : Nat → FieldType) (r : List (Nat × Nat)) (n : Nat) (t : FieldType), (List.range r.length).all (fun j => !((r.getD j (9, 0)).1 == n) || (decide (ty j = t) && !(T j).2.2.2)) = true → ∀ j z, r[j]? = some z → z.1 = n → ty j = t ∧ (T j).2.2.2 = false := by
    intro T ty r n t h j z hz hn
    have hl := (List.getElem?_eq_some_iff.mp hz).1
    have h1 := List.all_eq_true.mp h j (List.mem_range.mpr hl)
    rw [List.getD_eq_getElem?_getD, hz] at h1
    simp [hn] at h1
    exact h1
  match ci, h with
  | 0, h => cases h; exact ⟨_, tyX0, rfl, rfl, tyX0_ok, nmX0, key _ _ _ (am_lay.getD 0 []) (by decide +kernel), fld _ _ _ _ _ (by decide +kernel), fld _ _ _ _ _ (by decide +kernel)⟩
  | 1, h => cases h; exact ⟨_, tyX1, rfl, rfl, tyX1_ok, nmX1, key _ _ _ (am_lay.getD 1 []) (by decide +kernel), fld _ _ _ _ _ (by decide +kernel), fld _ _ _ _ _ (by decide +kernel)⟩
  | 2, h => cases h; exact ⟨_, tyX2, rfl, rfl, tyX2_ok, nmX2, key _ _ _ (am_lay.getD 2 []) (by decide +kernel), fld _ _ _ _ _ (by decide +kernel), fld _ _ _ _ _ (by decide +kernel)⟩
  | 3, h => cases h; exact ⟨_, tyX3, rfl, rfl, tyX3_ok, nmX3, key _ _ _ (am_lay.getD 3 []) (by decide +kernel), fld _ _ _ _ _ (by decide +kernel), fld _ _ _ _ _ (by decide +kernel)⟩
  | 4, h => cases h; exact ⟨_, tyX4, rfl, rfl, tyX4_ok, nmX4, key _ _ _ (am_lay.getD 4 []) (by decide +kernel), fld _ _ _ _ _ (by decide +kernel), fld _ _ _ _ _ (by decide +kernel)⟩
  | 5, h => cases h; exact ⟨_, tyX5, rfl, rfl, tyX5_ok, nmX5, key _ _ _ (am_lay.getD 5 []) (by decide +kernel), fld _ _ _ _ _ (by decide +kernel), fld _ _ _ _ _ (by decide +kernel)⟩
  | 6, h => cases h; exact ⟨_, tyX6, rfl, rfl, tyX6_ok, nmX6, key _ _ _ (am_lay.getD 6 []) (by decide +kernel), fld _ _ _ _ _ (by decide +kernel), fld _ _ _ _ _ (by decide +kernel)⟩
  | n + 7, h => simp [vwCl] at h
/-- links, in the tables' words -/
def am_isN : Cond → Bool
  | .fieldLinkNest .. => true
  | .methodLinkNest .. => true
  | _ => false
def am_fw (r : am_FL) : Option Cond := match am_on[r.1]?, vwCl[r.2.2.1]? with
  | some o, some q => some (if r.2.2.2.2.2 = 0 then .fieldLink o r.2.1 (q.2.1 r.2.2.2.1).1 (q.2.1 r.2.2.2.1).2.1 (q.2.1 r.2.2.2.1).2.2.1 else .fieldLinkNest o r.2.1 (q.2.1 r.2.2.2.1).1 (q.2.1 r.2.2.2.1).2.1 (q.2.1 r.2.2.2.1).2.2.1 "PromisesKept")
  | _, _ => none
theorem am_fls_ok : am_fls.all (fun r => decide (lw_tbl[r.2.2.2.2.1]? = am_fw r) && (am_fw r).isSome) = true := by decide +kernel
def am_mw (r : am_ML) : Option Cond := match am_on[r.1]?, am_mts[r.2.2.1]? with
  | some o, some m => some (if r.2.2.2.2 = 0 then .methodLink o r.2.1 m.1 else .methodLinkNest o r.2.1 m.1 "PromisesKept")
  | _, _ => none
theorem am_vls_ok : am_vls.all (fun r => decide (lw_tbl[r.2.2.2.1]? = am_mw r) && (am_mw r).isSome) = true := by decide +kernel
theorem am_sls_ok : am_sls.all (fun r => decide (lw_tbl[r.2.2.2.1]? = am_mw r) && (am_mw r).isSome) = true := by decide +kernel
theorem am_cls_ok : am_cls.all (fun r => match am_on[r.1]? with
  | some o => decide (lw_tbl[r.2.2.2]? = some (.constant o r.2.1 (Int32.ofNat r.2.2.1)))
  | none => false) = true := by decide +kernel
theorem am_lls_ok : am_lls.all (fun r => match am_on[r.1]? with
  | some o => decide (lw_tbl[r.2.2.2]? = some (.constantLong o r.2.1 (Int64.ofNat r.2.2.1)))
  | none => false) = true := by decide +kernel
/-- what the table says of a method's row -/
def am_mok (m : am_MI) (p : Nat × Nat × Nat × Nat) : Bool := decide (am_on[m.2.2.2.2.1]? = some m.1.cls) && (decide (lw_tbl[p.2.2.2]? = some (.initialized m.1.cls)) && ((match m.2.2.2.2.2.1 with
  | true => decide (lw_tbl[p.2.1]? = some (.static m.1))
  | false => decide (lw_tbl[p.2.1]? = some (.instanceMethod m.1)) && decide (lw_tbl[p.2.2.1]? = some (.selects m.1.cls m.1 m.1))) && (decide (m.1.cls ≠ "java/lang/invoke/MethodHandle") && (decide (m.1.cls ≠ "java/lang/invoke/VarHandle") && (decide ((parseMethodDescriptor m.1.desc).map (fun d => d.parameters.length) = some m.2.2.2.2.2.2) && (plainName m.1.cls && decide (m.2.2.1 ≤ 21)))))))
def am_cw (m : am_MI) : Cond := .code m.1 m.2.1 m.2.2.1 m.2.2.2.1
def am_mk (m : am_MI) : Prop := am_cw m ∈ lw_tbl ∧ ∃ p, am_mok m p = true
theorem am_mk_of (ms : List am_MI) (ps : List (Nat × Nat × Nat × Nat)) (h1 : ms.map am_cw = ps.filterMap (fun p => lw_tbl[p.1]?)) (h2 : ms.length = ps.length) (h3 : (ms.zip ps).all (fun q => am_mok q.1 q.2) = true) : ∀ m ∈ ms, am_mk m := by
  intro m hm
  refine ⟨?_, ?_⟩
  · have h : am_cw m ∈ ms.map am_cw := List.mem_map.mpr ⟨m, hm, rfl⟩
    rw [h1] at h
    obtain ⟨p, -, hp⟩ := List.mem_filterMap.mp h
    exact List.mem_of_getElem? hp
  · obtain ⟨k, hk⟩ := List.getElem?_of_mem hm
    have hl := (List.getElem?_eq_some_iff.mp hk).1
    have hp : k < ps.length := h2 ▸ hl
    refine ⟨ps[k], ?_⟩
    refine List.all_eq_true.mp h3 (m, ps[k]) ?_
    refine List.mem_of_getElem? (i := k) ?_
    rw [List.getElem?_zip_eq_some]
    exact ⟨hk, List.getElem?_eq_getElem hp⟩
set_option maxRecDepth 100000 in
theorem am_mk_0 : ∀ m ∈ am_mt_0, am_mk m := am_mk_of _ am_pl_0 rfl rfl (by decide +kernel)
set_option maxRecDepth 100000 in
theorem am_mk_1 : ∀ m ∈ am_mt_1, am_mk m := am_mk_of _ am_pl_1 rfl rfl (by decide +kernel)
set_option maxRecDepth 100000 in
theorem am_mk_2 : ∀ m ∈ am_mt_2, am_mk m := am_mk_of _ am_pl_2 rfl rfl (by decide +kernel)
set_option maxRecDepth 100000 in
theorem am_mk_3 : ∀ m ∈ am_mt_3, am_mk m := am_mk_of _ am_pl_3 rfl rfl (by decide +kernel)
set_option maxRecDepth 100000 in
theorem am_mk_4 : ∀ m ∈ am_mt_4, am_mk m := am_mk_of _ am_pl_4 rfl rfl (by decide +kernel)
set_option maxRecDepth 100000 in
theorem am_mk_5 : ∀ m ∈ am_mt_5, am_mk m := am_mk_of _ am_pl_5 rfl rfl (by decide +kernel)
set_option maxRecDepth 100000 in
theorem am_mk_6 : ∀ m ∈ am_mt_6, am_mk m := am_mk_of _ am_pl_6 rfl rfl (by decide +kernel)
set_option maxRecDepth 100000 in
theorem am_mk_7 : ∀ m ∈ am_mt_7, am_mk m := am_mk_of _ am_pl_7 rfl rfl (by decide +kernel)
set_option maxRecDepth 100000 in
theorem am_mk_8 : ∀ m ∈ am_mt_8, am_mk m := am_mk_of _ am_pl_8 rfl rfl (by decide +kernel)
set_option maxRecDepth 100000 in
theorem am_mk_9 : ∀ m ∈ am_mt_9, am_mk m := am_mk_of _ am_pl_9 rfl rfl (by decide +kernel)
set_option maxRecDepth 100000 in
theorem am_mk_10 : ∀ m ∈ am_mt_10, am_mk m := am_mk_of _ am_pl_10 rfl rfl (by decide +kernel)
set_option maxRecDepth 100000 in
theorem am_mk_11 : ∀ m ∈ am_mt_11, am_mk m := am_mk_of _ am_pl_11 rfl rfl (by decide +kernel)
set_option maxRecDepth 100000 in
theorem am_mk_12 : ∀ m ∈ am_mt_12, am_mk m := am_mk_of _ am_pl_12 rfl rfl (by decide +kernel)
theorem am_mk_all : ∀ m ∈ am_mts, am_mk m := by
  show ∀ m ∈ am_mt_0 ++ (am_mt_1 ++ (am_mt_2 ++ (am_mt_3 ++ (am_mt_4 ++ (am_mt_5 ++ (am_mt_6 ++ (am_mt_7 ++ (am_mt_8 ++ (am_mt_9 ++ (am_mt_10 ++ (am_mt_11 ++ (am_mt_12)))))))))))), am_mk m
  exact List.forall_mem_append.mpr ⟨am_mk_0, List.forall_mem_append.mpr ⟨am_mk_1, List.forall_mem_append.mpr ⟨am_mk_2, List.forall_mem_append.mpr ⟨am_mk_3, List.forall_mem_append.mpr ⟨am_mk_4, List.forall_mem_append.mpr ⟨am_mk_5, List.forall_mem_append.mpr ⟨am_mk_6, List.forall_mem_append.mpr ⟨am_mk_7, List.forall_mem_append.mpr ⟨am_mk_8, List.forall_mem_append.mpr ⟨am_mk_9, List.forall_mem_append.mpr ⟨am_mk_10, List.forall_mem_append.mpr ⟨am_mk_11, am_mk_12⟩⟩⟩⟩⟩⟩⟩⟩⟩⟩⟩⟩
