def am_nn (y : Nat) : MethodName := if y = 996 then Lib.Math.abs.name else if y = 997 then Lib.Math.max.name else if y = 998 then Lib.Math.min.name else arraycopyName
theorem am_nls_ok : am_nls.all (fun r => match am_on[r.1]? with
  | some o => decide (lw_tbl[r.2.2.2.2]? = some (.methodLink o r.2.1 (am_nn r.2.2.1))) && (decide (r.2.2.1 = 996 ∧ r.2.2.2.1 = 1) || decide (r.2.2.1 = 997 ∧ r.2.2.2.1 = 2) || decide (r.2.2.1 = 998 ∧ r.2.2.2.1 = 2) || decide (r.2.2.1 = 999 ∧ r.2.2.2.1 = 5))
  | none => false) = true := by decide +kernel
theorem am_n_abs : Cond.static Lib.Math.abs.name ∈ lw_tbl ∧ Cond.initialized "java/lang/Math" ∈ lw_tbl ∧ Cond.code Lib.Math.abs.name Lib.Math.abs.code 1 (some .int) ∈ lw_tbl := ⟨List.mem_of_getElem? (i := (am_npl.getD 0 (0, 0, 0)).1) (by decide +kernel), List.mem_of_getElem? (i := (am_npl.getD 0 (0, 0, 0)).2.2) (by decide +kernel), List.mem_of_getElem? (i := (am_npl.getD 0 (0, 0, 0)).2.1) (by decide +kernel)⟩
theorem am_n_max : Cond.static Lib.Math.max.name ∈ lw_tbl ∧ Cond.initialized "java/lang/Math" ∈ lw_tbl ∧ Cond.code Lib.Math.max.name Lib.Math.max.code 2 (some .int) ∈ lw_tbl := ⟨List.mem_of_getElem? (i := (am_npl.getD 1 (0, 0, 0)).1) (by decide +kernel), List.mem_of_getElem? (i := (am_npl.getD 1 (0, 0, 0)).2.2) (by decide +kernel), List.mem_of_getElem? (i := (am_npl.getD 1 (0, 0, 0)).2.1) (by decide +kernel)⟩
theorem am_n_min : Cond.static Lib.Math.min.name ∈ lw_tbl ∧ Cond.initialized "java/lang/Math" ∈ lw_tbl ∧ Cond.code Lib.Math.min.name Lib.Math.min.code 2 (some .int) ∈ lw_tbl := ⟨List.mem_of_getElem? (i := (am_npl.getD 2 (0, 0, 0)).1) (by decide +kernel), List.mem_of_getElem? (i := (am_npl.getD 2 (0, 0, 0)).2.2) (by decide +kernel), List.mem_of_getElem? (i := (am_npl.getD 2 (0, 0, 0)).2.1) (by decide +kernel)⟩
theorem am_n_cp : Cond.static arraycopyName ∈ lw_tbl ∧ Cond.native arraycopyName ∈ lw_tbl ∧ Cond.initialized "java/lang/System" ∈ lw_tbl := ⟨List.mem_of_getElem? (i := (am_npl.getD 3 (0, 0, 0)).1) (by decide +kernel), List.mem_of_getElem? (i := (am_npl.getD 3 (0, 0, 0)).2.1) (by decide +kernel), List.mem_of_getElem? (i := (am_npl.getD 3 (0, 0, 0)).2.2) (by decide +kernel)⟩
theorem am_nat_good {w : Cond} (h : w = Cond.native arraycopyName) : goodWord w = true := by subst h; rfl
theorem am_clamp {x : Int32} (h : 0 ≤ x.toInt) : ¬ x < 0 ∧ (x.toNatClampNeg : Int) = x.toInt := by
  refine ⟨fun q => ?_, ?_⟩
  · have := Int32.lt_iff_toInt_lt.mp q
    simp at this
    omega
  · show ((x.toInt.toNat : Nat) : Int) = x.toInt
    omega
theorem am_tb_in (x lo : Int) : ∀ (os : List Int) (k : Nat), x = lo + k → k < os.length → am_tb x lo os = os[k]?
  | [], k, _, h => absurd h (Nat.not_lt_zero k)
  | o :: os, 0, h, _ => by
    unfold am_tb
    rw [if_pos (by omega)]; rfl
  | o :: os, k + 1, h, hk => by
    unfold am_tb
    rw [if_neg (by omega)]
    have := am_tb_in x (lo + 1) os k (by omega) (by simpa using hk)
    simpa using this
theorem am_tb_out (x : Int) : ∀ (os : List Int) (lo : Int), (x < lo ∨ lo + os.length - 1 < x) → am_tb x lo os = none
  | [], lo, _ => rfl
  | o :: os, lo, h => by
    unfold am_tb
    simp only [List.length_cons] at h
    rw [if_neg (by omega)]
    exact am_tb_out x os (lo + 1) (by omega)
section
variable {p : Program} {l : Launch} {e : Env} {R : Room} {s : State} {m : MethodId} {args : Array Value} {below : List Frame} {meth : Method} {c : Code} {cells slots : Nat} {Q : State → Prop}
variable {ad : Nat → Nat → Nat} {D : va_G} {K : am_K3} {A : Nat → Prop} {Ts : List Cond} {nL d k : Nat} {on : String} {mm : am_MI} {r : Option AV} {gz : SG}
set_option maxHeartbeats 4000000 in
theorem am_inner (hx : p.tables.exec = Jvm.exec) (hmm : am_mi k = some mm) (hb : c.code = mm.2.1) (hml : c.maxLocals = nL) (hon : am_on[mm.2.2.2.2.1]? = some on) (hown : s.vm.findClass on = some m.cls) (hts : ∀ w ∈ Ts, w.before args s = true) (hT : ∀ w ∈ lw_tbl, goodWord w = true → w ∈ Ts)
    (hK : va_K D vwCl (am_tyl K) s) (hRf : d ≤ R.frames) (hRl : 40 * d ≤ R.locals) (hcl : cells ≤ R.cells) (hsl : slots ≤ R.slots)
    (IH : ∀ d', d = d' + 1 → ∀ y as g r g', am_cl d y as g = some (r, g') → ∀ mm, am_mts[y]? = some mm → Met l mm.1 (am_ws mm) (am_rm d') (am_Pc ad D K A as g) (am_Qc ad D K A r g') 0 0 A)
    (hret : ∀ (i : Instr) (pc : Nat) (ls : Array Slot) (H : Heap) (locs : List Loc), decode mm.2.1 pc = .ok (i, 1) → am_rt i r mm.2.2.2.1 → va_P D vwCl (am_wl ad K gz) H → va_S A s.heap H locs → W p l e R s m args below meth c H locs cells slots Q (F0 m pc ls (r.toList.map (am_cv ad)))) :
    ∀ (n pc : Nat) (L : LO) (st : List AV) (g : SG) (H : Heap) (locs : List Loc) (ls : Array Slot), am_rn (am_cl d) k n pc L st g = some (r, gz) → L.length = nL → lv_has ls nL (am_lo ad L) → va_P D vwCl (am_wl ad K g) H → va_D A (am_wl ad K g) → va_S A s.heap H locs → am_RO ad A g s s.heap →
      W p l e R s m args below meth c H locs cells slots Q (F0 m pc ls (st.map (am_cv ad))) := by
  intro n
  induction n with
  | zero => intro pc L st g H locs ls h; cases h
  | succ n ih =>
    intro pc L st g H locs ls h hLn hl hP hD hS hRO
    obtain ⟨i', a, b, cx, z, hf, hs, ha⟩ := am_rn_inv h
    unfold am_ft at hf
    rw [hmm] at hf
    obtain ⟨i, len, hd, hab, hrs, hlen⟩ := am_dc_inv hf
    have htab : ∀ (dflt lo hi : Int) (offs : Array Int), i = .tableswitch dflt lo hi offs → W p l e R s m args below meth c H locs cells slots Q (F0 m pc ls (st.map (am_cv ad))) := by
      intro dflt lo hi offs e
      subst e
      unfold am_ab at hab
      dsimp only at hab
      split at hab
      · next hq =>
        cases hab
        unfold am_st at hs
        dsimp only at hs
        split at hs
        · next x r' =>
          have htl : (offs.map (fun q => (pc : Int) + q)).toList = offs.toList.map (fun q => (pc : Int) + q) := by simp
          rw [htl] at hs
          by_cases ho : x.toInt < lo ∨ hi < x.toInt
          · rw [am_tb_out x.toInt _ lo (by rw [List.length_map, Array.length_toList]; omega)] at hs
            cases hs
            exact lv_tableOut hx hb hd ho (by omega) (ih _ _ _ _ _ _ _ ha hLn hl hP hD hS hRO)
          · have hk : (x.toInt - lo).toNat < offs.size := by omega
            rw [am_tb_in x.toInt lo _ (x.toInt - lo).toNat (by omega) (by rw [List.length_map, Array.length_toList]; exact hk)] at hs
            rw [List.getElem?_map] at hs
            cases hq2 : offs.toList[(x.toInt - lo).toNat]? with
            | none => rw [List.getElem?_eq_none_iff, Array.length_toList] at hq2; omega
            | some off =>
              rw [hq2] at hs
              have hpos := List.all_eq_true.mp hq.2.2 off (List.mem_of_getElem? hq2)
              simp only [decide_eq_true_eq] at hpos
              cases hs
              exact lv_tableIn (off := off) hx hb hd (by omega) (by omega) (by rw [← Array.getElem?_toList]; exact hq2) (by show (pc : Int) + off = (((pc : Int) + off).toNat : Int); omega) (ih _ _ _ _ _ _ _ ha hLn hl hP hD hS hRO)
        · cases hs
      · cases hab
    have hlen2 : len = am_ln i ∨ W p l e R s m args below meth c H locs cells slots Q (F0 m pc ls (st.map (am_cv ad))) := by
      rcases hlen with hlen | ⟨q1, q2, q3, q4, e⟩
      · exact Or.inl hlen
      · exact Or.inr (htab _ _ _ _ e)
    clear hlen
    refine hlen2.elim (fun hlen3 => ?_) id
    clear hlen2
    subst hlen3
    have kn : ∀ {pc' : Nat} {L' : LO} {st' : List AV} {ls' : Array Slot}, am_rn (am_cl d) k n pc' L' st' g = some (r, gz) → L'.length = nL → lv_has ls' nL (am_lo ad L') → W p l e R s m args below meth c H locs cells slots Q (F0 m pc' ls' (st'.map (am_cv ad))) := fun h1 h2 h3 => ih _ _ _ _ _ _ _ h1 h2 h3 hP hD hS hRO
    cases i <;> (try first
      | exact htab _ _ _ _ rfl
      | (obtain rfl := Option.some.inj hab; exact nomatch (hs : (none : Option ST) = some z)))
    all_goals obtain rfl := Option.some.inj hab
    case aconst_null => cases (hs : some _ = some z); exact lv_null hx hb hd (kn ha hLn hl)
    case iconst v => cases (hs : some _ = some z); exact lv_iconst hx hb hd rfl (kn ha hLn hl)
    case bipush v => cases (hs : some _ = some z); exact lv_bipush hx hb hd rfl (kn ha hLn hl)
    case sipush v => cases (hs : some _ = some z); exact lv_sipush hx hb hd rfl (kn ha hLn hl)
    case ldc ix =>
      cases (hs : some _ = some z)
      unfold am_rs at hrs
      dsimp only at hrs
      cases hq : am_cls.find? (fun r => r.1 == mm.2.2.2.2.1 && r.2.1 == ix) with
      | none => rw [hq] at hrs; cases hrs
      | some q =>
        rw [hq] at hrs
        cases hrs
        have h1 := List.find?_some hq
        have h2 := List.all_eq_true.mp am_cls_ok q (List.mem_of_find?_eq_some hq)
        simp only [Bool.and_eq_true, beq_iff_eq] at h1
        rw [h1.1, hon, h1.2] at h2
        simp only [decide_eq_true_eq] at h2
        exact lv_ldc hx hb hown (hts _ (hT _ (List.mem_of_getElem? h2) rfl)) hd (kn ha hLn hl)
    case ldc_w ix =>
      cases (hs : some _ = some z)
      unfold am_rs at hrs
      dsimp only at hrs
      cases hq : am_cls.find? (fun r => r.1 == mm.2.2.2.2.1 && r.2.1 == ix) with
      | none => rw [hq] at hrs; cases hrs
      | some q =>
        rw [hq] at hrs
        cases hrs
        have h1 := List.find?_some hq
        have h2 := List.all_eq_true.mp am_cls_ok q (List.mem_of_find?_eq_some hq)
        simp only [Bool.and_eq_true, beq_iff_eq] at h1
        rw [h1.1, hon, h1.2] at h2
        simp only [decide_eq_true_eq] at h2
        exact lv_ldcw hx hb hown (hts _ (hT _ (List.mem_of_getElem? h2) rfl)) hd (kn ha hLn hl)
    case ldc2_w ix =>
      cases (hs : some _ = some z)
      unfold am_rs at hrs
      dsimp only at hrs
      cases hq : am_lls.find? (fun r => r.1 == mm.2.2.2.2.1 && r.2.1 == ix) with
      | none => rw [hq] at hrs; cases hrs
      | some q =>
        rw [hq] at hrs
        cases hrs
        have h1 := List.find?_some hq
        have h2 := List.all_eq_true.mp am_lls_ok q (List.mem_of_find?_eq_some hq)
        simp only [Bool.and_eq_true, beq_iff_eq] at h1
        rw [h1.1, hon, h1.2] at h2
        simp only [decide_eq_true_eq] at h2
        exact lv_ldc2 hx hb hown (hts _ (hT _ (List.mem_of_getElem? h2) rfl)) hd (kn ha hLn hl)
    case iload j =>
      obtain ⟨v, h1, h2, rfl⟩ := am_ld_inv hs
      obtain ⟨x, rfl⟩ := am_so0 h2
      exact lv_iload hx hb hd (am_lo_at hl h1) (kn ha hLn hl)
    case iload_n j =>
      obtain ⟨v, h1, h2, rfl⟩ := am_ld_inv hs
      obtain ⟨x, rfl⟩ := am_so0 h2
      exact lv_iload_n hx hb hd rfl (am_lo_at hl h1) (kn ha hLn hl)
    case lload j =>
      obtain ⟨v, h1, h2, rfl⟩ := am_ld_inv hs
      obtain ⟨x, rfl⟩ := am_so1 h2
      exact lv_lload hx hb hd (am_lo_at hl h1) (kn ha hLn hl)
    case lload_n j =>
      obtain ⟨v, h1, h2, rfl⟩ := am_ld_inv hs
      obtain ⟨x, rfl⟩ := am_so1 h2
      exact lv_lload_n hx hb hd rfl (am_lo_at hl h1) (kn ha hLn hl)
    case aload j =>
      obtain ⟨v, h1, h2, rfl⟩ := am_ld_inv hs
      rcases am_so2 h2 with rfl | ⟨q, rfl⟩
      · exact lv_aloadN hx hb hd (am_lo_at hl h1) (kn ha hLn hl)
      · exact lv_aload hx hb hd (am_lo_at hl h1) (kn ha hLn hl)
    case aload_n j =>
      obtain ⟨v, h1, h2, rfl⟩ := am_ld_inv hs
      rcases am_so2 h2 with rfl | ⟨q, rfl⟩
      · exact lv_aload_nN hx hb hd rfl (am_lo_at hl h1) (kn ha hLn hl)
      · exact lv_aload_n hx hb hd rfl (am_lo_at hl h1) (kn ha hLn hl)
    case istore j =>
      obtain ⟨v, r', rfl, h2, h3, h4, rfl⟩ := am_s1_inv hs
      obtain ⟨x, rfl⟩ := am_so0 h2
      exact lv_istore hx hb hd hl (by omega) rfl (fun ls' h' => kn ha (by rw [List.length_set]; exact hLn) (am_lo_set h4 h'))
    case istore_n j =>
      obtain ⟨v, r', rfl, h2, h3, h4, rfl⟩ := am_s1_inv hs
      obtain ⟨x, rfl⟩ := am_so0 h2
      exact lv_istore_n hx hb hd rfl hl (by omega) rfl (fun ls' h' => kn ha (by rw [List.length_set]; exact hLn) (am_lo_set h4 h'))
    case astore j =>
      obtain ⟨v, r', rfl, h2, h3, h4, rfl⟩ := am_s1_inv hs
      rcases am_so2 h2 with rfl | ⟨q, rfl⟩
      · exact lv_astoreN hx hb hd hl (by omega) rfl (fun ls' h' => kn ha (by rw [List.length_set]; exact hLn) (am_lo_set h4 h'))
      · exact lv_astore hx hb hd hl (by omega) rfl (fun ls' h' => kn ha (by rw [List.length_set]; exact hLn) (am_lo_set h4 h'))
    case astore_n j =>
      obtain ⟨v, r', rfl, h2, h3, h4, rfl⟩ := am_s1_inv hs
      rcases am_so2 h2 with rfl | ⟨q, rfl⟩
      · exact lv_astore_nN hx hb hd rfl hl (by omega) rfl (fun ls' h' => kn ha (by rw [List.length_set]; exact hLn) (am_lo_set h4 h'))
      · exact lv_astore_n hx hb hd rfl hl (by omega) rfl (fun ls' h' => kn ha (by rw [List.length_set]; exact hLn) (am_lo_set h4 h'))
    case lstore j =>
      obtain ⟨x, r', rfl, h3, h4, rfl⟩ := am_s2_inv hs
      exact lv_lstore hx hb hd hl (by omega) rfl (fun ls' h' => kn ha (by rw [List.length_set, List.length_set]; exact hLn) (am_lo_set2 h4 h'))
    case lstore_n j =>
      obtain ⟨x, r', rfl, h3, h4, rfl⟩ := am_s2_inv hs
      exact lv_lstore_n hx hb hd rfl hl (by omega) rfl (fun ls' h' => kn ha (by rw [List.length_set, List.length_set]; exact hLn) (am_lo_set2 h4 h'))
    case iinc j v =>
      unfold am_st at hs
      dsimp only at hs
      split at hs
      · next x hj =>
        split at hs
        · next h4 =>
          cases hs
          obtain ⟨kx, hkx⟩ := List.getElem?_of_mem ((am_lo_mem ad L (j, .int x)).mpr ⟨.inl x, hj, rfl⟩)
          have hjl := (List.getElem?_eq_some_iff.mp hj).1
          exact lv_iinc hx hb hd hl hkx rfl (by omega) rfl (fun ls' h' => kn ha (by rw [List.length_set]; exact hLn) (am_lo_set (v := .inl (x + Int32.ofInt v)) h4 h'))
        · cases hs
      · cases hs
    case iadd => obtain ⟨y, x, r', rfl, rfl⟩ := am_b2_inv hs; exact lv_iadd hx hb hd (kn ha hLn hl)
    case isub => obtain ⟨y, x, r', rfl, rfl⟩ := am_b2_inv hs; exact lv_isub hx hb hd (kn ha hLn hl)
    case imul => obtain ⟨y, x, r', rfl, rfl⟩ := am_b2_inv hs; exact lv_imul hx hb hd (kn ha hLn hl)
    case iand => obtain ⟨y, x, r', rfl, rfl⟩ := am_b2_inv hs; exact lv_iand hx hb hd (kn ha hLn hl)
    case ior => obtain ⟨y, x, r', rfl, rfl⟩ := am_b2_inv hs; exact lv_ior hx hb hd (kn ha hLn hl)
    case ixor => obtain ⟨y, x, r', rfl, rfl⟩ := am_b2_inv hs; exact lv_ixor hx hb hd (kn ha hLn hl)
    case ishl => obtain ⟨y, x, r', rfl, rfl⟩ := am_b2_inv hs; exact lv_ishl hx hb hd (kn ha hLn hl)
    case ishr => obtain ⟨y, x, r', rfl, rfl⟩ := am_b2_inv hs; exact lv_ishr hx hb hd (kn ha hLn hl)
    case iushr => obtain ⟨y, x, r', rfl, rfl⟩ := am_b2_inv hs; exact lv_iushr hx hb hd rfl (kn ha hLn hl)
    case idiv =>
      unfold am_st at hs
      dsimp only at hs
      split at hs
      · split at hs
        · cases hs
        · next hne => cases hs; exact lv_idiv hx hb hd hne (kn ha hLn hl)
      · cases hs
    case irem =>
      unfold am_st at hs
      dsimp only at hs
      split at hs
      · split at hs
        · cases hs
        · next hne => cases hs; exact lv_irem hx hb hd hne (kn ha hLn hl)
      · cases hs
    case ineg => obtain ⟨x, r', rfl, rfl⟩ := am_b1_inv hs; exact lv_ineg hx hb hd (kn ha hLn hl)
    case i2b => obtain ⟨x, r', rfl, rfl⟩ := am_b1_inv hs; exact lv_i2b hx hb hd rfl (kn ha hLn hl)
    case i2s => obtain ⟨x, r', rfl, rfl⟩ := am_b1_inv hs; exact lv_i2s hx hb hd rfl (kn ha hLn hl)
    case i2l =>
      unfold am_st at hs
      dsimp only at hs
      split at hs
      · cases hs; exact lv_i2l hx hb hd rfl (kn ha hLn hl)
      · cases hs
    case ladd => obtain ⟨y, x, r', rfl, rfl⟩ := am_c2_inv hs; exact lv_ladd hx hb hd (kn ha hLn hl)
    case lmul => obtain ⟨y, x, r', rfl, rfl⟩ := am_c2_inv hs; exact lv_lmul hx hb hd (kn ha hLn hl)
    case lcmp =>
      unfold am_st at hs
      dsimp only at hs
      split at hs
      · cases hs; exact W.lcmp hx hb hd (kn ha hLn hl)
      · cases hs
    case dup =>
      unfold am_st at hs
      dsimp only at hs
      split at hs
      · split at hs
        · cases hs
        · next hne => cases hs; exact lv_dup hx hb hd (am_cat ad _ hne) (kn ha hLn hl)
      · cases hs
    case dup2 =>
      unfold am_st at hs
      dsimp only at hs
      split at hs
      · split at hs
        · cases hs
        · next hne => cases hs; exact lv_dup2_11 hx hb hd (am_cat ad _ (fun e => hne (Or.inl e))) (am_cat ad _ (fun e => hne (Or.inr e))) (kn ha hLn hl)
      · cases hs
    case pop =>
      unfold am_st at hs
      dsimp only at hs
      split at hs
      · split at hs
        · cases hs
        · next hne => cases hs; exact lv_pop hx hb hd (am_cat ad _ hne) (kn ha hLn hl)
      · cases hs
    case ifCond q off =>
      have htg := am_tg_inv hrs
      unfold am_st at hs
      dsimp only at hs
      split at hs
      · unfold am_br at hs
        cases q <;> dsimp only at hs <;> split at hs <;> cases hs <;> rename_i hq
        · exact lv_if_eq hx hb hd htg (fun _ => kn ha hLn hl) (fun e => absurd hq e)
        · exact lv_if_eq hx hb hd htg (fun e => absurd e hq) (fun _ => kn ha hLn hl)
        · exact lv_if_ne hx hb hd htg (fun e => absurd hq e) (fun _ => kn ha hLn hl)
        · exact lv_if_ne hx hb hd htg (fun _ => kn ha hLn hl) (fun e => absurd e hq)
        · exact lv_if_lt hx hb hd htg (fun _ => kn ha hLn hl) (fun e => absurd hq e)
        · exact lv_if_lt hx hb hd htg (fun e => absurd e hq) (fun _ => kn ha hLn hl)
        · exact lv_if_ge hx hb hd htg (fun _ => kn ha hLn hl) (fun e => absurd hq e)
        · exact lv_if_ge hx hb hd htg (fun e => absurd e hq) (fun _ => kn ha hLn hl)
        · exact lv_if_gt hx hb hd htg (fun _ => kn ha hLn hl) (fun e => absurd hq e)
        · exact lv_if_gt hx hb hd htg (fun e => absurd e hq) (fun _ => kn ha hLn hl)
        · exact lv_if_le hx hb hd htg (fun _ => kn ha hLn hl) (fun e => absurd hq e)
        · exact lv_if_le hx hb hd htg (fun e => absurd e hq) (fun _ => kn ha hLn hl)
      · cases hs
    case if_icmp q off =>
      have htg := am_tg_inv hrs
      unfold am_st at hs
      dsimp only at hs
      split at hs
      · unfold am_br at hs
        cases q <;> dsimp only at hs <;> split at hs <;> cases hs <;> rename_i hq
        · exact lv_icmp_eq hx hb hd htg (fun _ => kn ha hLn hl) (fun e => absurd hq e)
        · exact lv_icmp_eq hx hb hd htg (fun e => absurd e hq) (fun _ => kn ha hLn hl)
        · exact lv_icmp_ne hx hb hd htg (fun e => absurd hq e) (fun _ => kn ha hLn hl)
        · exact lv_icmp_ne hx hb hd htg (fun _ => kn ha hLn hl) (fun e => absurd e hq)
        · exact lv_icmp_lt hx hb hd htg (fun _ => kn ha hLn hl) (fun e => absurd hq e)
        · exact lv_icmp_lt hx hb hd htg (fun e => absurd e hq) (fun _ => kn ha hLn hl)
        · exact lv_icmp_ge hx hb hd htg (fun _ => kn ha hLn hl) (fun e => absurd hq e)
        · exact lv_icmp_ge hx hb hd htg (fun e => absurd e hq) (fun _ => kn ha hLn hl)
        · exact lv_icmp_gt hx hb hd htg (fun _ => kn ha hLn hl) (fun e => absurd hq e)
        · exact lv_icmp_gt hx hb hd htg (fun e => absurd e hq) (fun _ => kn ha hLn hl)
        · exact lv_icmp_le hx hb hd htg (fun _ => kn ha hLn hl) (fun e => absurd hq e)
        · exact lv_icmp_le hx hb hd htg (fun e => absurd e hq) (fun _ => kn ha hLn hl)
      · cases hs
    case goto off =>
      have htg := am_tg_inv hrs
      cases (hs : some _ = some z)
      exact lv_goto hx hb hd htg (kn ha hLn hl)
    case ifnull off =>
      have htg := am_tg_inv hrs
      unfold am_st at hs
      dsimp only at hs
      split at hs
      · cases hs; exact lv_ifnullN hx hb hd htg (kn ha hLn hl)
      · cases hs; exact lv_ifnull hx hb hd (kn ha hLn hl)
      · cases hs
    case ifnonnull off =>
      have htg := am_tg_inv hrs
      unfold am_st at hs
      dsimp only at hs
      split at hs
      · cases hs; exact lv_ifnonnullN hx hb hd (kn ha hLn hl)
      · cases hs; exact lv_ifnonnull hx hb hd htg (kn ha hLn hl)
      · cases hs
    all_goals sorry
end
