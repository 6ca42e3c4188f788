def am_nn (y : Nat) : MethodName := if y = 996 then Lib.Math.abs.name else if y = 997 then Lib.Math.max.name else if y = 998 then Lib.Math.min.name else arraycopyName
theorem am_nls_ok : am_nls.all (fun r => match am_on[r.1]? with
  | some o => decide (lw_tbl[r.2.2.2.2]? = some (.methodLink o r.2.1 (am_nn r.2.2.1))) && (decide (r.2.2.1 = 996 ∧ r.2.2.2.1 = 1) || decide (r.2.2.1 = 997 ∧ r.2.2.2.1 = 2) || decide (r.2.2.1 = 998 ∧ r.2.2.2.1 = 2) || decide (r.2.2.1 = 999 ∧ r.2.2.2.1 = 5))
  | none => false) = true := by decide +kernel
theorem am_n_abs : Cond.static Lib.Math.abs.name ∈ lw_tbl ∧ Cond.initialized "java/lang/Math" ∈ lw_tbl ∧ Cond.code Lib.Math.abs.name Lib.Math.abs.code 1 (some .int) ∈ lw_tbl := ⟨List.mem_of_getElem? (i := (am_npl.getD 0 (0, 0, 0)).1) (by decide +kernel), List.mem_of_getElem? (i := (am_npl.getD 0 (0, 0, 0)).2.2) (by decide +kernel), List.mem_of_getElem? (i := (am_npl.getD 0 (0, 0, 0)).2.1) (by decide +kernel)⟩
theorem am_n_max : Cond.static Lib.Math.max.name ∈ lw_tbl ∧ Cond.initialized "java/lang/Math" ∈ lw_tbl ∧ Cond.code Lib.Math.max.name Lib.Math.max.code 2 (some .int) ∈ lw_tbl := ⟨List.mem_of_getElem? (i := (am_npl.getD 1 (0, 0, 0)).1) (by decide +kernel), List.mem_of_getElem? (i := (am_npl.getD 1 (0, 0, 0)).2.2) (by decide +kernel), List.mem_of_getElem? (i := (am_npl.getD 1 (0, 0, 0)).2.1) (by decide +kernel)⟩
theorem am_n_min : Cond.static Lib.Math.min.name ∈ lw_tbl ∧ Cond.initialized "java/lang/Math" ∈ lw_tbl ∧ Cond.code Lib.Math.min.name Lib.Math.min.code 2 (some .int) ∈ lw_tbl := ⟨List.mem_of_getElem? (i := (am_npl.getD 2 (0, 0, 0)).1) (by decide +kernel), List.mem_of_getElem? (i := (am_npl.getD 2 (0, 0, 0)).2.2) (by decide +kernel), List.mem_of_getElem? (i := (am_npl.getD 2 (0, 0, 0)).2.1) (by decide +kernel)⟩
theorem am_n_cp : Cond.static arraycopyName ∈ lw_tbl ∧ Cond.native arraycopyName ∈ lw_tbl ∧ Cond.initialized "java/lang/System" ∈ lw_tbl := ⟨List.mem_of_getElem? (i := (am_npl.getD 3 (0, 0, 0)).1) (by decide +kernel), List.mem_of_getElem? (i := (am_npl.getD 3 (0, 0, 0)).2.1) (by decide +kernel), List.mem_of_getElem? (i := (am_npl.getD 3 (0, 0, 0)).2.2) (by decide +kernel)⟩
theorem am_nat_good {w : Cond} (h : w = Cond.native arraycopyName) : goodWord w = true := by subst h; rfl
theorem am_clamp {x : Int32} (h : 0 ≤ x.toInt) : ¬ x < 0 ∧ (x.toNatClampNeg : Int) = x.toInt := by
  refine ⟨fun q => ?_, ?_⟩
  · have := Int32.lt_iff_toInt_lt.mp q
    simp at this
    omega
  · show ((x.toInt.toNat : Nat) : Int) = x.toInt
    omega
theorem am_gw_link : Cond.fieldLink "PromisesKept" am_gix "PromisesKept" "DAYS_OF_DIGEST" "[I" ∈ lw_tbl := List.mem_of_getElem? (i := am_gpos) (by decide +kernel)
section
variable {p : Program} {l : Launch} {e : Env} {R : Room} {s : State} {m : MethodId} {args : Array Value} {below : List Frame} {meth : Method} {c : Code} {cells slots : Nat} {Q : State → Prop}
variable {ad : Nat → Nat → Nat} {D : va_G} {K : am_K3} {A : Nat → Prop} {Ts : List Cond} {cc : ByteArray} {nL d : Nat} {on : String} {H : Heap} {locs : List Loc} {ls : Array Slot} {pc : Nat} {g g1 : SG} {r1 : Option AV}
theorem am_callN (hx : p.tables.exec = Jvm.exec) (hb : c.code = cc) (hml : c.maxLocals = nL) (hown : s.vm.findClass on = some m.cls) (hts : ∀ w ∈ Ts, w.before args s = true) (hT : ∀ w ∈ lw_tbl, goodWord w = true → w ∈ Ts)
    (hK : va_K D vwCl (am_tyl K) s) (hRf : d ≤ R.frames) (hRl : 40 * d ≤ R.locals) (hcl : cells ≤ R.cells) (hsl : slots ≤ R.slots)
    {y ix b : Nat} {st : List AV} (hbl : b ≤ st.length) (hrest : (st.drop b).length ≤ 4) (hcall : am_cl d y (st.take b).reverse g = some (r1, g1))
    (hlk : Cond.methodLink on ix (am_nn y) ∈ lw_tbl) (hyb : ((y = 996 ∧ b = 1 ∨ y = 997 ∧ b = 2) ∨ y = 998 ∧ b = 2) ∨ y = 999 ∧ b = 5) (hdg : decode cc pc = .ok (.invokestatic ix, 3)) (hlz : ls.size = nL)
    (hP : va_P D vwCl (am_wl ad K g) H) (hD : va_D A (am_wl ad K g)) (hS : va_S A s.heap H locs)
    (kk : ∀ (H1 : Heap) (locs1 : List Loc), va_P D vwCl (am_wl ad K g1) H1 → va_S A s.heap H1 locs1 → W p l e R s m args below meth c H1 locs1 cells slots Q (F0 m (pc + 3) ls ((r1.toList ++ st.drop b).map (am_cv ad)))) : W p l e R s m args below meth c H locs cells slots Q (F0 m pc ls (st.map (am_cv ad))) := by
  have hml2 : c.maxLocals = ls.size := hml.trans hlz.symm
  cases d with
  | zero => cases hcall
  | succ d =>
    have hcat := am_cat_sum ad (st.drop b) hrest
    have hfr : 1 ≤ R.frames := by omega
    have hlo : (((st.drop b).map (am_cv ad)).map fun v => v.category).sum + 13 ≤ R.locals := by omega
    have hlink := hts _ (hT _ hlk rfl)
    rw [am_cl, if_pos (by omega)] at hcall
    generalize has : (st.take b).reverse = as at hcall
    have hlen : as.length = b := by rw [← has]; simp; omega
    have hsplit : st = as.reverse ++ st.drop b := by
      rw [← has, List.reverse_reverse, List.take_append_drop]
    unfold am_na at hcall
    rcases hyb with ((⟨rfl, rfl⟩ | ⟨rfl, rfl⟩) | ⟨rfl, rfl⟩) | ⟨rfl, rfl⟩
    · rw [if_neg (by decide)] at hcall
      split at hcall
      · next x =>
        rw [if_pos rfl] at hcall
        cases hcall
        rw [hsplit]
        exact va_mabs hx hb hml2 hown hlink (hts _ (hT _ am_n_abs.1 rfl)) (hts _ (hT _ am_n_abs.2.1 rfl)) (hts _ (hT _ am_n_abs.2.2 rfl)) hfr hlo hcl hsl hdg (kk H locs hP hS)
      · simp at hlen
      · cases hcall
    · rw [if_neg (by decide)] at hcall
      split at hcall
      · simp at hlen
      · next x z =>
        rw [if_pos rfl] at hcall
        cases hcall
        rw [hsplit]
        exact va_mmax hx hb hml2 hown hlink (hts _ (hT _ am_n_max.1 rfl)) (hts _ (hT _ am_n_max.2.1 rfl)) (hts _ (hT _ am_n_max.2.2 rfl)) hfr hlo hcl hsl hdg (kk H locs hP hS)
      · cases hcall
    · rw [if_neg (by decide)] at hcall
      split at hcall
      · simp at hlen
      · next x z =>
        rw [if_neg (by decide), if_pos rfl] at hcall
        cases hcall
        rw [hsplit]
        exact va_mmin hx hb hml2 hown hlink (hts _ (hT _ am_n_min.1 rfl)) (hts _ (hT _ am_n_min.2.1 rfl)) (hts _ (hT _ am_n_min.2.2 rfl)) hfr hlo hcl hsl hdg (kk H locs hP hS)
      · cases hcall
    · rw [if_pos rfl] at hcall
      unfold am_cp at hcall
      split at hcall
      · next o j sp u v dp n =>
        split at hcall
        · next k0 n0 k1 n1 h0 h1 =>
          split at hcall
          · next hq =>
            cases hcall
            obtain ⟨rfl, rfl, q1, q2, q3, q4, q5⟩ := hq
            obtain ⟨i0, hi0⟩ := am_at (am_ce_a h0 (by omega))
            obtain ⟨i1, hi1⟩ := am_at (am_ce_a h1 (by omega))
            have hat0 := am_wl_at ad K g hi0
            rw [am_et_a ad K g h0] at hat0
            have hat1 := am_wl_at ad K g hi1
            rw [am_et_a ad K g h1] at hat1
            obtain ⟨c1, c2⟩ := am_clamp q1
            obtain ⟨c3, c4⟩ := am_clamp q2
            obtain ⟨c5, c6⟩ := am_clamp q3
            rw [hsplit]
            refine va_copyi (ty := .int) (rest := (st.drop 5).map (am_cv ad)) hx hb hml2 hown hlink (hts _ (hT _ am_n_cp.2.1 (am_nat_good rfl))) (hts _ (hT _ am_n_cp.1 rfl)) (hts _ (hT _ am_n_cp.2.2 rfl)) hK hP hD hS i0 i1 0 0 hat0 hat1 rfl rfl rfl c1 c3 c5 (by omega) (by omega) (fun _ _ => rfl) hfr ?_ hdg (fun H1 locs1 p1 p2 p3 => ?_)
            · have e : nativeFrameWords "java/lang/System" "arraycopy" 5 = 7 := by decide +kernel
              rw [e]; omega
            · refine kk H1 locs1 ?_ p3
              have h2 := am_wl_set ad K g (fun a b c => if a = u ∧ b = v then va_cpy (g o j) (g u v) sp.toNatClampNeg dp.toNatClampNeg n.toNatClampNeg c else g a b c) hi1 (fun z' hz' => by
                obtain ⟨o', j'⟩ := z'
                have hn : ¬ (o' = u ∧ j' = v) := fun e => hz' (by rw [e.1, e.2])
                have hj := (am_al_j h1).2
                unfold am_et
                cases j' with
                | zero =>
                  dsimp only
                  cases am_co o' with
                  | none => rfl
                  | some cc =>
                    dsimp only
                    have e : ∀ r, am_fs ad (fun a b c => if a = u ∧ b = v then va_cpy (g o j) (g u v) sp.toNatClampNeg dp.toNatClampNeg n.toNatClampNeg c else g a b c) o' r = am_fs ad g o' r := by
                      intro r
                      unfold am_fs
                      congr 1
                      funext bb qq
                      unfold am_fv
                      dsimp only
                      rw [if_neg (fun z : o' = u ∧ 0 = v => hj z.2.symm)]
                    rw [e]
                | succ j' =>
                  dsimp only
                  have e : (fun c => if o' = u ∧ j' + 1 = v then va_cpy (g o j) (g u v) sp.toNatClampNeg dp.toNatClampNeg n.toNatClampNeg c else g o' (j' + 1) c) = g o' (j' + 1) := by
                    funext cc
                    rw [if_neg hn]
                  rw [e])
              rw [am_et_a ad K _ h1] at h2
              have e2 : (fun c => if u = u ∧ v = v then va_cpy (g o j) (g u v) sp.toNatClampNeg dp.toNatClampNeg n.toNatClampNeg c else g u v c) = va_cpy (g o j) (g u v) sp.toNatClampNeg dp.toNatClampNeg n.toNatClampNeg := by
                funext cc
                rw [if_pos ⟨rfl, rfl⟩]
              rw [e2] at h2
              rw [← h2]; exact p1
          · cases hcall
        · cases hcall
      · cases hcall
end
theorem am_tb_in (x lo : Int) : ∀ (os : List Int) (k : Nat), x = lo + k → k < os.length → am_tb x lo os = os[k]?
  | [], k, _, h => absurd h (Nat.not_lt_zero k)
  | o :: os, 0, h, _ => by
    unfold am_tb
    rw [if_pos (by omega)]; rfl
  | o :: os, k + 1, h, hk => by
    unfold am_tb
    rw [if_neg (by omega)]
    have := am_tb_in x (lo + 1) os k (by omega) (by simpa using hk)
    simpa using this
theorem am_tb_out (x : Int) : ∀ (os : List Int) (lo : Int), (x < lo ∨ lo + os.length - 1 < x) → am_tb x lo os = none
  | [], lo, _ => rfl
  | o :: os, lo, h => by
    unfold am_tb
    simp only [List.length_cons] at h
    rw [if_neg (by omega)]
    exact am_tb_out x os (lo + 1) (by omega)
section
variable {p : Program} {l : Launch} {e : Env} {R : Room} {s : State} {m : MethodId} {args : Array Value} {below : List Frame} {meth : Method} {c : Code} {cells slots : Nat} {Q : State → Prop}
variable {ad : Nat → Nat → Nat} {D : va_G} {K : am_K3} {A : Nat → Prop} {Ts : List Cond} {nL d k : Nat} {on : String} {mm : am_MI} {r : Option AV} {gz : SG}
set_option maxHeartbeats 4000000 in
theorem am_inner (hx : p.tables.exec = Jvm.exec) (hmm : am_mi k = some mm) (hb : c.code = mm.2.1) (hml : c.maxLocals = nL) (hon : am_on[mm.2.2.2.2.1]? = some on) (hown : s.vm.findClass on = some m.cls) (hts : ∀ w ∈ Ts, w.before args s = true) (hT : ∀ w ∈ lw_tbl, goodWord w = true → w ∈ Ts)
    (hK : va_K D vwCl (am_tyl K) s) (hRf : d ≤ R.frames) (hRl : 40 * d ≤ R.locals) (hcl : cells ≤ R.cells) (hsl : slots ≤ R.slots)
    (IH : ∀ d', d = d' + 1 → ∀ y as g r g', am_cl d y as g = some (r, g') → ∀ mm, am_mts[y]? = some mm → Met l mm.1 (am_ws mm) (am_rm d') (am_Pc ad D K A as g) (am_Qc ad D K A r g') 0 0 A)
    (hret : ∀ (i : Instr) (pc : Nat) (ls : Array Slot) (H : Heap) (locs : List Loc), decode mm.2.1 pc = .ok (i, 1) → am_rt i r mm.2.2.2.1 → va_P D vwCl (am_wl ad K gz) H → va_S A s.heap H locs → W p l e R s m args below meth c H locs cells slots Q (F0 m pc ls (r.toList.map (am_cv ad)))) :
    ∀ (n pc : Nat) (L : LO) (st : List AV) (g : SG) (H : Heap) (locs : List Loc) (ls : Array Slot), am_rn (am_cl d) k n pc L st g = some (r, gz) → L.length = nL → lv_has ls nL (am_lo ad L) → va_P D vwCl (am_wl ad K g) H → va_D A (am_wl ad K g) → va_S A s.heap H locs → am_RO ad A g s s.heap →
      W p l e R s m args below meth c H locs cells slots Q (F0 m pc ls (st.map (am_cv ad))) := by
  intro n
  induction n with
  | zero => intro pc L st g H locs ls h; cases h
  | succ n ih =>
    intro pc L st g H locs ls h hLn hl hP hD hS hRO
    obtain ⟨i', a, b, cx, z, hf, hs, ha⟩ := am_rn_inv h
    unfold am_ft at hf
    rw [hmm] at hf
    obtain ⟨i, len, hd, hab, hrs, hlen⟩ := am_dc_inv hf
    have htab : ∀ (dflt lo hi : Int) (offs : Array Int), i = .tableswitch dflt lo hi offs → W p l e R s m args below meth c H locs cells slots Q (F0 m pc ls (st.map (am_cv ad))) := by
      intro dflt lo hi offs e
      subst e
      unfold am_ab at hab
      dsimp only at hab
      split at hab
      · next hq =>
        cases hab
        unfold am_st at hs
        dsimp only at hs
        split at hs
        · next x r' =>
          have htl : (offs.map (fun q => (pc : Int) + q)).toList = offs.toList.map (fun q => (pc : Int) + q) := by simp
          rw [htl] at hs
          by_cases ho : x.toInt < lo ∨ hi < x.toInt
          · rw [am_tb_out x.toInt _ lo (by rw [List.length_map, Array.length_toList]; omega)] at hs
            cases hs
            exact lv_tableOut hx hb hd ho (by omega) (ih _ _ _ _ _ _ _ ha hLn hl hP hD hS hRO)
          · have hk : (x.toInt - lo).toNat < offs.size := by omega
            rw [am_tb_in x.toInt lo _ (x.toInt - lo).toNat (by omega) (by rw [List.length_map, Array.length_toList]; exact hk)] at hs
            rw [List.getElem?_map] at hs
            cases hq2 : offs.toList[(x.toInt - lo).toNat]? with
            | none => rw [List.getElem?_eq_none_iff, Array.length_toList] at hq2; omega
            | some off =>
              rw [hq2] at hs
              have hpos := List.all_eq_true.mp hq.2.2 off (List.mem_of_getElem? hq2)
              simp only [decide_eq_true_eq] at hpos
              cases hs
              exact lv_tableIn (off := off) hx hb hd (by omega) (by omega) (by rw [← Array.getElem?_toList]; exact hq2) (by show (pc : Int) + off = (((pc : Int) + off).toNat : Int); omega) (ih _ _ _ _ _ _ _ ha hLn hl hP hD hS hRO)
        · cases hs
      · cases hab
    have hlen2 : len = am_ln i ∨ W p l e R s m args below meth c H locs cells slots Q (F0 m pc ls (st.map (am_cv ad))) := by
      rcases hlen with hlen | ⟨q1, q2, q3, q4, e⟩
      · exact Or.inl hlen
      · exact Or.inr (htab _ _ _ _ e)
    clear hlen
    refine hlen2.elim (fun hlen3 => ?_) id
    clear hlen2
    subst hlen3
    have kn : ∀ {pc' : Nat} {L' : LO} {st' : List AV} {ls' : Array Slot}, am_rn (am_cl d) k n pc' L' st' g = some (r, gz) → L'.length = nL → lv_has ls' nL (am_lo ad L') → W p l e R s m args below meth c H locs cells slots Q (F0 m pc' ls' (st'.map (am_cv ad))) := fun h1 h2 h3 => ih _ _ _ _ _ _ _ h1 h2 h3 hP hD hS hRO
    cases i <;> (try first
      | exact htab _ _ _ _ rfl
      | (obtain rfl := Option.some.inj hab; exact nomatch (hs : (none : Option ST) = some z)))
    all_goals obtain rfl := Option.some.inj hab
    case aconst_null => cases (hs : some _ = some z); exact lv_null hx hb hd (kn ha hLn hl)
    case iconst v => cases (hs : some _ = some z); exact lv_iconst hx hb hd rfl (kn ha hLn hl)
    case bipush v => cases (hs : some _ = some z); exact lv_bipush hx hb hd rfl (kn ha hLn hl)
    case sipush v => cases (hs : some _ = some z); exact lv_sipush hx hb hd rfl (kn ha hLn hl)
    case ldc ix =>
      cases (hs : some _ = some z)
      unfold am_rs at hrs
      dsimp only at hrs
      cases hq : am_cls.find? (fun r => r.1 == mm.2.2.2.2.1 && r.2.1 == ix) with
      | none => rw [hq] at hrs; cases hrs
      | some q =>
        rw [hq] at hrs
        cases hrs
        have h1 := List.find?_some hq
        have h2 := List.all_eq_true.mp am_cls_ok q (List.mem_of_find?_eq_some hq)
        simp only [Bool.and_eq_true, beq_iff_eq] at h1
        rw [h1.1, hon, h1.2] at h2
        simp only [decide_eq_true_eq] at h2
        exact lv_ldc hx hb hown (hts _ (hT _ (List.mem_of_getElem? h2) rfl)) hd (kn ha hLn hl)
    case ldc_w ix =>
      cases (hs : some _ = some z)
      unfold am_rs at hrs
      dsimp only at hrs
      cases hq : am_cls.find? (fun r => r.1 == mm.2.2.2.2.1 && r.2.1 == ix) with
      | none => rw [hq] at hrs; cases hrs
      | some q =>
        rw [hq] at hrs
        cases hrs
        have h1 := List.find?_some hq
        have h2 := List.all_eq_true.mp am_cls_ok q (List.mem_of_find?_eq_some hq)
        simp only [Bool.and_eq_true, beq_iff_eq] at h1
        rw [h1.1, hon, h1.2] at h2
        simp only [decide_eq_true_eq] at h2
        exact lv_ldcw hx hb hown (hts _ (hT _ (List.mem_of_getElem? h2) rfl)) hd (kn ha hLn hl)
    case ldc2_w ix =>
      cases (hs : some _ = some z)
      unfold am_rs at hrs
      dsimp only at hrs
      cases hq : am_lls.find? (fun r => r.1 == mm.2.2.2.2.1 && r.2.1 == ix) with
      | none => rw [hq] at hrs; cases hrs
      | some q =>
        rw [hq] at hrs
        cases hrs
        have h1 := List.find?_some hq
        have h2 := List.all_eq_true.mp am_lls_ok q (List.mem_of_find?_eq_some hq)
        simp only [Bool.and_eq_true, beq_iff_eq] at h1
        rw [h1.1, hon, h1.2] at h2
        simp only [decide_eq_true_eq] at h2
        exact lv_ldc2 hx hb hown (hts _ (hT _ (List.mem_of_getElem? h2) rfl)) hd (kn ha hLn hl)
    case iload j =>
      obtain ⟨v, h1, h2, rfl⟩ := am_ld_inv hs
      obtain ⟨x, rfl⟩ := am_so0 h2
      exact lv_iload hx hb hd (am_lo_at hl h1) (kn ha hLn hl)
    case iload_n j =>
      obtain ⟨v, h1, h2, rfl⟩ := am_ld_inv hs
      obtain ⟨x, rfl⟩ := am_so0 h2
      exact lv_iload_n hx hb hd rfl (am_lo_at hl h1) (kn ha hLn hl)
    case lload j =>
      obtain ⟨v, h1, h2, rfl⟩ := am_ld_inv hs
      obtain ⟨x, rfl⟩ := am_so1 h2
      exact lv_lload hx hb hd (am_lo_at hl h1) (kn ha hLn hl)
    case lload_n j =>
      obtain ⟨v, h1, h2, rfl⟩ := am_ld_inv hs
      obtain ⟨x, rfl⟩ := am_so1 h2
      exact lv_lload_n hx hb hd rfl (am_lo_at hl h1) (kn ha hLn hl)
    case aload j =>
      obtain ⟨v, h1, h2, rfl⟩ := am_ld_inv hs
      rcases am_so2 h2 with rfl | ⟨q, rfl⟩
      · exact lv_aloadN hx hb hd (am_lo_at hl h1) (kn ha hLn hl)
      · exact lv_aload hx hb hd (am_lo_at hl h1) (kn ha hLn hl)
    case aload_n j =>
      obtain ⟨v, h1, h2, rfl⟩ := am_ld_inv hs
      rcases am_so2 h2 with rfl | ⟨q, rfl⟩
      · exact lv_aload_nN hx hb hd rfl (am_lo_at hl h1) (kn ha hLn hl)
      · exact lv_aload_n hx hb hd rfl (am_lo_at hl h1) (kn ha hLn hl)
    case istore j =>
      obtain ⟨v, r', rfl, h2, h3, h4, rfl⟩ := am_s1_inv hs
      obtain ⟨x, rfl⟩ := am_so0 h2
      exact lv_istore hx hb hd hl (by omega) rfl (fun ls' h' => kn ha (by rw [List.length_set]; exact hLn) (am_lo_set h4 h'))
    case istore_n j =>
      obtain ⟨v, r', rfl, h2, h3, h4, rfl⟩ := am_s1_inv hs
      obtain ⟨x, rfl⟩ := am_so0 h2
      exact lv_istore_n hx hb hd rfl hl (by omega) rfl (fun ls' h' => kn ha (by rw [List.length_set]; exact hLn) (am_lo_set h4 h'))
    case astore j =>
      obtain ⟨v, r', rfl, h2, h3, h4, rfl⟩ := am_s1_inv hs
      rcases am_so2 h2 with rfl | ⟨q, rfl⟩
      · exact lv_astoreN hx hb hd hl (by omega) rfl (fun ls' h' => kn ha (by rw [List.length_set]; exact hLn) (am_lo_set h4 h'))
      · exact lv_astore hx hb hd hl (by omega) rfl (fun ls' h' => kn ha (by rw [List.length_set]; exact hLn) (am_lo_set h4 h'))
    case astore_n j =>
      obtain ⟨v, r', rfl, h2, h3, h4, rfl⟩ := am_s1_inv hs
      rcases am_so2 h2 with rfl | ⟨q, rfl⟩
      · exact lv_astore_nN hx hb hd rfl hl (by omega) rfl (fun ls' h' => kn ha (by rw [List.length_set]; exact hLn) (am_lo_set h4 h'))
      · exact lv_astore_n hx hb hd rfl hl (by omega) rfl (fun ls' h' => kn ha (by rw [List.length_set]; exact hLn) (am_lo_set h4 h'))
    case lstore j =>
      obtain ⟨x, r', rfl, h3, h4, rfl⟩ := am_s2_inv hs
      exact lv_lstore hx hb hd hl (by omega) rfl (fun ls' h' => kn ha (by rw [List.length_set, List.length_set]; exact hLn) (am_lo_set2 h4 h'))
    case lstore_n j =>
      obtain ⟨x, r', rfl, h3, h4, rfl⟩ := am_s2_inv hs
      exact lv_lstore_n hx hb hd rfl hl (by omega) rfl (fun ls' h' => kn ha (by rw [List.length_set, List.length_set]; exact hLn) (am_lo_set2 h4 h'))
    case iinc j v =>
      unfold am_st at hs
      dsimp only at hs
      split at hs
      · next x hj =>
        split at hs
        · next h4 =>
          cases hs
          obtain ⟨kx, hkx⟩ := List.getElem?_of_mem ((am_lo_mem ad L (j, .int x)).mpr ⟨.inl x, hj, rfl⟩)
          have hjl := (List.getElem?_eq_some_iff.mp hj).1
          exact lv_iinc hx hb hd hl hkx rfl (by omega) rfl (fun ls' h' => kn ha (by rw [List.length_set]; exact hLn) (am_lo_set (v := .inl (x + Int32.ofInt v)) h4 h'))
        · cases hs
      · cases hs
    case iadd => obtain ⟨y, x, r', rfl, rfl⟩ := am_b2_inv hs; exact lv_iadd hx hb hd (kn ha hLn hl)
    case isub => obtain ⟨y, x, r', rfl, rfl⟩ := am_b2_inv hs; exact lv_isub hx hb hd (kn ha hLn hl)
    case imul => obtain ⟨y, x, r', rfl, rfl⟩ := am_b2_inv hs; exact lv_imul hx hb hd (kn ha hLn hl)
    case iand => obtain ⟨y, x, r', rfl, rfl⟩ := am_b2_inv hs; exact lv_iand hx hb hd (kn ha hLn hl)
    case ior => obtain ⟨y, x, r', rfl, rfl⟩ := am_b2_inv hs; exact lv_ior hx hb hd (kn ha hLn hl)
    case ixor => obtain ⟨y, x, r', rfl, rfl⟩ := am_b2_inv hs; exact lv_ixor hx hb hd (kn ha hLn hl)
    case ishl => obtain ⟨y, x, r', rfl, rfl⟩ := am_b2_inv hs; exact lv_ishl hx hb hd (kn ha hLn hl)
    case ishr => obtain ⟨y, x, r', rfl, rfl⟩ := am_b2_inv hs; exact lv_ishr hx hb hd (kn ha hLn hl)
    case iushr => obtain ⟨y, x, r', rfl, rfl⟩ := am_b2_inv hs; exact lv_iushr hx hb hd rfl (kn ha hLn hl)
    case idiv =>
      unfold am_st at hs
      dsimp only at hs
      split at hs
      · split at hs
        · cases hs
        · next hne => cases hs; exact lv_idiv hx hb hd hne (kn ha hLn hl)
      · cases hs
    case irem =>
      unfold am_st at hs
      dsimp only at hs
      split at hs
      · split at hs
        · cases hs
        · next hne => cases hs; exact lv_irem hx hb hd hne (kn ha hLn hl)
      · cases hs
    case ineg => obtain ⟨x, r', rfl, rfl⟩ := am_b1_inv hs; exact lv_ineg hx hb hd (kn ha hLn hl)
    case i2b => obtain ⟨x, r', rfl, rfl⟩ := am_b1_inv hs; exact lv_i2b hx hb hd rfl (kn ha hLn hl)
    case i2s => obtain ⟨x, r', rfl, rfl⟩ := am_b1_inv hs; exact lv_i2s hx hb hd rfl (kn ha hLn hl)
    case i2l =>
      unfold am_st at hs
      dsimp only at hs
      split at hs
      · cases hs; exact lv_i2l hx hb hd rfl (kn ha hLn hl)
      · cases hs
    case ladd => obtain ⟨y, x, r', rfl, rfl⟩ := am_c2_inv hs; exact lv_ladd hx hb hd (kn ha hLn hl)
    case lmul => obtain ⟨y, x, r', rfl, rfl⟩ := am_c2_inv hs; exact lv_lmul hx hb hd (kn ha hLn hl)
    case lcmp =>
      unfold am_st at hs
      dsimp only at hs
      split at hs
      · cases hs; exact W.lcmp hx hb hd (kn ha hLn hl)
      · cases hs
    case dup =>
      unfold am_st at hs
      dsimp only at hs
      split at hs
      · split at hs
        · cases hs
        · next hne => cases hs; exact lv_dup hx hb hd (am_cat ad _ hne) (kn ha hLn hl)
      · cases hs
    case dup2 =>
      unfold am_st at hs
      dsimp only at hs
      split at hs
      · split at hs
        · cases hs
        · next hne => cases hs; exact lv_dup2_11 hx hb hd (am_cat ad _ (fun e => hne (Or.inl e))) (am_cat ad _ (fun e => hne (Or.inr e))) (kn ha hLn hl)
      · cases hs
    case pop =>
      unfold am_st at hs
      dsimp only at hs
      split at hs
      · split at hs
        · cases hs
        · next hne => cases hs; exact lv_pop hx hb hd (am_cat ad _ hne) (kn ha hLn hl)
      · cases hs
    case ifCond q off =>
      have htg := am_tg_inv hrs
      unfold am_st at hs
      dsimp only at hs
      split at hs
      · unfold am_br at hs
        cases q <;> dsimp only at hs <;> split at hs <;> cases hs <;> rename_i hq
        · exact lv_if_eq hx hb hd htg (fun _ => kn ha hLn hl) (fun e => absurd hq e)
        · exact lv_if_eq hx hb hd htg (fun e => absurd e hq) (fun _ => kn ha hLn hl)
        · exact lv_if_ne hx hb hd htg (fun e => absurd hq e) (fun _ => kn ha hLn hl)
        · exact lv_if_ne hx hb hd htg (fun _ => kn ha hLn hl) (fun e => absurd e hq)
        · exact lv_if_lt hx hb hd htg (fun _ => kn ha hLn hl) (fun e => absurd hq e)
        · exact lv_if_lt hx hb hd htg (fun e => absurd e hq) (fun _ => kn ha hLn hl)
        · exact lv_if_ge hx hb hd htg (fun _ => kn ha hLn hl) (fun e => absurd hq e)
        · exact lv_if_ge hx hb hd htg (fun e => absurd e hq) (fun _ => kn ha hLn hl)
        · exact lv_if_gt hx hb hd htg (fun _ => kn ha hLn hl) (fun e => absurd hq e)
        · exact lv_if_gt hx hb hd htg (fun e => absurd e hq) (fun _ => kn ha hLn hl)
        · exact lv_if_le hx hb hd htg (fun _ => kn ha hLn hl) (fun e => absurd hq e)
        · exact lv_if_le hx hb hd htg (fun e => absurd e hq) (fun _ => kn ha hLn hl)
      · cases hs
    case if_icmp q off =>
      have htg := am_tg_inv hrs
      unfold am_st at hs
      dsimp only at hs
      split at hs
      · unfold am_br at hs
        cases q <;> dsimp only at hs <;> split at hs <;> cases hs <;> rename_i hq
        · exact lv_icmp_eq hx hb hd htg (fun _ => kn ha hLn hl) (fun e => absurd hq e)
        · exact lv_icmp_eq hx hb hd htg (fun e => absurd e hq) (fun _ => kn ha hLn hl)
        · exact lv_icmp_ne hx hb hd htg (fun e => absurd hq e) (fun _ => kn ha hLn hl)
        · exact lv_icmp_ne hx hb hd htg (fun _ => kn ha hLn hl) (fun e => absurd e hq)
        · exact lv_icmp_lt hx hb hd htg (fun _ => kn ha hLn hl) (fun e => absurd hq e)
        · exact lv_icmp_lt hx hb hd htg (fun e => absurd e hq) (fun _ => kn ha hLn hl)
        · exact lv_icmp_ge hx hb hd htg (fun _ => kn ha hLn hl) (fun e => absurd hq e)
        · exact lv_icmp_ge hx hb hd htg (fun e => absurd e hq) (fun _ => kn ha hLn hl)
        · exact lv_icmp_gt hx hb hd htg (fun _ => kn ha hLn hl) (fun e => absurd hq e)
        · exact lv_icmp_gt hx hb hd htg (fun e => absurd e hq) (fun _ => kn ha hLn hl)
        · exact lv_icmp_le hx hb hd htg (fun _ => kn ha hLn hl) (fun e => absurd hq e)
        · exact lv_icmp_le hx hb hd htg (fun e => absurd e hq) (fun _ => kn ha hLn hl)
      · cases hs
    case goto off =>
      have htg := am_tg_inv hrs
      cases (hs : some _ = some z)
      exact lv_goto hx hb hd htg (kn ha hLn hl)
    case ifnull off =>
      have htg := am_tg_inv hrs
      unfold am_st at hs
      dsimp only at hs
      split at hs
      · cases hs; exact lv_ifnullN hx hb hd htg (kn ha hLn hl)
      · cases hs; exact lv_ifnull hx hb hd (kn ha hLn hl)
      · cases hs
    case ifnonnull off =>
      have htg := am_tg_inv hrs
      unfold am_st at hs
      dsimp only at hs
      split at hs
      · cases hs; exact lv_ifnonnullN hx hb hd (kn ha hLn hl)
      · cases hs; exact lv_ifnonnull hx hb hd htg (kn ha hLn hl)
      · cases hs
    case getfield ix =>
      unfold am_rs at hrs
      dsimp only at hrs
      split at hrs
      · next row hrow =>
        split at hrs
        · next kr hkr =>
          cases hz : kr[row.2.2.2.1]? with
          | none => rw [hz] at hrs; cases hrs
          | some zz =>
            rw [hz] at hrs
            cases hrs
            unfold am_st at hs
            dsimp only at hs
            split at hs
            · next o r' =>
              split at hs
              · next hco =>
                cases hs
                obtain ⟨q, hq, hw⟩ := am_fl_word hrow hon
                obtain ⟨kr2, ty, hkr2, hlen, hty, hnm, hin, -, -⟩ := am_vw _ q hq
                obtain rfl : kr = kr2 := Option.some.inj (hkr.symm.trans hkr2)
                obtain ⟨i0, hi0⟩ := am_at (am_ce_o hco)
                have hat := am_wl_at ad K g hi0
                rw [am_et_o ad K g hco, List.getD_eq_getElem?_getD, hkr] at hat
                have hfld : (am_fs ad g o kr)[row.2.2.2.1]? = some (am_fv ad g o row.2.2.2.1 zz) := by
                  unfold am_fs
                  rw [List.getElem?_mapIdx, hz]; rfl
                have hk1 : row.2.2.2.1 < q.2.2 := hlen ▸ (List.getElem?_eq_some_iff.mp hz).1
                have hin2 : ∀ w ∈ u_ws q.1 q.2.1 q.2.2, w ∈ Ts := fun w h => hT w (hin w h).1 (hin w h).2
                have kn2 := kn ha hLn hl
                have kn3 : W p l e R s m args below meth c H locs cells slots Q (F0 m (pc + 3) ls (am_fv ad g o row.2.2.2.1 zz :: r'.map (am_cv ad))) := by
                  rw [← am_fv_get ad g o row.2.2.2.1 zz]
                  exact kn2
                by_cases hn : row.2.2.2.2.2 = 0
                · rw [if_pos hn] at hw
                  exact va_get hx hb hts hin2 hown hK hP i0 hat hq row.2.2.2.1 hk1 (hts _ (hT _ hw rfl)) (fun _ h9 => h9) hfld hd kn3
                · rw [if_neg hn] at hw
                  exact va_getN hx hb hts hin2 hown hK hP i0 hat hq row.2.2.2.1 hk1 (va_Nw.use rfl (hRO.2.2.2 _ hw rfl)) (fun _ h9 => h9) hfld hd kn3
              · cases hs
            · cases hs
        · cases hrs
      · cases hrs
    case putfield ix =>
      unfold am_rs at hrs
      dsimp only at hrs
      split at hrs
      · next row hrow =>
        split at hrs
        · next kr hkr =>
          split at hrs
          · next zz hz =>
            split at hrs
            · next hz1 =>
              cases hrs
              unfold am_st at hs
              dsimp only at hs
              split at hs
              · next v o r' =>
                split at hs
                · next hco =>
                  cases hs
                  obtain ⟨hco, hv⟩ := hco
                  obtain ⟨q, hq, hw⟩ := am_fl_word hrow hon
                  obtain ⟨kr2, ty, hkr2, hlen, hty, hnm, hin, hf0, hf1⟩ := am_vw _ q hq
                  obtain rfl : kr = kr2 := Option.some.inj (hkr.symm.trans hkr2)
                  obtain ⟨i0, hi0⟩ := am_at (am_ce_o hco)
                  have hat := am_wl_at ad K g hi0
                  rw [am_et_o ad K g hco, List.getD_eq_getElem?_getD, hkr] at hat
                  have hk0 := (List.getElem?_eq_some_iff.mp hz).1
                  have hk1 : row.2.2.2.1 < q.2.2 := hlen ▸ hk0
                  have hin2 : ∀ w ∈ u_ws q.1 q.2.1 q.2.2, w ∈ Ts := fun w h => hT w (hin w h).1 (hin w h).2
                  have hset : (am_wl ad K g).set i0 (ad o 0, .inr (row.2.2.1, (am_fs ad g o kr).set row.2.2.2.1 (.int v))) = am_wl ad K (wr g o 0 row.2.2.2.1 v) := by
                    rw [am_fs_set ad g o row.2.2.2.1 v kr zz hz hz1]
                    have h1 := am_wl_set ad K g (wr g o 0 row.2.2.2.1 v) hi0 (fun z' hz' => am_et_wr ad K g o 0 row.2.2.2.1 v z' hz')
                    rw [am_et_o ad K _ hco, List.getD_eq_getElem?_getD, hkr] at h1
                    exact h1
                  have hro := am_wr_ro g o 0 row.2.2.2.1 v (am_co_lt hco)
                  have hnar : ∃ t, parseFieldDescriptor (q.2.1 row.2.2.2.1).2.2.1 = some t ∧ narrow t (.int v) = .int v ∧ fits t (.int v) = true ∧ (q.2.1 row.2.2.2.1).2.2.2 = false := by
                    rcases hv with hv | ⟨hv, hv2⟩
                    · obtain ⟨e1, e2⟩ := hf0 _ _ hz hv
                      exact ⟨.int, by rw [hty _ hk1, e1], rfl, rfl, e2⟩
                    · obtain ⟨e1, e2⟩ := hf1 _ _ hz hv
                      refine ⟨.boolean, by rw [hty _ hk1, e1], ?_, ?_, e2⟩
                      · rcases hv2 with rfl | rfl <;> rfl
                      · rcases hv2 with rfl | rfl <;> rfl
                  obtain ⟨t, t1, t2, t3, t4⟩ := hnar
                  have hlf : row.2.2.2.1 < (am_fs ad g o kr).length := by
                    unfold am_fs
                    rw [List.length_mapIdx]; exact hk0
                  have fin : ∀ (H1 : Heap) (locs1 : List Loc), va_P D vwCl ((am_wl ad K g).set i0 (ad o 0, .inr (row.2.2.1, (am_fs ad g o kr).set row.2.2.2.1 (.int v)))) H1 → va_D A ((am_wl ad K g).set i0 (ad o 0, .inr (row.2.2.1, (am_fs ad g o kr).set row.2.2.2.1 (.int v)))) → va_S A s.heap H1 locs1 → W p l e R s m args below meth c H1 locs1 cells slots Q (F0 m (pc + 3) ls (r'.map (am_cv ad))) := by
                    intro H1 locs1 p1 p2 p3
                    rw [hset] at p1 p2
                    exact ih _ _ _ _ _ _ _ ha hLn hl p1 p2 p3 (hRO.same hro.1 hro.2)
                  by_cases hn : row.2.2.2.2.2 = 0
                  · rw [if_pos hn] at hw
                    exact va_put hx hb hts hin2 ty hty hnm hown hK hP hD hS i0 hat hq row.2.2.2.1 hk1 (hts _ (hT _ hw rfl)) (fun _ h9 => h9) t4 t1 t2 t3 hlf hd fin
                  · rw [if_neg hn] at hw
                    exact va_putN hx hb hts hin2 ty hty hnm hown hK hP hD hS i0 hat hq row.2.2.2.1 hk1 (va_Nw.use rfl (hRO.2.2.2 _ hw rfl)) (fun _ h9 => h9) t4 t1 t2 t3 hlf hd fin
                · cases hs
              · cases hs
            · cases hrs
          · cases hrs
        · cases hrs
      · cases hrs
    case getstatic ix =>
      unfold am_rs at hrs
      dsimp only at hrs
      split at hrs
      · next hq =>
        cases (hs : some _ = some z)
        obtain ⟨h5, rfl⟩ := hq
        rw [h5] at hon
        obtain rfl : on = "PromisesKept" := (Option.some.inj hon).symm
        exact va_gets hx hb hRO.2.2.1 hS hown (hts _ (hT _ am_gw_link rfl)) (fun _ h9 => h9) hd (kn ha hLn hl)
      · cases hrs
    case arraylength =>
      unfold am_st at hs
      dsimp only at hs
      split at hs
      · next o j r' =>
        split at hs
        · next kx n hal =>
          split at hs
          · next h4 =>
            subst h4
            cases hs
            obtain ⟨rfl, rfl⟩ := (am_al_k hal).2.2 rfl
            obtain ⟨-, ⟨Ls, b1, b2, b3, b4, b5⟩, -⟩ := hRO
            have kn2 := kn ha hLn hl
            rw [List.map_cons, show am_cv ad (.inl (g 14 0 0)) = .int (Int32.ofNat Ls) by rw [b4]; rfl] at kn2
            exact va_slen hx hb b1 b2 b3 hS hd kn2
          · next h4 =>
            cases hs
            by_cases h3 : kx = 3
            · subst h3
              obtain ⟨rfl, rfl, rfl⟩ := (am_al_k hal).2.1 rfl
              exact va_slen hx hb hRO.1.1 hRO.1.2.1 hRO.1.2.2 hS hd (kn ha hLn hl)
            · have hk4 := (am_al_k hal).1
              have hk2 : kx ≤ 2 := by omega
              obtain ⟨i0, hi0⟩ := am_at (am_ce_a hal hk2)
              have hat := am_wl_at ad K g hi0
              rcases (show kx = 0 ∨ kx = 1 ∨ kx = 2 by omega) with rfl | rfl | rfl
              · rw [am_et_a ad K g hal] at hat
                exact va_alen hx hb hK hP i0 0 hat (ty := .int) rfl rfl hd (kn ha hLn hl)
              · rw [am_et_z ad K g hal] at hat
                exact va_alen hx hb hK hP i0 1 hat (ty := .boolean) rfl rfl hd (kn ha hLn hl)
              · rw [am_et_q ad K g hal] at hat
                exact va_alen hx hb hK hP i0 2 hat (ty := .object "PromisesKept$Sheet") rfl rfl hd (kn ha hLn hl)
        · cases hs
      · cases hs
    case iaload =>
      unfold am_st at hs
      dsimp only at hs
      split at hs
      · next x o j r' =>
        split at hs
        · next n hil =>
          split at hs
          · next hq =>
            cases hs
            unfold am_il at hil
            split at hil
            · next kx nn hal =>
              split at hil
              · next hk =>
                cases hil
                rcases hk with rfl | rfl
                · obtain ⟨i0, hi0⟩ := am_at (am_ce_a hal (by omega))
                  have hat := am_wl_at ad K g hi0
                  rw [am_et_a ad K g hal] at hat
                  exact va_iald hx hb hK hP i0 0 hat rfl (am_in hq) hd (kn ha hLn hl)
                · obtain ⟨rfl, rfl, rfl⟩ := (am_al_k hal).2.1 rfl
                  exact va_sld hx hb hRO.1.1 hRO.1.2.1 hRO.1.2.2 hS (am_in hq) hd (kn ha hLn hl)
              · split at hil
                · next h4 =>
                  subst h4
                  cases hil
                  obtain ⟨rfl, rfl⟩ := (am_al_k hal).2.2 rfl
                  obtain ⟨-, ⟨Ls, b1, b2, b3, b4, b5⟩, -⟩ := hRO
                  rw [b4] at hq
                  have e1 : (Int32.ofNat Ls).toInt = (Ls : Int) := nI_toInt b5
                  rw [e1] at hq
                  exact va_sld hx hb b1 b2 b3 hS (am_in hq) hd (kn ha hLn hl)
                · cases hil
            · cases hil
          · cases hs
        · cases hs
      · cases hs
    case iastore =>
      unfold am_st at hs
      dsimp only at hs
      split at hs
      · next v x o j r' =>
        split at hs
        · next kx nn hal =>
          split at hs
          · next hq =>
            cases hs
            obtain ⟨rfl, hq⟩ := hq
            obtain ⟨i0, hi0⟩ := am_at (am_ce_a hal (by omega))
            have hat := am_wl_at ad K g hi0
            rw [am_et_a ad K g hal] at hat
            have hset : (am_wl ad K g).set i0 (ad o j, .inl (K.1, nn, .inl (upd (g o j) x.toNatClampNeg v))) = am_wl ad K (wr g o j x.toNatClampNeg v) := by
              have h1 := am_wl_set ad K g (wr g o j x.toNatClampNeg v) hi0 (fun z' hz' => am_et_wr ad K g o j x.toNatClampNeg v z' hz')
              rw [am_et_a ad K _ hal, am_row_up] at h1
              exact h1
            have hro := am_wr_ro g o j x.toNatClampNeg v (am_al_o hal (by omega))
            refine va_iast hx hb hK hP hD hS i0 0 hat rfl (am_in hq) hd (fun H1 locs1 p1 p2 p3 => ?_)
            rw [hset] at p1 p2
            exact ih _ _ _ _ _ _ _ ha hLn hl p1 p2 p3 (hRO.same hro.1 hro.2)
          · cases hs
        · cases hs
      · cases hs
    case baload =>
      unfold am_st at hs
      dsimp only at hs
      split at hs
      · next x o j r' =>
        split at hs
        · next kx nn hal =>
          split at hs
          · next hq =>
            cases hs
            obtain ⟨rfl, hq⟩ := hq
            obtain ⟨i0, hi0⟩ := am_at (am_ce_a hal (by omega))
            have hat := am_wl_at ad K g hi0
            rw [am_et_z ad K g hal] at hat
            exact va_zald hx hb hK hP i0 1 hat rfl (am_in hq) hd (kn ha hLn hl)
          · cases hs
        · cases hs
      · cases hs
    case bastore =>
      unfold am_st at hs
      dsimp only at hs
      split at hs
      · next v x o j r' =>
        split at hs
        · next kx nn hal =>
          split at hs
          · next hq =>
            cases hs
            obtain ⟨rfl, hq, hv⟩ := hq
            obtain ⟨i0, hi0⟩ := am_at (am_ce_a hal (by omega))
            have hat := am_wl_at ad K g hi0
            rw [am_et_z ad K g hal] at hat
            have hnar : vp_nar .boolean v = v := by rcases hv with rfl | rfl <;> rfl
            have hset : (am_wl ad K g).set i0 (ad o j, .inl (K.2.1, nn, .inl (upd (g o j) x.toNatClampNeg v))) = am_wl ad K (wr g o j x.toNatClampNeg v) := by
              have h1 := am_wl_set ad K g (wr g o j x.toNatClampNeg v) hi0 (fun z' hz' => am_et_wr ad K g o j x.toNatClampNeg v z' hz')
              rw [am_et_z ad K _ hal, am_row_up] at h1
              exact h1
            have hro := am_wr_ro g o j x.toNatClampNeg v (am_al_o hal (by omega))
            refine va_zast hx hb hK hP hD hS i0 1 hat rfl (am_in hq) hd (fun H1 locs1 p1 p2 p3 => ?_)
            rw [hnar, hset] at p1 p2
            exact ih _ _ _ _ _ _ _ ha hLn hl p1 p2 p3 (hRO.same hro.1 hro.2)
          · cases hs
        · cases hs
      · cases hs
    case aaload =>
      unfold am_st at hs
      dsimp only at hs
      split at hs
      · next x o j r' =>
        split at hs
        · next kx nn hal =>
          split at hs
          · next hq =>
            cases hs
            obtain ⟨rfl, hq⟩ := hq
            obtain ⟨i0, hi0⟩ := am_at (am_ce_a hal (by omega))
            have hat := am_wl_at ad K g hi0
            rw [am_et_q ad K g hal] at hat
            exact va_aldq hx hb hK hP i0 2 hat rfl (am_in hq) hd (kn ha hLn hl)
          · cases hs
        · cases hs
      · cases hs
    case ireturn =>
      unfold am_st at hs
      dsimp only at hs
      split at hs
      · next v =>
        split at hs
        · next hq =>
          cases hs
          cases (ha : some _ = some _)
          refine hret _ pc ls H locs hd (Or.inl ⟨rfl, v, rfl, ?_⟩) hP hS
          unfold am_rs at hrs
          dsimp only at hrs
          split at hrs
          · next hr1 => exact Or.inl hr1
          · split at hrs
            · next hr2 =>
              cases hrs
              rcases hq with hq | hq
              · cases hq
              · exact Or.inr ⟨hr2, hq.2⟩
            · cases hrs
        · cases hs
      · cases hs
    case lreturn =>
      unfold am_st at hs
      dsimp only at hs
      split at hs
      · next v =>
        split at hs
        · cases hs
          cases (ha : some _ = some _)
          refine hret _ pc ls H locs hd (Or.inr (Or.inl ⟨rfl, v, rfl, ?_⟩)) hP hS
          unfold am_rs at hrs
          dsimp only at hrs
          split at hrs
          · next hr1 => exact hr1
          · cases hrs
        · cases hs
      · cases hs
    case areturn =>
      unfold am_st at hs
      dsimp only at hs
      split at hs
      · next v =>
        split at hs
        · cases hs
          cases (ha : some _ = some _)
          unfold am_rs at hrs
          dsimp only at hrs
          split at hrs
          · next nm hr1 => exact hret _ pc ls H locs hd (Or.inr (Or.inr (Or.inl ⟨rfl, v, nm, rfl, hr1⟩))) hP hS
          · cases hrs
        · cases hs
      · cases hs
    case return_ =>
      unfold am_st at hs
      dsimp only at hs
      split at hs
      · split at hs
        · cases hs
          cases (ha : some _ = some _)
          unfold am_rs at hrs
          dsimp only at hrs
          split at hrs
          · next hr1 => exact hret _ pc ls H locs hd (Or.inr (Or.inr (Or.inr ⟨rfl, rfl, hr1⟩))) hP hS
          · cases hrs
        · cases hs
      · cases hs
    case invokevirtual ix =>
      unfold am_rs at hrs
      dsimp only at hrs
      split at hrs
      · next row hrow =>
        split at hrs
        · next y hy =>
          cases hrs
          unfold am_st at hs
          dsimp only at hs
          split at hs
          · next hq =>
            cases hs
            unfold am_af at ha
            dsimp only at ha
            cases hcall : am_cl d row.2.2.1 (st.take (y.2.2.2.2.2.2 + 1)).reverse g with
            | none => rw [hcall] at ha; cases ha
            | some w =>
              obtain ⟨r1, g1⟩ := w
              rw [hcall] at ha
              have hro := am_cl_ro _ _ _ _ _ _ hcall
              exact am_callV hx hb hml hown hts hT hK hRf hRl hcl hsl IH hy rfl hq.1 hq.2 hcall (am_ml_word am_vls_ok hrow hon hy) hd hl.1 hP hD hS hRO (fun H1 locs1 p1 p2 => ih _ _ _ _ _ _ _ ha hLn hl p1 (am_D_of hD) p2 (hRO.same hro.1 hro.2))
          · cases hs
        · cases hrs
      · cases hrs
    case invokestatic ix =>
      unfold am_rs at hrs
      dsimp only at hrs
      unfold am_st at hs
      dsimp only at hs
      split at hs
      · next hq =>
        cases hs
        unfold am_af at ha
        dsimp only at ha
        cases hcall : am_cl d a (st.take b).reverse g with
        | none => rw [hcall] at ha; cases ha
        | some w =>
          obtain ⟨r1, g1⟩ := w
          rw [hcall] at ha
          have hro := am_cl_ro _ _ _ _ _ _ hcall
          have fin : ∀ (H1 : Heap) (locs1 : List Loc), va_P D vwCl (am_wl ad K g1) H1 → va_S A s.heap H1 locs1 → W p l e R s m args below meth c H1 locs1 cells slots Q (F0 m (pc + 3) ls ((r1.toList ++ st.drop b).map (am_cv ad))) := fun H1 locs1 p1 p2 => ih _ _ _ _ _ _ _ ha hLn hl p1 (am_D_of hD) p2 (hRO.same hro.1 hro.2)
          split at hrs
          · next row hrow =>
            cases hrs
            have h1 := List.find?_some hrow
            have h2 := List.all_eq_true.mp am_nls_ok row (List.mem_of_find?_eq_some hrow)
            simp only [Bool.and_eq_true, beq_iff_eq] at h1
            rw [h1.1, hon, h1.2] at h2
            simp only [Bool.and_eq_true, decide_eq_true_eq, Bool.or_eq_true] at h2
            exact am_callN hx hb hml hown hts hT hK hRf hRl hcl hsl hq.1 hq.2 hcall (List.mem_of_getElem? h2.1) h2.2 hd hl.1 hP hD hS fin
          · split at hrs
            · next row hrow =>
              split at hrs
              · next y hy =>
                cases hrs
                exact am_callS hx hb hml hown hts hT hK hRf hRl hcl hsl IH hy rfl hq.1 hq.2 hcall (am_ml_word am_sls_ok hrow hon hy) hd hl.1 hP hD hS hRO fin
              · cases hrs
            · cases hrs
      · cases hs
end
