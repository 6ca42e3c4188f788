/-! ===== the class's days ===== -/
def sKept (s : SS) (w : Nat) : Bool := decide (s.2.2.1 w = 1)
def XR (g : SG) (o : Nat) (s : SS) : Prop := (∀ w, w < 10 → g o 5 w = iI (s.1 w) ∧ g o 6 w = iI (s.2.1 w) ∧ g o 7 w = iI (s.2.2.1 w)) ∧ ∀ p, p < 6 → g o 4 p = iI (s.2.2.2.1 p) ∧ g o 3 p = s.2.2.2.2 p
/-- a course: its law, slots, what is left out, its day, the sets of those that are held, that wait, that were kept -/
def XC (g : SG) (o : Nat) (b : BB) (law slots but dd : Int) (wt : Nat) (s : SS) : Prop := XR g o s ∧ g o 0 7 = iI law ∧ g o 0 8 = iI slots ∧ g o 0 9 = iI but ∧ g o 0 10 = iI dd ∧ g o 0 11 = iI (bset (sHeld s) (bN b)) ∧ g o 0 12 = iI wt ∧ g o 0 13 = iI (bset (sKept s) (bN b))
def XF (o : Nat) (g g' : SG) : Prop := ∀ a, a ≠ o → g' a = g a
theorem XF.rf (o : Nat) (g : SG) : XF o g g := fun _ _ => rfl
theorem XF.tr {o : Nat} {g g1 g2 : SG} (h : XF o g g1) (h2 : XF o g1 g2) : XF o g g2 := fun a ha => (h2 a ha).trans (h a ha)
theorem XF.wr {o : Nat} {g g1 : SG} (h : XF o g g1) (j i : Nat) (v : Int32) : XF o g (wr g1 o j i v) := by
  intro a ha
  rw [← h a ha]; funext b c; simp [wr_at, ha]
theorem XF.S {o : Nat} {g g' : SG} (h : XF o g g') (ho : o = 5 ∨ o = 6 ∨ o = 7) : XFS g g' := ⟨fun a h0 h5 h6 h7 => h a (by omega), fun j _ => by rw [h 0 (by omega)], fun i _ => by rw [h 0 (by omega)]⟩
/-- the numbers of a want, as the class holds them -/
theorem XB_want {g : SG} {b : BB} (hB : XB g b) {w : Nat} (hw : w < bN b) : g 1 2 w = iI (bW b w 0) ∧ g 1 3 w = iI (bW b w 1) ∧ g 1 4 w = iI (bW b w 2) ∧ g 1 5 w = iI (bW b w 3) ∧ g 1 6 w = iI (bW b w 4) := hB.1.2.2.2 w hw
theorem sOk_iff {b : BB} {w : Nat} {s : SS} {x : Nat} (hx : (b 9 w).toNat = x) : ∀ m, sOk b w s m = true ↔ ∀ k, k < m → x.testBit k = true → s.2.2.1 k = 1
  | 0 => ⟨fun _ k hk => absurd hk (Nat.not_lt_zero k), fun _ => rfl⟩
  | m + 1 => by
    have ih := sOk_iff (s := s) hx m
    show (sOk b w s m && (!((b 9 w).toNat.testBit m) || decide (s.2.2.1 m = 1))) = true ↔ _
    rw [hx, Bool.and_eq_true, ih]
    constructor
    · rintro ⟨h1, h2⟩ k hk ht
      by_cases e : k = m
      · subst e
        rw [ht] at h2
        simpa using h2
      · exact h1 k (by omega) ht
    · intro h
      refine ⟨fun k hk ht => h k (by omega) ht, ?_⟩
      cases ht : x.testBit m with
      | false => rfl
      | true => simpa using h m (by omega) ht
theorem words_good {x N : Nat} {s : SS} (hx : x < 1024) (hN : N ≤ 10) : nsub (x &&& (2 ^ N - 1)) (bset (sKept s) N) = 0 ↔ ∀ k, k < N → x.testBit k = true → s.2.2.1 k = 1 := by
  have hl : x &&& (2 ^ N - 1) < 1024 := Nat.lt_of_le_of_lt Nat.and_le_left hx
  constructor
  · intro h k hk ht
    have h1 := nsub_tb (y := bset (sKept s) N) (i := k) hl
    rw [h, Nat.testBit_and, Nat.testBit_two_pow_sub_one, bset_tb, ht] at h1
    simp [hk] at h1
    simpa [sKept] using h1
  · intro h
    apply Nat.eq_of_testBit_eq
    intro i
    rw [nsub_tb hl, Nat.testBit_and, Nat.testBit_two_pow_sub_one, bset_tb, Nat.zero_testBit]
    by_cases e : i < N
    · cases ht : x.testBit i with
      | false => simp
      | true => simp [e, sKept, h i e ht]
    · simp [e]
theorem nsub_no {x y : Nat} (hx : x < 1024) (h : ∀ i, y.testBit i = true → x.testBit i = false) : nsub x y = x := by
  apply Nat.eq_of_testBit_eq
  intro i
  rw [nsub_tb hx]
  cases hy : y.testBit i with
  | false => simp
  | true => simp [h i hy]
theorem bset_rm {p q : Nat → Bool} {N w : Nat} (hN : N ≤ 10) (h : ∀ i, i < N → q i = (p i && !decide (i = w))) : nsub (bset p N) (2 ^ w) = bset q N := by
  apply Nat.eq_of_testBit_eq
  intro i
  rw [nsub_tb (bset_le10 hN), bset_tb, bset_tb, Nat.testBit_two_pow]
  by_cases e : i < N
  · rw [h i e]
    by_cases e2 : w = i
    · subst e2; simp
    · have e' : ¬ i = w := fun z => e2 z.symm
      simp [e2, e']
  · simp [e]
theorem bset_ad {p q : Nat → Bool} {N w : Nat} (hw : w < N) (h : ∀ i, i < N → q i = (p i || decide (i = w))) : bset p N ||| 2 ^ w = bset q N := by
  apply Nat.eq_of_testBit_eq
  intro i
  rw [Nat.testBit_or, bset_tb, bset_tb, Nat.testBit_two_pow]
  by_cases e : i < N
  · rw [h i e]
    by_cases e2 : w = i
    · subst e2; simp [e]
    · have e' : ¬ i = w := fun z => e2 z.symm
      simp [e2, e', e]
  · have e2 : ¬ w = i := by omega
    simp [e, e2]
theorem two_lt {w : Nat} (hw : w < 10) : 2 ^ w < 1024 := by
  have : 2 ^ w < 2 ^ 10 := Nat.pow_lt_pow_right (by decide) hw
  omega
section
variable (d : Nat)
theorem c_end_5 {g : SG} (H W w : Nat) (dd h : Int) (hH : H < 1024) (hW : W < 1024) (hw : w < 10) (g1 : g 5 0 11 = iI H) (g2 : g 5 0 12 = iI W) (g3 : g 5 0 10 = iI dd) : am_cl (d + 1) 15 [.inr (.inr (some (5, 0))), .inl (iI w), .inl (iI h)] g = some (none, wr (wr (wr (wr g 5 0 11 (iI (nsub H (2 ^ w) : Nat))) 5 0 12 (iI (nsub W (2 ^ w) : Nat))) 5 6 w (iI dd)) 5 7 w (iI h)) := by
  have e1 := ii_shl w (by omega)
  have e2 := ii_sub2 hH (two_lt hw)
  have e3 := ii_sub2 hW (two_lt hw)
  rw [am_cl_s _ 15 _ _ _ (by decide) E_X1_end (by rfl)]; simp (disch := omega) only [am_ev_ft, ax_null, ax_iconst, ax_bipush, ax_sipush, ax_ldc, ax_ldc_w, ax_ldc2_w, am_lq_i, am_lq_l, am_lq_r, ax_iload, ax_lload, ax_aload, ax_iload_0, ax_iload_1, ax_iload_2, ax_iload_3, ax_lload_0, ax_lload_1, ax_lload_2, ax_lload_3, ax_aload_0, ax_aload_1, ax_aload_2, ax_aload_3, am_sq_t, ax_istore, ax_istore_0, ax_istore_1, ax_istore_2, ax_istore_3, ax_astore, ax_astore_1, ax_astore_2, ax_astore_3, ax_lstore, ax_lstore_1, ax_lstore_3, am_iq_i, ax_iinc, ax_iadd, ax_isub, ax_imul, ax_iand, ax_ior, ax_ixor, ax_ishl, ax_ishr, ax_iushr, ax_ineg, ax_i2b, ax_i2s, ax_i2l, ax_ladd, ax_lmul, ax_lcmp, ax_dup_i, ax_dup_r, ax_dup2, ax_pop_i, ax_pop_r, ax_ic_eq, ax_ic_ne, ax_ic_lt, ax_ic_ge, ax_ic_gt, ax_ic_le, ax_goto, ax_ifnull_n, ax_ifnull_s, ax_ifnonnull_n, ax_ifnonnull_s, ax_gets, ax_iret, ax_lret, ax_aret, ax_vret, am_cq_i, am_cq_v, ay_if_eq, ay_if_ne, ay_if_lt, ay_if_ge, ay_if_gt, ay_if_le, ay_irem, ay_idiv, ay_zret0, ay_zret1, ay_zretb, ay_v1_0, ay_v1_1, ay_v1_2, ay_v1_3, ay_v1_4, ay_v2_0, ay_v2_1, ay_v2_2, ay_v2_3, ay_v2_4, ay_v3_0, ay_v3_1, ay_v3_2, ay_v3_3, ay_v3_4, ay_v4_0, ay_v4_1, ay_v4_2, ay_v4_3, ay_v4_4, ay_v5_0, ay_v5_1, ay_v5_2, ay_v5_3, ay_v5_4, ay_v6_0, ay_v6_1, ay_v6_2, ay_v6_3, ay_v6_4, ay_c1_0, ay_c1_1, ay_c1_2, ay_c1_3, ay_c1_4, ay_c2_0, ay_c2_1, ay_c2_2, ay_c2_3, ay_c2_4, ay_c3_0, ay_c3_1, ay_c3_2, ay_c3_3, ay_c3_4, ay_c5_0, ay_c5_1, ay_c5_2, ay_c5_3, ay_c5_4, am_en, fl_n, fl_i, fl_l, fl_r, List.cons_append, List.nil_append, List.append_nil, List.reduceReplicate, List.length_cons, List.length_nil, Nat.reduceAdd, Nat.reduceSub, Nat.reduceLT, Nat.reduceLeDiff, Nat.zero_le, Nat.le_refl, List.getElem?_cons_zero, List.getElem?_cons_succ, List.getElem?_nil, List.set_cons_zero, List.set_cons_succ, ii_of, J_b, J_s, J_c, K_l, nl_all, nk_n, nk_sn, nk_i, nk_r, decide_true, Bool.true_and, Bool.and_true, Bool.and_self, Int.toNat_natCast, Int.reduceToNat, Int.reduceAdd, Int.reduceSub, Int.reduceMul, Int.reduceNeg, Int.reduceEq, Int.reduceLT, Int.reduceLE, ii_div8, i0_b2id, i1_b2id, bt_i, bf_i, decide_false, ii_add, ii_sub, ii_mul, ii_neg, ii_lt, ii_le, ii_eq, ii_toInt, ii_clamp, ite_true, ite_false, if_true, if_false, true_and, and_true, and_self, and_false, false_and, wr_at, eq_self, Nat.reduceEqDiff, cm_max, cm_min, cm_abs, cmp_le_t, cmp_le_f, cmp_lt_t, cmp_lt_f, cmp_eq_t, cmp_eq_f, ↓reduceIte, not_true_eq_false, not_false_eq_true, ay_get0_5, ay_get1_5, ay_get2_5_1, ay_get2_5_2, ay_put0_5, ay_ia_5_3, ay_is_5_3, ay_al_5_3, ay_ia_5_4, ay_is_5_4, ay_al_5_4, ay_ia_5_5, ay_is_5_5, ay_al_5_5, ay_ia_5_6, ay_is_5_6, ay_al_5_6, ay_ia_5_7, ay_is_5_7, ay_al_5_7, D_X1_end_0, g1, g2, g3, e1, e2, e3]
theorem c_fulfil_5 {g : SG} {b : BB} (hb : BV b) (hB : XB g b) {law slots but dd : Int} (hd : 0 ≤ dd ∧ dd ≤ 99) {wt : Nat} (hwt : wt < 1024) {s : SS} (hX : XC g 5 b law slots but dd wt s) (hv : RV s) (w : Nat) (hw : w < bN b) (hh : s.1 w ≠ -1 ∧ s.2.2.1 w = 0) : ∃ g', am_cl (d + 2) 12 [.inr (.inr (some (5, 0))), .inl (iI w)] g = some (none, g') ∧ XC g' 5 b law slots but dd (nsub wt (2 ^ w)) (sPay b dd w s) ∧ XF 5 g g' := by
  have h10 := bN_le hb
  have r := bW_rng hb hw
  obtain ⟨n0, n1, n2, n3, n4⟩ := XB_want hB hw
  obtain ⟨hR, x1, x2, x3, x4, x5, x6, x7⟩ := hX
  obtain ⟨p, hp⟩ : ∃ p : Nat, bW b w 0 = (p : Int) := ⟨(bW b w 0).toNat, by omega⟩
  have hp6 : p < 6 := by omega
  have hpn : (bW b w 0).toNat = p := by omega
  rw [hp] at n0
  have m0 := (hR.2 p hp6).1
  have t0 := (hR.2 p hp6).2
  have v4 := hv.2.2.2 p
  have ha := hB.2.2.2.2.1 w (by omega)
  have hab := hb.2.2.2.2.2.2.1 w
  obtain ⟨x, hx⟩ : ∃ x : Nat, b 9 w = (x : Int) := ⟨(b 9 w).toNat, by omega⟩
  have hxn : (b 9 w).toNat = x := by omega
  have hx2 : x < 1024 := by omega
  rw [hx] at ha
  have hla := c_all d g hb hB
  have e1 := ii_and x (2 ^ bN b - 1)
  have hxa : x &&& (2 ^ bN b - 1) < 1024 := Nat.lt_of_le_of_lt Nat.and_le_left hx2
  have hkl := bset_le10 (p := sKept s) h10
  have hhl := bset_le10 (p := sHeld s) h10
  have e2 := ii_sub2 hxa hkl
  have hwg := words_good (s := s) hx2 h10
  have hok := sOk_iff (s := s) hxn (bN b)
  have hnl : nsub (x &&& (2 ^ bN b - 1)) (bset (sKept s) (bN b)) < 1024 := nsub_lt _ hxa
  have e3 := ii_shl w (by omega)
  have e4 := ii_or (bset (sKept s) (bN b)) (2 ^ w)
  have held' : ∀ h : Int, h ≠ 0 → ∀ mn tr, nsub (bset (sHeld s) (bN b)) (2 ^ w) = bset (sHeld (s.1, fu s.2.1 w dd, fu s.2.2.1 w h, mn, tr)) (bN b) := by
    intro h hh mn tr
    refine bset_rm h10 (fun i hi => ?_)
    show decide (s.1 i ≠ -1 ∧ fu s.2.2.1 w h i = 0) = (decide (s.1 i ≠ -1 ∧ s.2.2.1 i = 0) && !decide (i = w))
    by_cases e : i = w
    · have : fu s.2.2.1 w h i = h := by rw [fu_at, if_pos e]
      rw [decide_eq_false (by rw [this]; omega)]
      simp [e]
    · have : fu s.2.2.1 w h i = s.2.2.1 i := by rw [fu_at, if_neg e]
      rw [this]; simp [e]
  cases hM : sMay b w s with
  | true =>
    have es : sPay b dd w s = (s.1, fu s.2.1 w dd, fu s.2.2.1 w 1, fu s.2.2.2.1 p (s.2.2.2.1 p - 1), fu s.2.2.2.2 p (s.2.2.2.2 p + iI (bW b w 4))) := by
      unfold sPay; rw [if_pos hM, hpn]
    have hM2 := hM
    unfold sMay at hM2
    rw [hpn, Bool.and_eq_true, decide_eq_true_eq, hok, ← hwg] at hM2
    have kept' : bset (sKept s) (bN b) ||| 2 ^ w = bset (sKept (sPay b dd w s)) (bN b) := by
      rw [es]
      refine bset_ad hw (fun i hi => ?_)
      show decide (fu s.2.2.1 w 1 i = 1) = (decide (s.2.2.1 i = 1) || decide (i = w))
      by_cases e : i = w
      · have : fu s.2.2.1 w 1 i = 1 := by rw [fu_at, if_pos e]
        rw [this]; simp [e]
      · have : fu s.2.2.1 w 1 i = s.2.2.1 i := by rw [fu_at, if_neg e]
        rw [this]; simp [e]
    have hz : ((nsub (x &&& (2 ^ bN b - 1)) (bset (sKept s) (bN b)) : Nat) : Int) = 0 := by rw [hM2.2]; rfl
    have hpos := hM2.1
    have hend := c_end_5 d (g := wr (wr (wr g 5 4 p (iI (s.2.2.2.1 p - 1))) 5 3 p (s.2.2.2.2 p + iI (bW b w 4))) 5 0 13 (iI (bset (sKept s) (bN b) ||| 2 ^ w : Nat))) (bset (sHeld s) (bN b)) wt w dd 1 hhl hwt (by omega) (by simp [wr_at, x5]) (by simp [wr_at, x6]) (by simp [wr_at, x4])
    rw [am_cl_s _ 12 _ _ _ (by decide) E_X1_fulfil (by rfl)]; simp (disch := omega) only [am_ev_ft, ax_null, ax_iconst, ax_bipush, ax_sipush, ax_ldc, ax_ldc_w, ax_ldc2_w, am_lq_i, am_lq_l, am_lq_r, ax_iload, ax_lload, ax_aload, ax_iload_0, ax_iload_1, ax_iload_2, ax_iload_3, ax_lload_0, ax_lload_1, ax_lload_2, ax_lload_3, ax_aload_0, ax_aload_1, ax_aload_2, ax_aload_3, am_sq_t, ax_istore, ax_istore_0, ax_istore_1, ax_istore_2, ax_istore_3, ax_astore, ax_astore_1, ax_astore_2, ax_astore_3, ax_lstore, ax_lstore_1, ax_lstore_3, am_iq_i, ax_iinc, ax_iadd, ax_isub, ax_imul, ax_iand, ax_ior, ax_ixor, ax_ishl, ax_ishr, ax_iushr, ax_ineg, ax_i2b, ax_i2s, ax_i2l, ax_ladd, ax_lmul, ax_lcmp, ax_dup_i, ax_dup_r, ax_dup2, ax_pop_i, ax_pop_r, ax_ic_eq, ax_ic_ne, ax_ic_lt, ax_ic_ge, ax_ic_gt, ax_ic_le, ax_goto, ax_ifnull_n, ax_ifnull_s, ax_ifnonnull_n, ax_ifnonnull_s, ax_gets, ax_iret, ax_lret, ax_aret, ax_vret, am_cq_i, am_cq_v, ay_if_eq, ay_if_ne, ay_if_lt, ay_if_ge, ay_if_gt, ay_if_le, ay_irem, ay_idiv, ay_zret0, ay_zret1, ay_zretb, ay_v1_0, ay_v1_1, ay_v1_2, ay_v1_3, ay_v1_4, ay_v2_0, ay_v2_1, ay_v2_2, ay_v2_3, ay_v2_4, ay_v3_0, ay_v3_1, ay_v3_2, ay_v3_3, ay_v3_4, ay_v4_0, ay_v4_1, ay_v4_2, ay_v4_3, ay_v4_4, ay_v5_0, ay_v5_1, ay_v5_2, ay_v5_3, ay_v5_4, ay_v6_0, ay_v6_1, ay_v6_2, ay_v6_3, ay_v6_4, ay_c1_0, ay_c1_1, ay_c1_2, ay_c1_3, ay_c1_4, ay_c2_0, ay_c2_1, ay_c2_2, ay_c2_3, ay_c2_4, ay_c3_0, ay_c3_1, ay_c3_2, ay_c3_3, ay_c3_4, ay_c5_0, ay_c5_1, ay_c5_2, ay_c5_3, ay_c5_4, am_en, fl_n, fl_i, fl_l, fl_r, List.cons_append, List.nil_append, List.append_nil, List.reduceReplicate, List.length_cons, List.length_nil, Nat.reduceAdd, Nat.reduceSub, Nat.reduceLT, Nat.reduceLeDiff, Nat.zero_le, Nat.le_refl, List.getElem?_cons_zero, List.getElem?_cons_succ, List.getElem?_nil, List.set_cons_zero, List.set_cons_succ, ii_of, J_b, J_s, J_c, K_l, nl_all, nk_n, nk_sn, nk_i, nk_r, decide_true, Bool.true_and, Bool.and_true, Bool.and_self, Int.toNat_natCast, Int.reduceToNat, Int.reduceAdd, Int.reduceSub, Int.reduceMul, Int.reduceNeg, Int.reduceEq, Int.reduceLT, Int.reduceLE, ii_div8, i0_b2id, i1_b2id, bt_i, bf_i, decide_false, ii_add, ii_sub, ii_mul, ii_neg, ii_lt, ii_le, ii_eq, ii_toInt, ii_clamp, ite_true, ite_false, if_true, if_false, true_and, and_true, and_self, and_false, false_and, wr_at, eq_self, Nat.reduceEqDiff, cm_max, cm_min, cm_abs, cmp_le_t, cmp_le_f, cmp_lt_t, cmp_lt_f, cmp_eq_t, cmp_eq_f, ↓reduceIte, not_true_eq_false, not_false_eq_true, ay_get0_1, ay_get1_1, ay_put0_1, ay_get0_2, ay_get1_2, ay_get2_2_4, ay_put0_2, ay_get0_5, ay_get1_5, ay_get2_5_1, ay_get2_5_2, ay_put0_5, ay_ia_1_1, ay_is_1_1, ay_al_1_1, ay_ia_1_2, ay_is_1_2, ay_al_1_2, ay_ia_1_3, ay_is_1_3, ay_al_1_3, ay_ia_1_4, ay_is_1_4, ay_al_1_4, ay_ia_1_5, ay_is_1_5, ay_al_1_5, ay_ia_1_6, ay_is_1_6, ay_al_1_6, ay_ia_2_3, ay_is_2_3, ay_al_2_3, ay_ia_2_4, ay_is_2_4, ay_al_2_4, ay_ia_2_5, ay_is_2_5, ay_al_2_5, ay_ia_5_3, ay_is_5_3, ay_al_5_3, ay_ia_5_4, ay_is_5_4, ay_al_5_4, ay_ia_5_5, ay_is_5_5, ay_al_5_5, ay_ia_5_6, ay_is_5_6, ay_al_5_6, ay_ia_5_7, ay_is_5_7, ay_al_5_7, D_X1_fulfil_0, D_X1_fulfil_1, n0, n4, m0, t0, ha, hla, x7, e1, e2, e3, e4, c_isNumber, c_isPerson, hend]
    refine ⟨_, rfl, ⟨?_, ?_, ?_, ?_, ?_, ?_, ?_, ?_⟩, ?_⟩
    · rw [es]
      refine ⟨fun w' hw' => ?_, fun p' hp' => ?_⟩
      · have := hR.1 w' hw'
        simp only [wr_at, fu_at]
        by_cases e : w' = w
        · simp [e]; rw [← e]; exact this.1
        · simp [e, this]
      · have := hR.2 p' hp'
        simp only [wr_at, fu_at]
        by_cases e : p' = p
        · simp [e]
        · simp [e, this]
    · simp [wr_at, x1]
    · simp [wr_at, x2]
    · simp [wr_at, x3]
    · simp [wr_at, x4]
    · rw [held' 1 (by omega) (fu s.2.2.2.1 p (s.2.2.2.1 p - 1)) (fu s.2.2.2.2 p (s.2.2.2.2 p + iI (bW b w 4))), es]
      simp [wr_at]
    · simp [wr_at]
    · rw [← kept']; simp [wr_at]
    · exact (((((((XF.rf 5 g).wr _ _ _).wr _ _ _).wr _ _ _).wr _ _ _).wr _ _ _).wr _ _ _).wr _ _ _
  | false =>
    have es : sPay b dd w s = (s.1, fu s.2.1 w dd, fu s.2.2.1 w 2, s.2.2.2.1, fu s.2.2.2.2 p (s.2.2.2.2 p + iI (-bW b w 4))) := by
      unfold sPay; rw [if_neg (by rw [hM]; decide), hpn]
    have esub : s.2.2.2.2 p - iI (bW b w 4) = s.2.2.2.2 p + iI (-bW b w 4) := by rw [← ii_neg, Int32.sub_eq_add_neg]
    have hM2 : ¬ (0 < s.2.2.2.1 p ∧ nsub (x &&& (2 ^ bN b - 1)) (bset (sKept s) (bN b)) = 0) := by
      intro z
      have : sMay b w s = true := by
        unfold sMay
        rw [hpn, Bool.and_eq_true, decide_eq_true_eq, hok, ← hwg]
        exact z
      rw [hM] at this; cases this
    have kept' : bset (sKept s) (bN b) = bset (sKept (sPay b dd w s)) (bN b) := by
      rw [es]
      refine bset_ext (fun i hi => ?_)
      show decide (s.2.2.1 i = 1) = decide (fu s.2.2.1 w 2 i = 1)
      by_cases e : i = w
      · have h1 : fu s.2.2.1 w 2 i = 2 := by rw [fu_at, if_pos e]
        rw [h1, e, hh.2]; rfl
      · have h1 : fu s.2.2.1 w 2 i = s.2.2.1 i := by rw [fu_at, if_neg e]
        rw [h1]
    have hend := c_end_5 d (g := wr g 5 3 p (s.2.2.2.2 p + iI (-bW b w 4))) (bset (sHeld s) (bN b)) wt w dd 2 hhl hwt (by omega) (by simp [wr_at, x5]) (by simp [wr_at, x6]) (by simp [wr_at, x4])
    have hgo : am_cl (d + 2) 12 [.inr (.inr (some (5, 0))), .inl (iI w)] g = some (none, wr (wr (wr (wr (wr g 5 3 p (s.2.2.2.2 p + iI (-bW b w 4))) 5 0 11 (iI (nsub (bset (sHeld s) (bN b)) (2 ^ w) : Nat))) 5 0 12 (iI (nsub wt (2 ^ w) : Nat))) 5 6 w (iI dd)) 5 7 w (iI 2)) := by
      by_cases c1 : nsub (x &&& (2 ^ bN b - 1)) (bset (sKept s) (bN b)) = 0
      · have c2 : ¬ 0 < s.2.2.2.1 p := fun z => hM2 ⟨z, c1⟩
        have hz : ((nsub (x &&& (2 ^ bN b - 1)) (bset (sKept s) (bN b)) : Nat) : Int) = 0 := by rw [c1]; rfl
        rw [am_cl_s _ 12 _ _ _ (by decide) E_X1_fulfil (by rfl)]; simp (disch := omega) only [am_ev_ft, ax_null, ax_iconst, ax_bipush, ax_sipush, ax_ldc, ax_ldc_w, ax_ldc2_w, am_lq_i, am_lq_l, am_lq_r, ax_iload, ax_lload, ax_aload, ax_iload_0, ax_iload_1, ax_iload_2, ax_iload_3, ax_lload_0, ax_lload_1, ax_lload_2, ax_lload_3, ax_aload_0, ax_aload_1, ax_aload_2, ax_aload_3, am_sq_t, ax_istore, ax_istore_0, ax_istore_1, ax_istore_2, ax_istore_3, ax_astore, ax_astore_1, ax_astore_2, ax_astore_3, ax_lstore, ax_lstore_1, ax_lstore_3, am_iq_i, ax_iinc, ax_iadd, ax_isub, ax_imul, ax_iand, ax_ior, ax_ixor, ax_ishl, ax_ishr, ax_iushr, ax_ineg, ax_i2b, ax_i2s, ax_i2l, ax_ladd, ax_lmul, ax_lcmp, ax_dup_i, ax_dup_r, ax_dup2, ax_pop_i, ax_pop_r, ax_ic_eq, ax_ic_ne, ax_ic_lt, ax_ic_ge, ax_ic_gt, ax_ic_le, ax_goto, ax_ifnull_n, ax_ifnull_s, ax_ifnonnull_n, ax_ifnonnull_s, ax_gets, ax_iret, ax_lret, ax_aret, ax_vret, am_cq_i, am_cq_v, ay_if_eq, ay_if_ne, ay_if_lt, ay_if_ge, ay_if_gt, ay_if_le, ay_irem, ay_idiv, ay_zret0, ay_zret1, ay_zretb, ay_v1_0, ay_v1_1, ay_v1_2, ay_v1_3, ay_v1_4, ay_v2_0, ay_v2_1, ay_v2_2, ay_v2_3, ay_v2_4, ay_v3_0, ay_v3_1, ay_v3_2, ay_v3_3, ay_v3_4, ay_v4_0, ay_v4_1, ay_v4_2, ay_v4_3, ay_v4_4, ay_v5_0, ay_v5_1, ay_v5_2, ay_v5_3, ay_v5_4, ay_v6_0, ay_v6_1, ay_v6_2, ay_v6_3, ay_v6_4, ay_c1_0, ay_c1_1, ay_c1_2, ay_c1_3, ay_c1_4, ay_c2_0, ay_c2_1, ay_c2_2, ay_c2_3, ay_c2_4, ay_c3_0, ay_c3_1, ay_c3_2, ay_c3_3, ay_c3_4, ay_c5_0, ay_c5_1, ay_c5_2, ay_c5_3, ay_c5_4, am_en, fl_n, fl_i, fl_l, fl_r, List.cons_append, List.nil_append, List.append_nil, List.reduceReplicate, List.length_cons, List.length_nil, Nat.reduceAdd, Nat.reduceSub, Nat.reduceLT, Nat.reduceLeDiff, Nat.zero_le, Nat.le_refl, List.getElem?_cons_zero, List.getElem?_cons_succ, List.getElem?_nil, List.set_cons_zero, List.set_cons_succ, ii_of, J_b, J_s, J_c, K_l, nl_all, nk_n, nk_sn, nk_i, nk_r, decide_true, Bool.true_and, Bool.and_true, Bool.and_self, Int.toNat_natCast, Int.reduceToNat, Int.reduceAdd, Int.reduceSub, Int.reduceMul, Int.reduceNeg, Int.reduceEq, Int.reduceLT, Int.reduceLE, ii_div8, i0_b2id, i1_b2id, bt_i, bf_i, decide_false, ii_add, ii_sub, ii_mul, ii_neg, ii_lt, ii_le, ii_eq, ii_toInt, ii_clamp, ite_true, ite_false, if_true, if_false, true_and, and_true, and_self, and_false, false_and, wr_at, eq_self, Nat.reduceEqDiff, cm_max, cm_min, cm_abs, cmp_le_t, cmp_le_f, cmp_lt_t, cmp_lt_f, cmp_eq_t, cmp_eq_f, ↓reduceIte, not_true_eq_false, not_false_eq_true, ay_get0_1, ay_get1_1, ay_put0_1, ay_get0_2, ay_get1_2, ay_get2_2_4, ay_put0_2, ay_get0_5, ay_get1_5, ay_get2_5_1, ay_get2_5_2, ay_put0_5, ay_ia_1_1, ay_is_1_1, ay_al_1_1, ay_ia_1_2, ay_is_1_2, ay_al_1_2, ay_ia_1_3, ay_is_1_3, ay_al_1_3, ay_ia_1_4, ay_is_1_4, ay_al_1_4, ay_ia_1_5, ay_is_1_5, ay_al_1_5, ay_ia_1_6, ay_is_1_6, ay_al_1_6, ay_ia_2_3, ay_is_2_3, ay_al_2_3, ay_ia_2_4, ay_is_2_4, ay_al_2_4, ay_ia_2_5, ay_is_2_5, ay_al_2_5, ay_ia_5_3, ay_is_5_3, ay_al_5_3, ay_ia_5_4, ay_is_5_4, ay_al_5_4, ay_ia_5_5, ay_is_5_5, ay_al_5_5, ay_ia_5_6, ay_is_5_6, ay_al_5_6, ay_ia_5_7, ay_is_5_7, ay_al_5_7, D_X1_fulfil_0, D_X1_fulfil_1, n0, n4, m0, t0, ha, hla, x7, e1, e2, e3, e4, c_isNumber, c_isPerson, esub, hend]
      · have hz : ¬ ((nsub (x &&& (2 ^ bN b - 1)) (bset (sKept s) (bN b)) : Nat) : Int) = 0 := by omega
        by_cases c2 : 0 < s.2.2.2.1 p
        · rw [am_cl_s _ 12 _ _ _ (by decide) E_X1_fulfil (by rfl)]; simp (disch := omega) only [am_ev_ft, ax_null, ax_iconst, ax_bipush, ax_sipush, ax_ldc, ax_ldc_w, ax_ldc2_w, am_lq_i, am_lq_l, am_lq_r, ax_iload, ax_lload, ax_aload, ax_iload_0, ax_iload_1, ax_iload_2, ax_iload_3, ax_lload_0, ax_lload_1, ax_lload_2, ax_lload_3, ax_aload_0, ax_aload_1, ax_aload_2, ax_aload_3, am_sq_t, ax_istore, ax_istore_0, ax_istore_1, ax_istore_2, ax_istore_3, ax_astore, ax_astore_1, ax_astore_2, ax_astore_3, ax_lstore, ax_lstore_1, ax_lstore_3, am_iq_i, ax_iinc, ax_iadd, ax_isub, ax_imul, ax_iand, ax_ior, ax_ixor, ax_ishl, ax_ishr, ax_iushr, ax_ineg, ax_i2b, ax_i2s, ax_i2l, ax_ladd, ax_lmul, ax_lcmp, ax_dup_i, ax_dup_r, ax_dup2, ax_pop_i, ax_pop_r, ax_ic_eq, ax_ic_ne, ax_ic_lt, ax_ic_ge, ax_ic_gt, ax_ic_le, ax_goto, ax_ifnull_n, ax_ifnull_s, ax_ifnonnull_n, ax_ifnonnull_s, ax_gets, ax_iret, ax_lret, ax_aret, ax_vret, am_cq_i, am_cq_v, ay_if_eq, ay_if_ne, ay_if_lt, ay_if_ge, ay_if_gt, ay_if_le, ay_irem, ay_idiv, ay_zret0, ay_zret1, ay_zretb, ay_v1_0, ay_v1_1, ay_v1_2, ay_v1_3, ay_v1_4, ay_v2_0, ay_v2_1, ay_v2_2, ay_v2_3, ay_v2_4, ay_v3_0, ay_v3_1, ay_v3_2, ay_v3_3, ay_v3_4, ay_v4_0, ay_v4_1, ay_v4_2, ay_v4_3, ay_v4_4, ay_v5_0, ay_v5_1, ay_v5_2, ay_v5_3, ay_v5_4, ay_v6_0, ay_v6_1, ay_v6_2, ay_v6_3, ay_v6_4, ay_c1_0, ay_c1_1, ay_c1_2, ay_c1_3, ay_c1_4, ay_c2_0, ay_c2_1, ay_c2_2, ay_c2_3, ay_c2_4, ay_c3_0, ay_c3_1, ay_c3_2, ay_c3_3, ay_c3_4, ay_c5_0, ay_c5_1, ay_c5_2, ay_c5_3, ay_c5_4, am_en, fl_n, fl_i, fl_l, fl_r, List.cons_append, List.nil_append, List.append_nil, List.reduceReplicate, List.length_cons, List.length_nil, Nat.reduceAdd, Nat.reduceSub, Nat.reduceLT, Nat.reduceLeDiff, Nat.zero_le, Nat.le_refl, List.getElem?_cons_zero, List.getElem?_cons_succ, List.getElem?_nil, List.set_cons_zero, List.set_cons_succ, ii_of, J_b, J_s, J_c, K_l, nl_all, nk_n, nk_sn, nk_i, nk_r, decide_true, Bool.true_and, Bool.and_true, Bool.and_self, Int.toNat_natCast, Int.reduceToNat, Int.reduceAdd, Int.reduceSub, Int.reduceMul, Int.reduceNeg, Int.reduceEq, Int.reduceLT, Int.reduceLE, ii_div8, i0_b2id, i1_b2id, bt_i, bf_i, decide_false, ii_add, ii_sub, ii_mul, ii_neg, ii_lt, ii_le, ii_eq, ii_toInt, ii_clamp, ite_true, ite_false, if_true, if_false, true_and, and_true, and_self, and_false, false_and, wr_at, eq_self, Nat.reduceEqDiff, cm_max, cm_min, cm_abs, cmp_le_t, cmp_le_f, cmp_lt_t, cmp_lt_f, cmp_eq_t, cmp_eq_f, ↓reduceIte, not_true_eq_false, not_false_eq_true, ay_get0_1, ay_get1_1, ay_put0_1, ay_get0_2, ay_get1_2, ay_get2_2_4, ay_put0_2, ay_get0_5, ay_get1_5, ay_get2_5_1, ay_get2_5_2, ay_put0_5, ay_ia_1_1, ay_is_1_1, ay_al_1_1, ay_ia_1_2, ay_is_1_2, ay_al_1_2, ay_ia_1_3, ay_is_1_3, ay_al_1_3, ay_ia_1_4, ay_is_1_4, ay_al_1_4, ay_ia_1_5, ay_is_1_5, ay_al_1_5, ay_ia_1_6, ay_is_1_6, ay_al_1_6, ay_ia_2_3, ay_is_2_3, ay_al_2_3, ay_ia_2_4, ay_is_2_4, ay_al_2_4, ay_ia_2_5, ay_is_2_5, ay_al_2_5, ay_ia_5_3, ay_is_5_3, ay_al_5_3, ay_ia_5_4, ay_is_5_4, ay_al_5_4, ay_ia_5_5, ay_is_5_5, ay_al_5_5, ay_ia_5_6, ay_is_5_6, ay_al_5_6, ay_ia_5_7, ay_is_5_7, ay_al_5_7, D_X1_fulfil_0, D_X1_fulfil_1, n0, n4, m0, t0, ha, hla, x7, e1, e2, e3, e4, c_isNumber, c_isPerson, esub, hend]
        · rw [am_cl_s _ 12 _ _ _ (by decide) E_X1_fulfil (by rfl)]; simp (disch := omega) only [am_ev_ft, ax_null, ax_iconst, ax_bipush, ax_sipush, ax_ldc, ax_ldc_w, ax_ldc2_w, am_lq_i, am_lq_l, am_lq_r, ax_iload, ax_lload, ax_aload, ax_iload_0, ax_iload_1, ax_iload_2, ax_iload_3, ax_lload_0, ax_lload_1, ax_lload_2, ax_lload_3, ax_aload_0, ax_aload_1, ax_aload_2, ax_aload_3, am_sq_t, ax_istore, ax_istore_0, ax_istore_1, ax_istore_2, ax_istore_3, ax_astore, ax_astore_1, ax_astore_2, ax_astore_3, ax_lstore, ax_lstore_1, ax_lstore_3, am_iq_i, ax_iinc, ax_iadd, ax_isub, ax_imul, ax_iand, ax_ior, ax_ixor, ax_ishl, ax_ishr, ax_iushr, ax_ineg, ax_i2b, ax_i2s, ax_i2l, ax_ladd, ax_lmul, ax_lcmp, ax_dup_i, ax_dup_r, ax_dup2, ax_pop_i, ax_pop_r, ax_ic_eq, ax_ic_ne, ax_ic_lt, ax_ic_ge, ax_ic_gt, ax_ic_le, ax_goto, ax_ifnull_n, ax_ifnull_s, ax_ifnonnull_n, ax_ifnonnull_s, ax_gets, ax_iret, ax_lret, ax_aret, ax_vret, am_cq_i, am_cq_v, ay_if_eq, ay_if_ne, ay_if_lt, ay_if_ge, ay_if_gt, ay_if_le, ay_irem, ay_idiv, ay_zret0, ay_zret1, ay_zretb, ay_v1_0, ay_v1_1, ay_v1_2, ay_v1_3, ay_v1_4, ay_v2_0, ay_v2_1, ay_v2_2, ay_v2_3, ay_v2_4, ay_v3_0, ay_v3_1, ay_v3_2, ay_v3_3, ay_v3_4, ay_v4_0, ay_v4_1, ay_v4_2, ay_v4_3, ay_v4_4, ay_v5_0, ay_v5_1, ay_v5_2, ay_v5_3, ay_v5_4, ay_v6_0, ay_v6_1, ay_v6_2, ay_v6_3, ay_v6_4, ay_c1_0, ay_c1_1, ay_c1_2, ay_c1_3, ay_c1_4, ay_c2_0, ay_c2_1, ay_c2_2, ay_c2_3, ay_c2_4, ay_c3_0, ay_c3_1, ay_c3_2, ay_c3_3, ay_c3_4, ay_c5_0, ay_c5_1, ay_c5_2, ay_c5_3, ay_c5_4, am_en, fl_n, fl_i, fl_l, fl_r, List.cons_append, List.nil_append, List.append_nil, List.reduceReplicate, List.length_cons, List.length_nil, Nat.reduceAdd, Nat.reduceSub, Nat.reduceLT, Nat.reduceLeDiff, Nat.zero_le, Nat.le_refl, List.getElem?_cons_zero, List.getElem?_cons_succ, List.getElem?_nil, List.set_cons_zero, List.set_cons_succ, ii_of, J_b, J_s, J_c, K_l, nl_all, nk_n, nk_sn, nk_i, nk_r, decide_true, Bool.true_and, Bool.and_true, Bool.and_self, Int.toNat_natCast, Int.reduceToNat, Int.reduceAdd, Int.reduceSub, Int.reduceMul, Int.reduceNeg, Int.reduceEq, Int.reduceLT, Int.reduceLE, ii_div8, i0_b2id, i1_b2id, bt_i, bf_i, decide_false, ii_add, ii_sub, ii_mul, ii_neg, ii_lt, ii_le, ii_eq, ii_toInt, ii_clamp, ite_true, ite_false, if_true, if_false, true_and, and_true, and_self, and_false, false_and, wr_at, eq_self, Nat.reduceEqDiff, cm_max, cm_min, cm_abs, cmp_le_t, cmp_le_f, cmp_lt_t, cmp_lt_f, cmp_eq_t, cmp_eq_f, ↓reduceIte, not_true_eq_false, not_false_eq_true, ay_get0_1, ay_get1_1, ay_put0_1, ay_get0_2, ay_get1_2, ay_get2_2_4, ay_put0_2, ay_get0_5, ay_get1_5, ay_get2_5_1, ay_get2_5_2, ay_put0_5, ay_ia_1_1, ay_is_1_1, ay_al_1_1, ay_ia_1_2, ay_is_1_2, ay_al_1_2, ay_ia_1_3, ay_is_1_3, ay_al_1_3, ay_ia_1_4, ay_is_1_4, ay_al_1_4, ay_ia_1_5, ay_is_1_5, ay_al_1_5, ay_ia_1_6, ay_is_1_6, ay_al_1_6, ay_ia_2_3, ay_is_2_3, ay_al_2_3, ay_ia_2_4, ay_is_2_4, ay_al_2_4, ay_ia_2_5, ay_is_2_5, ay_al_2_5, ay_ia_5_3, ay_is_5_3, ay_al_5_3, ay_ia_5_4, ay_is_5_4, ay_al_5_4, ay_ia_5_5, ay_is_5_5, ay_al_5_5, ay_ia_5_6, ay_is_5_6, ay_al_5_6, ay_ia_5_7, ay_is_5_7, ay_al_5_7, D_X1_fulfil_0, D_X1_fulfil_1, n0, n4, m0, t0, ha, hla, x7, e1, e2, e3, e4, c_isNumber, c_isPerson, esub, hend]
    rw [hgo]
    refine ⟨_, rfl, ⟨?_, ?_, ?_, ?_, ?_, ?_, ?_, ?_⟩, ?_⟩
    · rw [es]
      refine ⟨fun w' hw' => ?_, fun p' hp' => ?_⟩
      · have := hR.1 w' hw'
        simp only [wr_at, fu_at]
        by_cases e : w' = w
        · simp [e]; rw [← e]; exact this.1
        · simp [e, this]
      · have := hR.2 p' hp'
        simp only [wr_at, fu_at]
        by_cases e : p' = p
        · simp [e]; exact m0
        · simp [e, this]
    · simp [wr_at, x1]
    · simp [wr_at, x2]
    · simp [wr_at, x3]
    · simp [wr_at, x4]
    · rw [held' 2 (by omega) s.2.2.2.1 (fu s.2.2.2.2 p (s.2.2.2.2 p + iI (-bW b w 4))), es]
      simp [wr_at]
    · simp [wr_at]
    · rw [← kept']; simp [wr_at, x7]
    · exact (((((XF.rf 5 g).wr _ _ _).wr _ _ _).wr _ _ _).wr _ _ _).wr _ _ _
theorem c_end_6 {g : SG} (H W w : Nat) (dd h : Int) (hH : H < 1024) (hW : W < 1024) (hw : w < 10) (g1 : g 6 0 11 = iI H) (g2 : g 6 0 12 = iI W) (g3 : g 6 0 10 = iI dd) : am_cl (d + 1) 15 [.inr (.inr (some (6, 0))), .inl (iI w), .inl (iI h)] g = some (none, wr (wr (wr (wr g 6 0 11 (iI (nsub H (2 ^ w) : Nat))) 6 0 12 (iI (nsub W (2 ^ w) : Nat))) 6 6 w (iI dd)) 6 7 w (iI h)) := by
  have e1 := ii_shl w (by omega)
  have e2 := ii_sub2 hH (two_lt hw)
  have e3 := ii_sub2 hW (two_lt hw)
  rw [am_cl_s _ 15 _ _ _ (by decide) E_X1_end (by rfl)]; simp (disch := omega) only [am_ev_ft, ax_null, ax_iconst, ax_bipush, ax_sipush, ax_ldc, ax_ldc_w, ax_ldc2_w, am_lq_i, am_lq_l, am_lq_r, ax_iload, ax_lload, ax_aload, ax_iload_0, ax_iload_1, ax_iload_2, ax_iload_3, ax_lload_0, ax_lload_1, ax_lload_2, ax_lload_3, ax_aload_0, ax_aload_1, ax_aload_2, ax_aload_3, am_sq_t, ax_istore, ax_istore_0, ax_istore_1, ax_istore_2, ax_istore_3, ax_astore, ax_astore_1, ax_astore_2, ax_astore_3, ax_lstore, ax_lstore_1, ax_lstore_3, am_iq_i, ax_iinc, ax_iadd, ax_isub, ax_imul, ax_iand, ax_ior, ax_ixor, ax_ishl, ax_ishr, ax_iushr, ax_ineg, ax_i2b, ax_i2s, ax_i2l, ax_ladd, ax_lmul, ax_lcmp, ax_dup_i, ax_dup_r, ax_dup2, ax_pop_i, ax_pop_r, ax_ic_eq, ax_ic_ne, ax_ic_lt, ax_ic_ge, ax_ic_gt, ax_ic_le, ax_goto, ax_ifnull_n, ax_ifnull_s, ax_ifnonnull_n, ax_ifnonnull_s, ax_gets, ax_iret, ax_lret, ax_aret, ax_vret, am_cq_i, am_cq_v, ay_if_eq, ay_if_ne, ay_if_lt, ay_if_ge, ay_if_gt, ay_if_le, ay_irem, ay_idiv, ay_zret0, ay_zret1, ay_zretb, ay_v1_0, ay_v1_1, ay_v1_2, ay_v1_3, ay_v1_4, ay_v2_0, ay_v2_1, ay_v2_2, ay_v2_3, ay_v2_4, ay_v3_0, ay_v3_1, ay_v3_2, ay_v3_3, ay_v3_4, ay_v4_0, ay_v4_1, ay_v4_2, ay_v4_3, ay_v4_4, ay_v5_0, ay_v5_1, ay_v5_2, ay_v5_3, ay_v5_4, ay_v6_0, ay_v6_1, ay_v6_2, ay_v6_3, ay_v6_4, ay_c1_0, ay_c1_1, ay_c1_2, ay_c1_3, ay_c1_4, ay_c2_0, ay_c2_1, ay_c2_2, ay_c2_3, ay_c2_4, ay_c3_0, ay_c3_1, ay_c3_2, ay_c3_3, ay_c3_4, ay_c5_0, ay_c5_1, ay_c5_2, ay_c5_3, ay_c5_4, am_en, fl_n, fl_i, fl_l, fl_r, List.cons_append, List.nil_append, List.append_nil, List.reduceReplicate, List.length_cons, List.length_nil, Nat.reduceAdd, Nat.reduceSub, Nat.reduceLT, Nat.reduceLeDiff, Nat.zero_le, Nat.le_refl, List.getElem?_cons_zero, List.getElem?_cons_succ, List.getElem?_nil, List.set_cons_zero, List.set_cons_succ, ii_of, J_b, J_s, J_c, K_l, nl_all, nk_n, nk_sn, nk_i, nk_r, decide_true, Bool.true_and, Bool.and_true, Bool.and_self, Int.toNat_natCast, Int.reduceToNat, Int.reduceAdd, Int.reduceSub, Int.reduceMul, Int.reduceNeg, Int.reduceEq, Int.reduceLT, Int.reduceLE, ii_div8, i0_b2id, i1_b2id, bt_i, bf_i, decide_false, ii_add, ii_sub, ii_mul, ii_neg, ii_lt, ii_le, ii_eq, ii_toInt, ii_clamp, ite_true, ite_false, if_true, if_false, true_and, and_true, and_self, and_false, false_and, wr_at, eq_self, Nat.reduceEqDiff, cm_max, cm_min, cm_abs, cmp_le_t, cmp_le_f, cmp_lt_t, cmp_lt_f, cmp_eq_t, cmp_eq_f, ↓reduceIte, not_true_eq_false, not_false_eq_true, ay_get0_6, ay_get1_6, ay_get2_6_1, ay_get2_6_2, ay_put0_6, ay_ia_6_3, ay_is_6_3, ay_al_6_3, ay_ia_6_4, ay_is_6_4, ay_al_6_4, ay_ia_6_5, ay_is_6_5, ay_al_6_5, ay_ia_6_6, ay_is_6_6, ay_al_6_6, ay_ia_6_7, ay_is_6_7, ay_al_6_7, D_X1_end_0, g1, g2, g3, e1, e2, e3]
theorem c_fulfil_6 {g : SG} {b : BB} (hb : BV b) (hB : XB g b) {law slots but dd : Int} (hd : 0 ≤ dd ∧ dd ≤ 99) {wt : Nat} (hwt : wt < 1024) {s : SS} (hX : XC g 6 b law slots but dd wt s) (hv : RV s) (w : Nat) (hw : w < bN b) (hh : s.1 w ≠ -1 ∧ s.2.2.1 w = 0) : ∃ g', am_cl (d + 2) 12 [.inr (.inr (some (6, 0))), .inl (iI w)] g = some (none, g') ∧ XC g' 6 b law slots but dd (nsub wt (2 ^ w)) (sPay b dd w s) ∧ XF 6 g g' := by
  have h10 := bN_le hb
  have r := bW_rng hb hw
  obtain ⟨n0, n1, n2, n3, n4⟩ := XB_want hB hw
  obtain ⟨hR, x1, x2, x3, x4, x5, x6, x7⟩ := hX
  obtain ⟨p, hp⟩ : ∃ p : Nat, bW b w 0 = (p : Int) := ⟨(bW b w 0).toNat, by omega⟩
  have hp6 : p < 6 := by omega
  have hpn : (bW b w 0).toNat = p := by omega
  rw [hp] at n0
  have m0 := (hR.2 p hp6).1
  have t0 := (hR.2 p hp6).2
  have v4 := hv.2.2.2 p
  have ha := hB.2.2.2.2.1 w (by omega)
  have hab := hb.2.2.2.2.2.2.1 w
  obtain ⟨x, hx⟩ : ∃ x : Nat, b 9 w = (x : Int) := ⟨(b 9 w).toNat, by omega⟩
  have hxn : (b 9 w).toNat = x := by omega
  have hx2 : x < 1024 := by omega
  rw [hx] at ha
  have hla := c_all d g hb hB
  have e1 := ii_and x (2 ^ bN b - 1)
  have hxa : x &&& (2 ^ bN b - 1) < 1024 := Nat.lt_of_le_of_lt Nat.and_le_left hx2
  have hkl := bset_le10 (p := sKept s) h10
  have hhl := bset_le10 (p := sHeld s) h10
  have e2 := ii_sub2 hxa hkl
  have hwg := words_good (s := s) hx2 h10
  have hok := sOk_iff (s := s) hxn (bN b)
  have hnl : nsub (x &&& (2 ^ bN b - 1)) (bset (sKept s) (bN b)) < 1024 := nsub_lt _ hxa
  have e3 := ii_shl w (by omega)
  have e4 := ii_or (bset (sKept s) (bN b)) (2 ^ w)
  have held' : ∀ h : Int, h ≠ 0 → ∀ mn tr, nsub (bset (sHeld s) (bN b)) (2 ^ w) = bset (sHeld (s.1, fu s.2.1 w dd, fu s.2.2.1 w h, mn, tr)) (bN b) := by
    intro h hh mn tr
    refine bset_rm h10 (fun i hi => ?_)
    show decide (s.1 i ≠ -1 ∧ fu s.2.2.1 w h i = 0) = (decide (s.1 i ≠ -1 ∧ s.2.2.1 i = 0) && !decide (i = w))
    by_cases e : i = w
    · have : fu s.2.2.1 w h i = h := by rw [fu_at, if_pos e]
      rw [decide_eq_false (by rw [this]; omega)]
      simp [e]
    · have : fu s.2.2.1 w h i = s.2.2.1 i := by rw [fu_at, if_neg e]
      rw [this]; simp [e]
  cases hM : sMay b w s with
  | true =>
    have es : sPay b dd w s = (s.1, fu s.2.1 w dd, fu s.2.2.1 w 1, fu s.2.2.2.1 p (s.2.2.2.1 p - 1), fu s.2.2.2.2 p (s.2.2.2.2 p + iI (bW b w 4))) := by
      unfold sPay; rw [if_pos hM, hpn]
    have hM2 := hM
    unfold sMay at hM2
    rw [hpn, Bool.and_eq_true, decide_eq_true_eq, hok, ← hwg] at hM2
    have kept' : bset (sKept s) (bN b) ||| 2 ^ w = bset (sKept (sPay b dd w s)) (bN b) := by
      rw [es]
      refine bset_ad hw (fun i hi => ?_)
      show decide (fu s.2.2.1 w 1 i = 1) = (decide (s.2.2.1 i = 1) || decide (i = w))
      by_cases e : i = w
      · have : fu s.2.2.1 w 1 i = 1 := by rw [fu_at, if_pos e]
        rw [this]; simp [e]
      · have : fu s.2.2.1 w 1 i = s.2.2.1 i := by rw [fu_at, if_neg e]
        rw [this]; simp [e]
    have hz : ((nsub (x &&& (2 ^ bN b - 1)) (bset (sKept s) (bN b)) : Nat) : Int) = 0 := by rw [hM2.2]; rfl
    have hpos := hM2.1
    have hend := c_end_6 d (g := wr (wr (wr g 6 4 p (iI (s.2.2.2.1 p - 1))) 6 3 p (s.2.2.2.2 p + iI (bW b w 4))) 6 0 13 (iI (bset (sKept s) (bN b) ||| 2 ^ w : Nat))) (bset (sHeld s) (bN b)) wt w dd 1 hhl hwt (by omega) (by simp [wr_at, x5]) (by simp [wr_at, x6]) (by simp [wr_at, x4])
    rw [am_cl_s _ 12 _ _ _ (by decide) E_X1_fulfil (by rfl)]; simp (disch := omega) only [am_ev_ft, ax_null, ax_iconst, ax_bipush, ax_sipush, ax_ldc, ax_ldc_w, ax_ldc2_w, am_lq_i, am_lq_l, am_lq_r, ax_iload, ax_lload, ax_aload, ax_iload_0, ax_iload_1, ax_iload_2, ax_iload_3, ax_lload_0, ax_lload_1, ax_lload_2, ax_lload_3, ax_aload_0, ax_aload_1, ax_aload_2, ax_aload_3, am_sq_t, ax_istore, ax_istore_0, ax_istore_1, ax_istore_2, ax_istore_3, ax_astore, ax_astore_1, ax_astore_2, ax_astore_3, ax_lstore, ax_lstore_1, ax_lstore_3, am_iq_i, ax_iinc, ax_iadd, ax_isub, ax_imul, ax_iand, ax_ior, ax_ixor, ax_ishl, ax_ishr, ax_iushr, ax_ineg, ax_i2b, ax_i2s, ax_i2l, ax_ladd, ax_lmul, ax_lcmp, ax_dup_i, ax_dup_r, ax_dup2, ax_pop_i, ax_pop_r, ax_ic_eq, ax_ic_ne, ax_ic_lt, ax_ic_ge, ax_ic_gt, ax_ic_le, ax_goto, ax_ifnull_n, ax_ifnull_s, ax_ifnonnull_n, ax_ifnonnull_s, ax_gets, ax_iret, ax_lret, ax_aret, ax_vret, am_cq_i, am_cq_v, ay_if_eq, ay_if_ne, ay_if_lt, ay_if_ge, ay_if_gt, ay_if_le, ay_irem, ay_idiv, ay_zret0, ay_zret1, ay_zretb, ay_v1_0, ay_v1_1, ay_v1_2, ay_v1_3, ay_v1_4, ay_v2_0, ay_v2_1, ay_v2_2, ay_v2_3, ay_v2_4, ay_v3_0, ay_v3_1, ay_v3_2, ay_v3_3, ay_v3_4, ay_v4_0, ay_v4_1, ay_v4_2, ay_v4_3, ay_v4_4, ay_v5_0, ay_v5_1, ay_v5_2, ay_v5_3, ay_v5_4, ay_v6_0, ay_v6_1, ay_v6_2, ay_v6_3, ay_v6_4, ay_c1_0, ay_c1_1, ay_c1_2, ay_c1_3, ay_c1_4, ay_c2_0, ay_c2_1, ay_c2_2, ay_c2_3, ay_c2_4, ay_c3_0, ay_c3_1, ay_c3_2, ay_c3_3, ay_c3_4, ay_c5_0, ay_c5_1, ay_c5_2, ay_c5_3, ay_c5_4, am_en, fl_n, fl_i, fl_l, fl_r, List.cons_append, List.nil_append, List.append_nil, List.reduceReplicate, List.length_cons, List.length_nil, Nat.reduceAdd, Nat.reduceSub, Nat.reduceLT, Nat.reduceLeDiff, Nat.zero_le, Nat.le_refl, List.getElem?_cons_zero, List.getElem?_cons_succ, List.getElem?_nil, List.set_cons_zero, List.set_cons_succ, ii_of, J_b, J_s, J_c, K_l, nl_all, nk_n, nk_sn, nk_i, nk_r, decide_true, Bool.true_and, Bool.and_true, Bool.and_self, Int.toNat_natCast, Int.reduceToNat, Int.reduceAdd, Int.reduceSub, Int.reduceMul, Int.reduceNeg, Int.reduceEq, Int.reduceLT, Int.reduceLE, ii_div8, i0_b2id, i1_b2id, bt_i, bf_i, decide_false, ii_add, ii_sub, ii_mul, ii_neg, ii_lt, ii_le, ii_eq, ii_toInt, ii_clamp, ite_true, ite_false, if_true, if_false, true_and, and_true, and_self, and_false, false_and, wr_at, eq_self, Nat.reduceEqDiff, cm_max, cm_min, cm_abs, cmp_le_t, cmp_le_f, cmp_lt_t, cmp_lt_f, cmp_eq_t, cmp_eq_f, ↓reduceIte, not_true_eq_false, not_false_eq_true, ay_get0_1, ay_get1_1, ay_put0_1, ay_get0_2, ay_get1_2, ay_get2_2_4, ay_put0_2, ay_get0_6, ay_get1_6, ay_get2_6_1, ay_get2_6_2, ay_put0_6, ay_ia_1_1, ay_is_1_1, ay_al_1_1, ay_ia_1_2, ay_is_1_2, ay_al_1_2, ay_ia_1_3, ay_is_1_3, ay_al_1_3, ay_ia_1_4, ay_is_1_4, ay_al_1_4, ay_ia_1_5, ay_is_1_5, ay_al_1_5, ay_ia_1_6, ay_is_1_6, ay_al_1_6, ay_ia_2_3, ay_is_2_3, ay_al_2_3, ay_ia_2_4, ay_is_2_4, ay_al_2_4, ay_ia_2_5, ay_is_2_5, ay_al_2_5, ay_ia_6_3, ay_is_6_3, ay_al_6_3, ay_ia_6_4, ay_is_6_4, ay_al_6_4, ay_ia_6_5, ay_is_6_5, ay_al_6_5, ay_ia_6_6, ay_is_6_6, ay_al_6_6, ay_ia_6_7, ay_is_6_7, ay_al_6_7, D_X1_fulfil_0, D_X1_fulfil_1, n0, n4, m0, t0, ha, hla, x7, e1, e2, e3, e4, c_isNumber, c_isPerson, hend]
    refine ⟨_, rfl, ⟨?_, ?_, ?_, ?_, ?_, ?_, ?_, ?_⟩, ?_⟩
    · rw [es]
      refine ⟨fun w' hw' => ?_, fun p' hp' => ?_⟩
      · have := hR.1 w' hw'
        simp only [wr_at, fu_at]
        by_cases e : w' = w
        · simp [e]; rw [← e]; exact this.1
        · simp [e, this]
      · have := hR.2 p' hp'
        simp only [wr_at, fu_at]
        by_cases e : p' = p
        · simp [e]
        · simp [e, this]
    · simp [wr_at, x1]
    · simp [wr_at, x2]
    · simp [wr_at, x3]
    · simp [wr_at, x4]
    · rw [held' 1 (by omega) (fu s.2.2.2.1 p (s.2.2.2.1 p - 1)) (fu s.2.2.2.2 p (s.2.2.2.2 p + iI (bW b w 4))), es]
      simp [wr_at]
    · simp [wr_at]
    · rw [← kept']; simp [wr_at]
    · exact (((((((XF.rf 6 g).wr _ _ _).wr _ _ _).wr _ _ _).wr _ _ _).wr _ _ _).wr _ _ _).wr _ _ _
  | false =>
    have es : sPay b dd w s = (s.1, fu s.2.1 w dd, fu s.2.2.1 w 2, s.2.2.2.1, fu s.2.2.2.2 p (s.2.2.2.2 p + iI (-bW b w 4))) := by
      unfold sPay; rw [if_neg (by rw [hM]; decide), hpn]
    have esub : s.2.2.2.2 p - iI (bW b w 4) = s.2.2.2.2 p + iI (-bW b w 4) := by rw [← ii_neg, Int32.sub_eq_add_neg]
    have hM2 : ¬ (0 < s.2.2.2.1 p ∧ nsub (x &&& (2 ^ bN b - 1)) (bset (sKept s) (bN b)) = 0) := by
      intro z
      have : sMay b w s = true := by
        unfold sMay
        rw [hpn, Bool.and_eq_true, decide_eq_true_eq, hok, ← hwg]
        exact z
      rw [hM] at this; cases this
    have kept' : bset (sKept s) (bN b) = bset (sKept (sPay b dd w s)) (bN b) := by
      rw [es]
      refine bset_ext (fun i hi => ?_)
      show decide (s.2.2.1 i = 1) = decide (fu s.2.2.1 w 2 i = 1)
      by_cases e : i = w
      · have h1 : fu s.2.2.1 w 2 i = 2 := by rw [fu_at, if_pos e]
        rw [h1, e, hh.2]; rfl
      · have h1 : fu s.2.2.1 w 2 i = s.2.2.1 i := by rw [fu_at, if_neg e]
        rw [h1]
    have hend := c_end_6 d (g := wr g 6 3 p (s.2.2.2.2 p + iI (-bW b w 4))) (bset (sHeld s) (bN b)) wt w dd 2 hhl hwt (by omega) (by simp [wr_at, x5]) (by simp [wr_at, x6]) (by simp [wr_at, x4])
    have hgo : am_cl (d + 2) 12 [.inr (.inr (some (6, 0))), .inl (iI w)] g = some (none, wr (wr (wr (wr (wr g 6 3 p (s.2.2.2.2 p + iI (-bW b w 4))) 6 0 11 (iI (nsub (bset (sHeld s) (bN b)) (2 ^ w) : Nat))) 6 0 12 (iI (nsub wt (2 ^ w) : Nat))) 6 6 w (iI dd)) 6 7 w (iI 2)) := by
      by_cases c1 : nsub (x &&& (2 ^ bN b - 1)) (bset (sKept s) (bN b)) = 0
      · have c2 : ¬ 0 < s.2.2.2.1 p := fun z => hM2 ⟨z, c1⟩
        have hz : ((nsub (x &&& (2 ^ bN b - 1)) (bset (sKept s) (bN b)) : Nat) : Int) = 0 := by rw [c1]; rfl
        rw [am_cl_s _ 12 _ _ _ (by decide) E_X1_fulfil (by rfl)]; simp (disch := omega) only [am_ev_ft, ax_null, ax_iconst, ax_bipush, ax_sipush, ax_ldc, ax_ldc_w, ax_ldc2_w, am_lq_i, am_lq_l, am_lq_r, ax_iload, ax_lload, ax_aload, ax_iload_0, ax_iload_1, ax_iload_2, ax_iload_3, ax_lload_0, ax_lload_1, ax_lload_2, ax_lload_3, ax_aload_0, ax_aload_1, ax_aload_2, ax_aload_3, am_sq_t, ax_istore, ax_istore_0, ax_istore_1, ax_istore_2, ax_istore_3, ax_astore, ax_astore_1, ax_astore_2, ax_astore_3, ax_lstore, ax_lstore_1, ax_lstore_3, am_iq_i, ax_iinc, ax_iadd, ax_isub, ax_imul, ax_iand, ax_ior, ax_ixor, ax_ishl, ax_ishr, ax_iushr, ax_ineg, ax_i2b, ax_i2s, ax_i2l, ax_ladd, ax_lmul, ax_lcmp, ax_dup_i, ax_dup_r, ax_dup2, ax_pop_i, ax_pop_r, ax_ic_eq, ax_ic_ne, ax_ic_lt, ax_ic_ge, ax_ic_gt, ax_ic_le, ax_goto, ax_ifnull_n, ax_ifnull_s, ax_ifnonnull_n, ax_ifnonnull_s, ax_gets, ax_iret, ax_lret, ax_aret, ax_vret, am_cq_i, am_cq_v, ay_if_eq, ay_if_ne, ay_if_lt, ay_if_ge, ay_if_gt, ay_if_le, ay_irem, ay_idiv, ay_zret0, ay_zret1, ay_zretb, ay_v1_0, ay_v1_1, ay_v1_2, ay_v1_3, ay_v1_4, ay_v2_0, ay_v2_1, ay_v2_2, ay_v2_3, ay_v2_4, ay_v3_0, ay_v3_1, ay_v3_2, ay_v3_3, ay_v3_4, ay_v4_0, ay_v4_1, ay_v4_2, ay_v4_3, ay_v4_4, ay_v5_0, ay_v5_1, ay_v5_2, ay_v5_3, ay_v5_4, ay_v6_0, ay_v6_1, ay_v6_2, ay_v6_3, ay_v6_4, ay_c1_0, ay_c1_1, ay_c1_2, ay_c1_3, ay_c1_4, ay_c2_0, ay_c2_1, ay_c2_2, ay_c2_3, ay_c2_4, ay_c3_0, ay_c3_1, ay_c3_2, ay_c3_3, ay_c3_4, ay_c5_0, ay_c5_1, ay_c5_2, ay_c5_3, ay_c5_4, am_en, fl_n, fl_i, fl_l, fl_r, List.cons_append, List.nil_append, List.append_nil, List.reduceReplicate, List.length_cons, List.length_nil, Nat.reduceAdd, Nat.reduceSub, Nat.reduceLT, Nat.reduceLeDiff, Nat.zero_le, Nat.le_refl, List.getElem?_cons_zero, List.getElem?_cons_succ, List.getElem?_nil, List.set_cons_zero, List.set_cons_succ, ii_of, J_b, J_s, J_c, K_l, nl_all, nk_n, nk_sn, nk_i, nk_r, decide_true, Bool.true_and, Bool.and_true, Bool.and_self, Int.toNat_natCast, Int.reduceToNat, Int.reduceAdd, Int.reduceSub, Int.reduceMul, Int.reduceNeg, Int.reduceEq, Int.reduceLT, Int.reduceLE, ii_div8, i0_b2id, i1_b2id, bt_i, bf_i, decide_false, ii_add, ii_sub, ii_mul, ii_neg, ii_lt, ii_le, ii_eq, ii_toInt, ii_clamp, ite_true, ite_false, if_true, if_false, true_and, and_true, and_self, and_false, false_and, wr_at, eq_self, Nat.reduceEqDiff, cm_max, cm_min, cm_abs, cmp_le_t, cmp_le_f, cmp_lt_t, cmp_lt_f, cmp_eq_t, cmp_eq_f, ↓reduceIte, not_true_eq_false, not_false_eq_true, ay_get0_1, ay_get1_1, ay_put0_1, ay_get0_2, ay_get1_2, ay_get2_2_4, ay_put0_2, ay_get0_6, ay_get1_6, ay_get2_6_1, ay_get2_6_2, ay_put0_6, ay_ia_1_1, ay_is_1_1, ay_al_1_1, ay_ia_1_2, ay_is_1_2, ay_al_1_2, ay_ia_1_3, ay_is_1_3, ay_al_1_3, ay_ia_1_4, ay_is_1_4, ay_al_1_4, ay_ia_1_5, ay_is_1_5, ay_al_1_5, ay_ia_1_6, ay_is_1_6, ay_al_1_6, ay_ia_2_3, ay_is_2_3, ay_al_2_3, ay_ia_2_4, ay_is_2_4, ay_al_2_4, ay_ia_2_5, ay_is_2_5, ay_al_2_5, ay_ia_6_3, ay_is_6_3, ay_al_6_3, ay_ia_6_4, ay_is_6_4, ay_al_6_4, ay_ia_6_5, ay_is_6_5, ay_al_6_5, ay_ia_6_6, ay_is_6_6, ay_al_6_6, ay_ia_6_7, ay_is_6_7, ay_al_6_7, D_X1_fulfil_0, D_X1_fulfil_1, n0, n4, m0, t0, ha, hla, x7, e1, e2, e3, e4, c_isNumber, c_isPerson, esub, hend]
      · have hz : ¬ ((nsub (x &&& (2 ^ bN b - 1)) (bset (sKept s) (bN b)) : Nat) : Int) = 0 := by omega
        by_cases c2 : 0 < s.2.2.2.1 p
        · rw [am_cl_s _ 12 _ _ _ (by decide) E_X1_fulfil (by rfl)]; simp (disch := omega) only [am_ev_ft, ax_null, ax_iconst, ax_bipush, ax_sipush, ax_ldc, ax_ldc_w, ax_ldc2_w, am_lq_i, am_lq_l, am_lq_r, ax_iload, ax_lload, ax_aload, ax_iload_0, ax_iload_1, ax_iload_2, ax_iload_3, ax_lload_0, ax_lload_1, ax_lload_2, ax_lload_3, ax_aload_0, ax_aload_1, ax_aload_2, ax_aload_3, am_sq_t, ax_istore, ax_istore_0, ax_istore_1, ax_istore_2, ax_istore_3, ax_astore, ax_astore_1, ax_astore_2, ax_astore_3, ax_lstore, ax_lstore_1, ax_lstore_3, am_iq_i, ax_iinc, ax_iadd, ax_isub, ax_imul, ax_iand, ax_ior, ax_ixor, ax_ishl, ax_ishr, ax_iushr, ax_ineg, ax_i2b, ax_i2s, ax_i2l, ax_ladd, ax_lmul, ax_lcmp, ax_dup_i, ax_dup_r, ax_dup2, ax_pop_i, ax_pop_r, ax_ic_eq, ax_ic_ne, ax_ic_lt, ax_ic_ge, ax_ic_gt, ax_ic_le, ax_goto, ax_ifnull_n, ax_ifnull_s, ax_ifnonnull_n, ax_ifnonnull_s, ax_gets, ax_iret, ax_lret, ax_aret, ax_vret, am_cq_i, am_cq_v, ay_if_eq, ay_if_ne, ay_if_lt, ay_if_ge, ay_if_gt, ay_if_le, ay_irem, ay_idiv, ay_zret0, ay_zret1, ay_zretb, ay_v1_0, ay_v1_1, ay_v1_2, ay_v1_3, ay_v1_4, ay_v2_0, ay_v2_1, ay_v2_2, ay_v2_3, ay_v2_4, ay_v3_0, ay_v3_1, ay_v3_2, ay_v3_3, ay_v3_4, ay_v4_0, ay_v4_1, ay_v4_2, ay_v4_3, ay_v4_4, ay_v5_0, ay_v5_1, ay_v5_2, ay_v5_3, ay_v5_4, ay_v6_0, ay_v6_1, ay_v6_2, ay_v6_3, ay_v6_4, ay_c1_0, ay_c1_1, ay_c1_2, ay_c1_3, ay_c1_4, ay_c2_0, ay_c2_1, ay_c2_2, ay_c2_3, ay_c2_4, ay_c3_0, ay_c3_1, ay_c3_2, ay_c3_3, ay_c3_4, ay_c5_0, ay_c5_1, ay_c5_2, ay_c5_3, ay_c5_4, am_en, fl_n, fl_i, fl_l, fl_r, List.cons_append, List.nil_append, List.append_nil, List.reduceReplicate, List.length_cons, List.length_nil, Nat.reduceAdd, Nat.reduceSub, Nat.reduceLT, Nat.reduceLeDiff, Nat.zero_le, Nat.le_refl, List.getElem?_cons_zero, List.getElem?_cons_succ, List.getElem?_nil, List.set_cons_zero, List.set_cons_succ, ii_of, J_b, J_s, J_c, K_l, nl_all, nk_n, nk_sn, nk_i, nk_r, decide_true, Bool.true_and, Bool.and_true, Bool.and_self, Int.toNat_natCast, Int.reduceToNat, Int.reduceAdd, Int.reduceSub, Int.reduceMul, Int.reduceNeg, Int.reduceEq, Int.reduceLT, Int.reduceLE, ii_div8, i0_b2id, i1_b2id, bt_i, bf_i, decide_false, ii_add, ii_sub, ii_mul, ii_neg, ii_lt, ii_le, ii_eq, ii_toInt, ii_clamp, ite_true, ite_false, if_true, if_false, true_and, and_true, and_self, and_false, false_and, wr_at, eq_self, Nat.reduceEqDiff, cm_max, cm_min, cm_abs, cmp_le_t, cmp_le_f, cmp_lt_t, cmp_lt_f, cmp_eq_t, cmp_eq_f, ↓reduceIte, not_true_eq_false, not_false_eq_true, ay_get0_1, ay_get1_1, ay_put0_1, ay_get0_2, ay_get1_2, ay_get2_2_4, ay_put0_2, ay_get0_6, ay_get1_6, ay_get2_6_1, ay_get2_6_2, ay_put0_6, ay_ia_1_1, ay_is_1_1, ay_al_1_1, ay_ia_1_2, ay_is_1_2, ay_al_1_2, ay_ia_1_3, ay_is_1_3, ay_al_1_3, ay_ia_1_4, ay_is_1_4, ay_al_1_4, ay_ia_1_5, ay_is_1_5, ay_al_1_5, ay_ia_1_6, ay_is_1_6, ay_al_1_6, ay_ia_2_3, ay_is_2_3, ay_al_2_3, ay_ia_2_4, ay_is_2_4, ay_al_2_4, ay_ia_2_5, ay_is_2_5, ay_al_2_5, ay_ia_6_3, ay_is_6_3, ay_al_6_3, ay_ia_6_4, ay_is_6_4, ay_al_6_4, ay_ia_6_5, ay_is_6_5, ay_al_6_5, ay_ia_6_6, ay_is_6_6, ay_al_6_6, ay_ia_6_7, ay_is_6_7, ay_al_6_7, D_X1_fulfil_0, D_X1_fulfil_1, n0, n4, m0, t0, ha, hla, x7, e1, e2, e3, e4, c_isNumber, c_isPerson, esub, hend]
        · rw [am_cl_s _ 12 _ _ _ (by decide) E_X1_fulfil (by rfl)]; simp (disch := omega) only [am_ev_ft, ax_null, ax_iconst, ax_bipush, ax_sipush, ax_ldc, ax_ldc_w, ax_ldc2_w, am_lq_i, am_lq_l, am_lq_r, ax_iload, ax_lload, ax_aload, ax_iload_0, ax_iload_1, ax_iload_2, ax_iload_3, ax_lload_0, ax_lload_1, ax_lload_2, ax_lload_3, ax_aload_0, ax_aload_1, ax_aload_2, ax_aload_3, am_sq_t, ax_istore, ax_istore_0, ax_istore_1, ax_istore_2, ax_istore_3, ax_astore, ax_astore_1, ax_astore_2, ax_astore_3, ax_lstore, ax_lstore_1, ax_lstore_3, am_iq_i, ax_iinc, ax_iadd, ax_isub, ax_imul, ax_iand, ax_ior, ax_ixor, ax_ishl, ax_ishr, ax_iushr, ax_ineg, ax_i2b, ax_i2s, ax_i2l, ax_ladd, ax_lmul, ax_lcmp, ax_dup_i, ax_dup_r, ax_dup2, ax_pop_i, ax_pop_r, ax_ic_eq, ax_ic_ne, ax_ic_lt, ax_ic_ge, ax_ic_gt, ax_ic_le, ax_goto, ax_ifnull_n, ax_ifnull_s, ax_ifnonnull_n, ax_ifnonnull_s, ax_gets, ax_iret, ax_lret, ax_aret, ax_vret, am_cq_i, am_cq_v, ay_if_eq, ay_if_ne, ay_if_lt, ay_if_ge, ay_if_gt, ay_if_le, ay_irem, ay_idiv, ay_zret0, ay_zret1, ay_zretb, ay_v1_0, ay_v1_1, ay_v1_2, ay_v1_3, ay_v1_4, ay_v2_0, ay_v2_1, ay_v2_2, ay_v2_3, ay_v2_4, ay_v3_0, ay_v3_1, ay_v3_2, ay_v3_3, ay_v3_4, ay_v4_0, ay_v4_1, ay_v4_2, ay_v4_3, ay_v4_4, ay_v5_0, ay_v5_1, ay_v5_2, ay_v5_3, ay_v5_4, ay_v6_0, ay_v6_1, ay_v6_2, ay_v6_3, ay_v6_4, ay_c1_0, ay_c1_1, ay_c1_2, ay_c1_3, ay_c1_4, ay_c2_0, ay_c2_1, ay_c2_2, ay_c2_3, ay_c2_4, ay_c3_0, ay_c3_1, ay_c3_2, ay_c3_3, ay_c3_4, ay_c5_0, ay_c5_1, ay_c5_2, ay_c5_3, ay_c5_4, am_en, fl_n, fl_i, fl_l, fl_r, List.cons_append, List.nil_append, List.append_nil, List.reduceReplicate, List.length_cons, List.length_nil, Nat.reduceAdd, Nat.reduceSub, Nat.reduceLT, Nat.reduceLeDiff, Nat.zero_le, Nat.le_refl, List.getElem?_cons_zero, List.getElem?_cons_succ, List.getElem?_nil, List.set_cons_zero, List.set_cons_succ, ii_of, J_b, J_s, J_c, K_l, nl_all, nk_n, nk_sn, nk_i, nk_r, decide_true, Bool.true_and, Bool.and_true, Bool.and_self, Int.toNat_natCast, Int.reduceToNat, Int.reduceAdd, Int.reduceSub, Int.reduceMul, Int.reduceNeg, Int.reduceEq, Int.reduceLT, Int.reduceLE, ii_div8, i0_b2id, i1_b2id, bt_i, bf_i, decide_false, ii_add, ii_sub, ii_mul, ii_neg, ii_lt, ii_le, ii_eq, ii_toInt, ii_clamp, ite_true, ite_false, if_true, if_false, true_and, and_true, and_self, and_false, false_and, wr_at, eq_self, Nat.reduceEqDiff, cm_max, cm_min, cm_abs, cmp_le_t, cmp_le_f, cmp_lt_t, cmp_lt_f, cmp_eq_t, cmp_eq_f, ↓reduceIte, not_true_eq_false, not_false_eq_true, ay_get0_1, ay_get1_1, ay_put0_1, ay_get0_2, ay_get1_2, ay_get2_2_4, ay_put0_2, ay_get0_6, ay_get1_6, ay_get2_6_1, ay_get2_6_2, ay_put0_6, ay_ia_1_1, ay_is_1_1, ay_al_1_1, ay_ia_1_2, ay_is_1_2, ay_al_1_2, ay_ia_1_3, ay_is_1_3, ay_al_1_3, ay_ia_1_4, ay_is_1_4, ay_al_1_4, ay_ia_1_5, ay_is_1_5, ay_al_1_5, ay_ia_1_6, ay_is_1_6, ay_al_1_6, ay_ia_2_3, ay_is_2_3, ay_al_2_3, ay_ia_2_4, ay_is_2_4, ay_al_2_4, ay_ia_2_5, ay_is_2_5, ay_al_2_5, ay_ia_6_3, ay_is_6_3, ay_al_6_3, ay_ia_6_4, ay_is_6_4, ay_al_6_4, ay_ia_6_5, ay_is_6_5, ay_al_6_5, ay_ia_6_6, ay_is_6_6, ay_al_6_6, ay_ia_6_7, ay_is_6_7, ay_al_6_7, D_X1_fulfil_0, D_X1_fulfil_1, n0, n4, m0, t0, ha, hla, x7, e1, e2, e3, e4, c_isNumber, c_isPerson, esub, hend]
    rw [hgo]
    refine ⟨_, rfl, ⟨?_, ?_, ?_, ?_, ?_, ?_, ?_, ?_⟩, ?_⟩
    · rw [es]
      refine ⟨fun w' hw' => ?_, fun p' hp' => ?_⟩
      · have := hR.1 w' hw'
        simp only [wr_at, fu_at]
        by_cases e : w' = w
        · simp [e]; rw [← e]; exact this.1
        · simp [e, this]
      · have := hR.2 p' hp'
        simp only [wr_at, fu_at]
        by_cases e : p' = p
        · simp [e]; exact m0
        · simp [e, this]
    · simp [wr_at, x1]
    · simp [wr_at, x2]
    · simp [wr_at, x3]
    · simp [wr_at, x4]
    · rw [held' 2 (by omega) s.2.2.2.1 (fu s.2.2.2.2 p (s.2.2.2.2 p + iI (-bW b w 4))), es]
      simp [wr_at]
    · simp [wr_at]
    · rw [← kept']; simp [wr_at, x7]
    · exact (((((XF.rf 6 g).wr _ _ _).wr _ _ _).wr _ _ _).wr _ _ _).wr _ _ _
theorem c_end_7 {g : SG} (H W w : Nat) (dd h : Int) (hH : H < 1024) (hW : W < 1024) (hw : w < 10) (g1 : g 7 0 11 = iI H) (g2 : g 7 0 12 = iI W) (g3 : g 7 0 10 = iI dd) : am_cl (d + 1) 15 [.inr (.inr (some (7, 0))), .inl (iI w), .inl (iI h)] g = some (none, wr (wr (wr (wr g 7 0 11 (iI (nsub H (2 ^ w) : Nat))) 7 0 12 (iI (nsub W (2 ^ w) : Nat))) 7 6 w (iI dd)) 7 7 w (iI h)) := by
  have e1 := ii_shl w (by omega)
  have e2 := ii_sub2 hH (two_lt hw)
  have e3 := ii_sub2 hW (two_lt hw)
  rw [am_cl_s _ 15 _ _ _ (by decide) E_X1_end (by rfl)]; simp (disch := omega) only [am_ev_ft, ax_null, ax_iconst, ax_bipush, ax_sipush, ax_ldc, ax_ldc_w, ax_ldc2_w, am_lq_i, am_lq_l, am_lq_r, ax_iload, ax_lload, ax_aload, ax_iload_0, ax_iload_1, ax_iload_2, ax_iload_3, ax_lload_0, ax_lload_1, ax_lload_2, ax_lload_3, ax_aload_0, ax_aload_1, ax_aload_2, ax_aload_3, am_sq_t, ax_istore, ax_istore_0, ax_istore_1, ax_istore_2, ax_istore_3, ax_astore, ax_astore_1, ax_astore_2, ax_astore_3, ax_lstore, ax_lstore_1, ax_lstore_3, am_iq_i, ax_iinc, ax_iadd, ax_isub, ax_imul, ax_iand, ax_ior, ax_ixor, ax_ishl, ax_ishr, ax_iushr, ax_ineg, ax_i2b, ax_i2s, ax_i2l, ax_ladd, ax_lmul, ax_lcmp, ax_dup_i, ax_dup_r, ax_dup2, ax_pop_i, ax_pop_r, ax_ic_eq, ax_ic_ne, ax_ic_lt, ax_ic_ge, ax_ic_gt, ax_ic_le, ax_goto, ax_ifnull_n, ax_ifnull_s, ax_ifnonnull_n, ax_ifnonnull_s, ax_gets, ax_iret, ax_lret, ax_aret, ax_vret, am_cq_i, am_cq_v, ay_if_eq, ay_if_ne, ay_if_lt, ay_if_ge, ay_if_gt, ay_if_le, ay_irem, ay_idiv, ay_zret0, ay_zret1, ay_zretb, ay_v1_0, ay_v1_1, ay_v1_2, ay_v1_3, ay_v1_4, ay_v2_0, ay_v2_1, ay_v2_2, ay_v2_3, ay_v2_4, ay_v3_0, ay_v3_1, ay_v3_2, ay_v3_3, ay_v3_4, ay_v4_0, ay_v4_1, ay_v4_2, ay_v4_3, ay_v4_4, ay_v5_0, ay_v5_1, ay_v5_2, ay_v5_3, ay_v5_4, ay_v6_0, ay_v6_1, ay_v6_2, ay_v6_3, ay_v6_4, ay_c1_0, ay_c1_1, ay_c1_2, ay_c1_3, ay_c1_4, ay_c2_0, ay_c2_1, ay_c2_2, ay_c2_3, ay_c2_4, ay_c3_0, ay_c3_1, ay_c3_2, ay_c3_3, ay_c3_4, ay_c5_0, ay_c5_1, ay_c5_2, ay_c5_3, ay_c5_4, am_en, fl_n, fl_i, fl_l, fl_r, List.cons_append, List.nil_append, List.append_nil, List.reduceReplicate, List.length_cons, List.length_nil, Nat.reduceAdd, Nat.reduceSub, Nat.reduceLT, Nat.reduceLeDiff, Nat.zero_le, Nat.le_refl, List.getElem?_cons_zero, List.getElem?_cons_succ, List.getElem?_nil, List.set_cons_zero, List.set_cons_succ, ii_of, J_b, J_s, J_c, K_l, nl_all, nk_n, nk_sn, nk_i, nk_r, decide_true, Bool.true_and, Bool.and_true, Bool.and_self, Int.toNat_natCast, Int.reduceToNat, Int.reduceAdd, Int.reduceSub, Int.reduceMul, Int.reduceNeg, Int.reduceEq, Int.reduceLT, Int.reduceLE, ii_div8, i0_b2id, i1_b2id, bt_i, bf_i, decide_false, ii_add, ii_sub, ii_mul, ii_neg, ii_lt, ii_le, ii_eq, ii_toInt, ii_clamp, ite_true, ite_false, if_true, if_false, true_and, and_true, and_self, and_false, false_and, wr_at, eq_self, Nat.reduceEqDiff, cm_max, cm_min, cm_abs, cmp_le_t, cmp_le_f, cmp_lt_t, cmp_lt_f, cmp_eq_t, cmp_eq_f, ↓reduceIte, not_true_eq_false, not_false_eq_true, ay_get0_7, ay_get1_7, ay_get2_7_1, ay_get2_7_2, ay_put0_7, ay_ia_7_3, ay_is_7_3, ay_al_7_3, ay_ia_7_4, ay_is_7_4, ay_al_7_4, ay_ia_7_5, ay_is_7_5, ay_al_7_5, ay_ia_7_6, ay_is_7_6, ay_al_7_6, ay_ia_7_7, ay_is_7_7, ay_al_7_7, D_X1_end_0, g1, g2, g3, e1, e2, e3]
theorem c_fulfil_7 {g : SG} {b : BB} (hb : BV b) (hB : XB g b) {law slots but dd : Int} (hd : 0 ≤ dd ∧ dd ≤ 99) {wt : Nat} (hwt : wt < 1024) {s : SS} (hX : XC g 7 b law slots but dd wt s) (hv : RV s) (w : Nat) (hw : w < bN b) (hh : s.1 w ≠ -1 ∧ s.2.2.1 w = 0) : ∃ g', am_cl (d + 2) 12 [.inr (.inr (some (7, 0))), .inl (iI w)] g = some (none, g') ∧ XC g' 7 b law slots but dd (nsub wt (2 ^ w)) (sPay b dd w s) ∧ XF 7 g g' := by
  have h10 := bN_le hb
  have r := bW_rng hb hw
  obtain ⟨n0, n1, n2, n3, n4⟩ := XB_want hB hw
  obtain ⟨hR, x1, x2, x3, x4, x5, x6, x7⟩ := hX
  obtain ⟨p, hp⟩ : ∃ p : Nat, bW b w 0 = (p : Int) := ⟨(bW b w 0).toNat, by omega⟩
  have hp6 : p < 6 := by omega
  have hpn : (bW b w 0).toNat = p := by omega
  rw [hp] at n0
  have m0 := (hR.2 p hp6).1
  have t0 := (hR.2 p hp6).2
  have v4 := hv.2.2.2 p
  have ha := hB.2.2.2.2.1 w (by omega)
  have hab := hb.2.2.2.2.2.2.1 w
  obtain ⟨x, hx⟩ : ∃ x : Nat, b 9 w = (x : Int) := ⟨(b 9 w).toNat, by omega⟩
  have hxn : (b 9 w).toNat = x := by omega
  have hx2 : x < 1024 := by omega
  rw [hx] at ha
  have hla := c_all d g hb hB
  have e1 := ii_and x (2 ^ bN b - 1)
  have hxa : x &&& (2 ^ bN b - 1) < 1024 := Nat.lt_of_le_of_lt Nat.and_le_left hx2
  have hkl := bset_le10 (p := sKept s) h10
  have hhl := bset_le10 (p := sHeld s) h10
  have e2 := ii_sub2 hxa hkl
  have hwg := words_good (s := s) hx2 h10
  have hok := sOk_iff (s := s) hxn (bN b)
  have hnl : nsub (x &&& (2 ^ bN b - 1)) (bset (sKept s) (bN b)) < 1024 := nsub_lt _ hxa
  have e3 := ii_shl w (by omega)
  have e4 := ii_or (bset (sKept s) (bN b)) (2 ^ w)
  have held' : ∀ h : Int, h ≠ 0 → ∀ mn tr, nsub (bset (sHeld s) (bN b)) (2 ^ w) = bset (sHeld (s.1, fu s.2.1 w dd, fu s.2.2.1 w h, mn, tr)) (bN b) := by
    intro h hh mn tr
    refine bset_rm h10 (fun i hi => ?_)
    show decide (s.1 i ≠ -1 ∧ fu s.2.2.1 w h i = 0) = (decide (s.1 i ≠ -1 ∧ s.2.2.1 i = 0) && !decide (i = w))
    by_cases e : i = w
    · have : fu s.2.2.1 w h i = h := by rw [fu_at, if_pos e]
      rw [decide_eq_false (by rw [this]; omega)]
      simp [e]
    · have : fu s.2.2.1 w h i = s.2.2.1 i := by rw [fu_at, if_neg e]
      rw [this]; simp [e]
  cases hM : sMay b w s with
  | true =>
    have es : sPay b dd w s = (s.1, fu s.2.1 w dd, fu s.2.2.1 w 1, fu s.2.2.2.1 p (s.2.2.2.1 p - 1), fu s.2.2.2.2 p (s.2.2.2.2 p + iI (bW b w 4))) := by
      unfold sPay; rw [if_pos hM, hpn]
    have hM2 := hM
    unfold sMay at hM2
    rw [hpn, Bool.and_eq_true, decide_eq_true_eq, hok, ← hwg] at hM2
    have kept' : bset (sKept s) (bN b) ||| 2 ^ w = bset (sKept (sPay b dd w s)) (bN b) := by
      rw [es]
      refine bset_ad hw (fun i hi => ?_)
      show decide (fu s.2.2.1 w 1 i = 1) = (decide (s.2.2.1 i = 1) || decide (i = w))
      by_cases e : i = w
      · have : fu s.2.2.1 w 1 i = 1 := by rw [fu_at, if_pos e]
        rw [this]; simp [e]
      · have : fu s.2.2.1 w 1 i = s.2.2.1 i := by rw [fu_at, if_neg e]
        rw [this]; simp [e]
    have hz : ((nsub (x &&& (2 ^ bN b - 1)) (bset (sKept s) (bN b)) : Nat) : Int) = 0 := by rw [hM2.2]; rfl
    have hpos := hM2.1
    have hend := c_end_7 d (g := wr (wr (wr g 7 4 p (iI (s.2.2.2.1 p - 1))) 7 3 p (s.2.2.2.2 p + iI (bW b w 4))) 7 0 13 (iI (bset (sKept s) (bN b) ||| 2 ^ w : Nat))) (bset (sHeld s) (bN b)) wt w dd 1 hhl hwt (by omega) (by simp [wr_at, x5]) (by simp [wr_at, x6]) (by simp [wr_at, x4])
    rw [am_cl_s _ 12 _ _ _ (by decide) E_X1_fulfil (by rfl)]; simp (disch := omega) only [am_ev_ft, ax_null, ax_iconst, ax_bipush, ax_sipush, ax_ldc, ax_ldc_w, ax_ldc2_w, am_lq_i, am_lq_l, am_lq_r, ax_iload, ax_lload, ax_aload, ax_iload_0, ax_iload_1, ax_iload_2, ax_iload_3, ax_lload_0, ax_lload_1, ax_lload_2, ax_lload_3, ax_aload_0, ax_aload_1, ax_aload_2, ax_aload_3, am_sq_t, ax_istore, ax_istore_0, ax_istore_1, ax_istore_2, ax_istore_3, ax_astore, ax_astore_1, ax_astore_2, ax_astore_3, ax_lstore, ax_lstore_1, ax_lstore_3, am_iq_i, ax_iinc, ax_iadd, ax_isub, ax_imul, ax_iand, ax_ior, ax_ixor, ax_ishl, ax_ishr, ax_iushr, ax_ineg, ax_i2b, ax_i2s, ax_i2l, ax_ladd, ax_lmul, ax_lcmp, ax_dup_i, ax_dup_r, ax_dup2, ax_pop_i, ax_pop_r, ax_ic_eq, ax_ic_ne, ax_ic_lt, ax_ic_ge, ax_ic_gt, ax_ic_le, ax_goto, ax_ifnull_n, ax_ifnull_s, ax_ifnonnull_n, ax_ifnonnull_s, ax_gets, ax_iret, ax_lret, ax_aret, ax_vret, am_cq_i, am_cq_v, ay_if_eq, ay_if_ne, ay_if_lt, ay_if_ge, ay_if_gt, ay_if_le, ay_irem, ay_idiv, ay_zret0, ay_zret1, ay_zretb, ay_v1_0, ay_v1_1, ay_v1_2, ay_v1_3, ay_v1_4, ay_v2_0, ay_v2_1, ay_v2_2, ay_v2_3, ay_v2_4, ay_v3_0, ay_v3_1, ay_v3_2, ay_v3_3, ay_v3_4, ay_v4_0, ay_v4_1, ay_v4_2, ay_v4_3, ay_v4_4, ay_v5_0, ay_v5_1, ay_v5_2, ay_v5_3, ay_v5_4, ay_v6_0, ay_v6_1, ay_v6_2, ay_v6_3, ay_v6_4, ay_c1_0, ay_c1_1, ay_c1_2, ay_c1_3, ay_c1_4, ay_c2_0, ay_c2_1, ay_c2_2, ay_c2_3, ay_c2_4, ay_c3_0, ay_c3_1, ay_c3_2, ay_c3_3, ay_c3_4, ay_c5_0, ay_c5_1, ay_c5_2, ay_c5_3, ay_c5_4, am_en, fl_n, fl_i, fl_l, fl_r, List.cons_append, List.nil_append, List.append_nil, List.reduceReplicate, List.length_cons, List.length_nil, Nat.reduceAdd, Nat.reduceSub, Nat.reduceLT, Nat.reduceLeDiff, Nat.zero_le, Nat.le_refl, List.getElem?_cons_zero, List.getElem?_cons_succ, List.getElem?_nil, List.set_cons_zero, List.set_cons_succ, ii_of, J_b, J_s, J_c, K_l, nl_all, nk_n, nk_sn, nk_i, nk_r, decide_true, Bool.true_and, Bool.and_true, Bool.and_self, Int.toNat_natCast, Int.reduceToNat, Int.reduceAdd, Int.reduceSub, Int.reduceMul, Int.reduceNeg, Int.reduceEq, Int.reduceLT, Int.reduceLE, ii_div8, i0_b2id, i1_b2id, bt_i, bf_i, decide_false, ii_add, ii_sub, ii_mul, ii_neg, ii_lt, ii_le, ii_eq, ii_toInt, ii_clamp, ite_true, ite_false, if_true, if_false, true_and, and_true, and_self, and_false, false_and, wr_at, eq_self, Nat.reduceEqDiff, cm_max, cm_min, cm_abs, cmp_le_t, cmp_le_f, cmp_lt_t, cmp_lt_f, cmp_eq_t, cmp_eq_f, ↓reduceIte, not_true_eq_false, not_false_eq_true, ay_get0_1, ay_get1_1, ay_put0_1, ay_get0_2, ay_get1_2, ay_get2_2_4, ay_put0_2, ay_get0_7, ay_get1_7, ay_get2_7_1, ay_get2_7_2, ay_put0_7, ay_ia_1_1, ay_is_1_1, ay_al_1_1, ay_ia_1_2, ay_is_1_2, ay_al_1_2, ay_ia_1_3, ay_is_1_3, ay_al_1_3, ay_ia_1_4, ay_is_1_4, ay_al_1_4, ay_ia_1_5, ay_is_1_5, ay_al_1_5, ay_ia_1_6, ay_is_1_6, ay_al_1_6, ay_ia_2_3, ay_is_2_3, ay_al_2_3, ay_ia_2_4, ay_is_2_4, ay_al_2_4, ay_ia_2_5, ay_is_2_5, ay_al_2_5, ay_ia_7_3, ay_is_7_3, ay_al_7_3, ay_ia_7_4, ay_is_7_4, ay_al_7_4, ay_ia_7_5, ay_is_7_5, ay_al_7_5, ay_ia_7_6, ay_is_7_6, ay_al_7_6, ay_ia_7_7, ay_is_7_7, ay_al_7_7, D_X1_fulfil_0, D_X1_fulfil_1, n0, n4, m0, t0, ha, hla, x7, e1, e2, e3, e4, c_isNumber, c_isPerson, hend]
    refine ⟨_, rfl, ⟨?_, ?_, ?_, ?_, ?_, ?_, ?_, ?_⟩, ?_⟩
    · rw [es]
      refine ⟨fun w' hw' => ?_, fun p' hp' => ?_⟩
      · have := hR.1 w' hw'
        simp only [wr_at, fu_at]
        by_cases e : w' = w
        · simp [e]; rw [← e]; exact this.1
        · simp [e, this]
      · have := hR.2 p' hp'
        simp only [wr_at, fu_at]
        by_cases e : p' = p
        · simp [e]
        · simp [e, this]
    · simp [wr_at, x1]
    · simp [wr_at, x2]
    · simp [wr_at, x3]
    · simp [wr_at, x4]
    · rw [held' 1 (by omega) (fu s.2.2.2.1 p (s.2.2.2.1 p - 1)) (fu s.2.2.2.2 p (s.2.2.2.2 p + iI (bW b w 4))), es]
      simp [wr_at]
    · simp [wr_at]
    · rw [← kept']; simp [wr_at]
    · exact (((((((XF.rf 7 g).wr _ _ _).wr _ _ _).wr _ _ _).wr _ _ _).wr _ _ _).wr _ _ _).wr _ _ _
  | false =>
    have es : sPay b dd w s = (s.1, fu s.2.1 w dd, fu s.2.2.1 w 2, s.2.2.2.1, fu s.2.2.2.2 p (s.2.2.2.2 p + iI (-bW b w 4))) := by
      unfold sPay; rw [if_neg (by rw [hM]; decide), hpn]
    have esub : s.2.2.2.2 p - iI (bW b w 4) = s.2.2.2.2 p + iI (-bW b w 4) := by rw [← ii_neg, Int32.sub_eq_add_neg]
    have hM2 : ¬ (0 < s.2.2.2.1 p ∧ nsub (x &&& (2 ^ bN b - 1)) (bset (sKept s) (bN b)) = 0) := by
      intro z
      have : sMay b w s = true := by
        unfold sMay
        rw [hpn, Bool.and_eq_true, decide_eq_true_eq, hok, ← hwg]
        exact z
      rw [hM] at this; cases this
    have kept' : bset (sKept s) (bN b) = bset (sKept (sPay b dd w s)) (bN b) := by
      rw [es]
      refine bset_ext (fun i hi => ?_)
      show decide (s.2.2.1 i = 1) = decide (fu s.2.2.1 w 2 i = 1)
      by_cases e : i = w
      · have h1 : fu s.2.2.1 w 2 i = 2 := by rw [fu_at, if_pos e]
        rw [h1, e, hh.2]; rfl
      · have h1 : fu s.2.2.1 w 2 i = s.2.2.1 i := by rw [fu_at, if_neg e]
        rw [h1]
    have hend := c_end_7 d (g := wr g 7 3 p (s.2.2.2.2 p + iI (-bW b w 4))) (bset (sHeld s) (bN b)) wt w dd 2 hhl hwt (by omega) (by simp [wr_at, x5]) (by simp [wr_at, x6]) (by simp [wr_at, x4])
    have hgo : am_cl (d + 2) 12 [.inr (.inr (some (7, 0))), .inl (iI w)] g = some (none, wr (wr (wr (wr (wr g 7 3 p (s.2.2.2.2 p + iI (-bW b w 4))) 7 0 11 (iI (nsub (bset (sHeld s) (bN b)) (2 ^ w) : Nat))) 7 0 12 (iI (nsub wt (2 ^ w) : Nat))) 7 6 w (iI dd)) 7 7 w (iI 2)) := by
      by_cases c1 : nsub (x &&& (2 ^ bN b - 1)) (bset (sKept s) (bN b)) = 0
      · have c2 : ¬ 0 < s.2.2.2.1 p := fun z => hM2 ⟨z, c1⟩
        have hz : ((nsub (x &&& (2 ^ bN b - 1)) (bset (sKept s) (bN b)) : Nat) : Int) = 0 := by rw [c1]; rfl
        rw [am_cl_s _ 12 _ _ _ (by decide) E_X1_fulfil (by rfl)]; simp (disch := omega) only [am_ev_ft, ax_null, ax_iconst, ax_bipush, ax_sipush, ax_ldc, ax_ldc_w, ax_ldc2_w, am_lq_i, am_lq_l, am_lq_r, ax_iload, ax_lload, ax_aload, ax_iload_0, ax_iload_1, ax_iload_2, ax_iload_3, ax_lload_0, ax_lload_1, ax_lload_2, ax_lload_3, ax_aload_0, ax_aload_1, ax_aload_2, ax_aload_3, am_sq_t, ax_istore, ax_istore_0, ax_istore_1, ax_istore_2, ax_istore_3, ax_astore, ax_astore_1, ax_astore_2, ax_astore_3, ax_lstore, ax_lstore_1, ax_lstore_3, am_iq_i, ax_iinc, ax_iadd, ax_isub, ax_imul, ax_iand, ax_ior, ax_ixor, ax_ishl, ax_ishr, ax_iushr, ax_ineg, ax_i2b, ax_i2s, ax_i2l, ax_ladd, ax_lmul, ax_lcmp, ax_dup_i, ax_dup_r, ax_dup2, ax_pop_i, ax_pop_r, ax_ic_eq, ax_ic_ne, ax_ic_lt, ax_ic_ge, ax_ic_gt, ax_ic_le, ax_goto, ax_ifnull_n, ax_ifnull_s, ax_ifnonnull_n, ax_ifnonnull_s, ax_gets, ax_iret, ax_lret, ax_aret, ax_vret, am_cq_i, am_cq_v, ay_if_eq, ay_if_ne, ay_if_lt, ay_if_ge, ay_if_gt, ay_if_le, ay_irem, ay_idiv, ay_zret0, ay_zret1, ay_zretb, ay_v1_0, ay_v1_1, ay_v1_2, ay_v1_3, ay_v1_4, ay_v2_0, ay_v2_1, ay_v2_2, ay_v2_3, ay_v2_4, ay_v3_0, ay_v3_1, ay_v3_2, ay_v3_3, ay_v3_4, ay_v4_0, ay_v4_1, ay_v4_2, ay_v4_3, ay_v4_4, ay_v5_0, ay_v5_1, ay_v5_2, ay_v5_3, ay_v5_4, ay_v6_0, ay_v6_1, ay_v6_2, ay_v6_3, ay_v6_4, ay_c1_0, ay_c1_1, ay_c1_2, ay_c1_3, ay_c1_4, ay_c2_0, ay_c2_1, ay_c2_2, ay_c2_3, ay_c2_4, ay_c3_0, ay_c3_1, ay_c3_2, ay_c3_3, ay_c3_4, ay_c5_0, ay_c5_1, ay_c5_2, ay_c5_3, ay_c5_4, am_en, fl_n, fl_i, fl_l, fl_r, List.cons_append, List.nil_append, List.append_nil, List.reduceReplicate, List.length_cons, List.length_nil, Nat.reduceAdd, Nat.reduceSub, Nat.reduceLT, Nat.reduceLeDiff, Nat.zero_le, Nat.le_refl, List.getElem?_cons_zero, List.getElem?_cons_succ, List.getElem?_nil, List.set_cons_zero, List.set_cons_succ, ii_of, J_b, J_s, J_c, K_l, nl_all, nk_n, nk_sn, nk_i, nk_r, decide_true, Bool.true_and, Bool.and_true, Bool.and_self, Int.toNat_natCast, Int.reduceToNat, Int.reduceAdd, Int.reduceSub, Int.reduceMul, Int.reduceNeg, Int.reduceEq, Int.reduceLT, Int.reduceLE, ii_div8, i0_b2id, i1_b2id, bt_i, bf_i, decide_false, ii_add, ii_sub, ii_mul, ii_neg, ii_lt, ii_le, ii_eq, ii_toInt, ii_clamp, ite_true, ite_false, if_true, if_false, true_and, and_true, and_self, and_false, false_and, wr_at, eq_self, Nat.reduceEqDiff, cm_max, cm_min, cm_abs, cmp_le_t, cmp_le_f, cmp_lt_t, cmp_lt_f, cmp_eq_t, cmp_eq_f, ↓reduceIte, not_true_eq_false, not_false_eq_true, ay_get0_1, ay_get1_1, ay_put0_1, ay_get0_2, ay_get1_2, ay_get2_2_4, ay_put0_2, ay_get0_7, ay_get1_7, ay_get2_7_1, ay_get2_7_2, ay_put0_7, ay_ia_1_1, ay_is_1_1, ay_al_1_1, ay_ia_1_2, ay_is_1_2, ay_al_1_2, ay_ia_1_3, ay_is_1_3, ay_al_1_3, ay_ia_1_4, ay_is_1_4, ay_al_1_4, ay_ia_1_5, ay_is_1_5, ay_al_1_5, ay_ia_1_6, ay_is_1_6, ay_al_1_6, ay_ia_2_3, ay_is_2_3, ay_al_2_3, ay_ia_2_4, ay_is_2_4, ay_al_2_4, ay_ia_2_5, ay_is_2_5, ay_al_2_5, ay_ia_7_3, ay_is_7_3, ay_al_7_3, ay_ia_7_4, ay_is_7_4, ay_al_7_4, ay_ia_7_5, ay_is_7_5, ay_al_7_5, ay_ia_7_6, ay_is_7_6, ay_al_7_6, ay_ia_7_7, ay_is_7_7, ay_al_7_7, D_X1_fulfil_0, D_X1_fulfil_1, n0, n4, m0, t0, ha, hla, x7, e1, e2, e3, e4, c_isNumber, c_isPerson, esub, hend]
      · have hz : ¬ ((nsub (x &&& (2 ^ bN b - 1)) (bset (sKept s) (bN b)) : Nat) : Int) = 0 := by omega
        by_cases c2 : 0 < s.2.2.2.1 p
        · rw [am_cl_s _ 12 _ _ _ (by decide) E_X1_fulfil (by rfl)]; simp (disch := omega) only [am_ev_ft, ax_null, ax_iconst, ax_bipush, ax_sipush, ax_ldc, ax_ldc_w, ax_ldc2_w, am_lq_i, am_lq_l, am_lq_r, ax_iload, ax_lload, ax_aload, ax_iload_0, ax_iload_1, ax_iload_2, ax_iload_3, ax_lload_0, ax_lload_1, ax_lload_2, ax_lload_3, ax_aload_0, ax_aload_1, ax_aload_2, ax_aload_3, am_sq_t, ax_istore, ax_istore_0, ax_istore_1, ax_istore_2, ax_istore_3, ax_astore, ax_astore_1, ax_astore_2, ax_astore_3, ax_lstore, ax_lstore_1, ax_lstore_3, am_iq_i, ax_iinc, ax_iadd, ax_isub, ax_imul, ax_iand, ax_ior, ax_ixor, ax_ishl, ax_ishr, ax_iushr, ax_ineg, ax_i2b, ax_i2s, ax_i2l, ax_ladd, ax_lmul, ax_lcmp, ax_dup_i, ax_dup_r, ax_dup2, ax_pop_i, ax_pop_r, ax_ic_eq, ax_ic_ne, ax_ic_lt, ax_ic_ge, ax_ic_gt, ax_ic_le, ax_goto, ax_ifnull_n, ax_ifnull_s, ax_ifnonnull_n, ax_ifnonnull_s, ax_gets, ax_iret, ax_lret, ax_aret, ax_vret, am_cq_i, am_cq_v, ay_if_eq, ay_if_ne, ay_if_lt, ay_if_ge, ay_if_gt, ay_if_le, ay_irem, ay_idiv, ay_zret0, ay_zret1, ay_zretb, ay_v1_0, ay_v1_1, ay_v1_2, ay_v1_3, ay_v1_4, ay_v2_0, ay_v2_1, ay_v2_2, ay_v2_3, ay_v2_4, ay_v3_0, ay_v3_1, ay_v3_2, ay_v3_3, ay_v3_4, ay_v4_0, ay_v4_1, ay_v4_2, ay_v4_3, ay_v4_4, ay_v5_0, ay_v5_1, ay_v5_2, ay_v5_3, ay_v5_4, ay_v6_0, ay_v6_1, ay_v6_2, ay_v6_3, ay_v6_4, ay_c1_0, ay_c1_1, ay_c1_2, ay_c1_3, ay_c1_4, ay_c2_0, ay_c2_1, ay_c2_2, ay_c2_3, ay_c2_4, ay_c3_0, ay_c3_1, ay_c3_2, ay_c3_3, ay_c3_4, ay_c5_0, ay_c5_1, ay_c5_2, ay_c5_3, ay_c5_4, am_en, fl_n, fl_i, fl_l, fl_r, List.cons_append, List.nil_append, List.append_nil, List.reduceReplicate, List.length_cons, List.length_nil, Nat.reduceAdd, Nat.reduceSub, Nat.reduceLT, Nat.reduceLeDiff, Nat.zero_le, Nat.le_refl, List.getElem?_cons_zero, List.getElem?_cons_succ, List.getElem?_nil, List.set_cons_zero, List.set_cons_succ, ii_of, J_b, J_s, J_c, K_l, nl_all, nk_n, nk_sn, nk_i, nk_r, decide_true, Bool.true_and, Bool.and_true, Bool.and_self, Int.toNat_natCast, Int.reduceToNat, Int.reduceAdd, Int.reduceSub, Int.reduceMul, Int.reduceNeg, Int.reduceEq, Int.reduceLT, Int.reduceLE, ii_div8, i0_b2id, i1_b2id, bt_i, bf_i, decide_false, ii_add, ii_sub, ii_mul, ii_neg, ii_lt, ii_le, ii_eq, ii_toInt, ii_clamp, ite_true, ite_false, if_true, if_false, true_and, and_true, and_self, and_false, false_and, wr_at, eq_self, Nat.reduceEqDiff, cm_max, cm_min, cm_abs, cmp_le_t, cmp_le_f, cmp_lt_t, cmp_lt_f, cmp_eq_t, cmp_eq_f, ↓reduceIte, not_true_eq_false, not_false_eq_true, ay_get0_1, ay_get1_1, ay_put0_1, ay_get0_2, ay_get1_2, ay_get2_2_4, ay_put0_2, ay_get0_7, ay_get1_7, ay_get2_7_1, ay_get2_7_2, ay_put0_7, ay_ia_1_1, ay_is_1_1, ay_al_1_1, ay_ia_1_2, ay_is_1_2, ay_al_1_2, ay_ia_1_3, ay_is_1_3, ay_al_1_3, ay_ia_1_4, ay_is_1_4, ay_al_1_4, ay_ia_1_5, ay_is_1_5, ay_al_1_5, ay_ia_1_6, ay_is_1_6, ay_al_1_6, ay_ia_2_3, ay_is_2_3, ay_al_2_3, ay_ia_2_4, ay_is_2_4, ay_al_2_4, ay_ia_2_5, ay_is_2_5, ay_al_2_5, ay_ia_7_3, ay_is_7_3, ay_al_7_3, ay_ia_7_4, ay_is_7_4, ay_al_7_4, ay_ia_7_5, ay_is_7_5, ay_al_7_5, ay_ia_7_6, ay_is_7_6, ay_al_7_6, ay_ia_7_7, ay_is_7_7, ay_al_7_7, D_X1_fulfil_0, D_X1_fulfil_1, n0, n4, m0, t0, ha, hla, x7, e1, e2, e3, e4, c_isNumber, c_isPerson, esub, hend]
        · rw [am_cl_s _ 12 _ _ _ (by decide) E_X1_fulfil (by rfl)]; simp (disch := omega) only [am_ev_ft, ax_null, ax_iconst, ax_bipush, ax_sipush, ax_ldc, ax_ldc_w, ax_ldc2_w, am_lq_i, am_lq_l, am_lq_r, ax_iload, ax_lload, ax_aload, ax_iload_0, ax_iload_1, ax_iload_2, ax_iload_3, ax_lload_0, ax_lload_1, ax_lload_2, ax_lload_3, ax_aload_0, ax_aload_1, ax_aload_2, ax_aload_3, am_sq_t, ax_istore, ax_istore_0, ax_istore_1, ax_istore_2, ax_istore_3, ax_astore, ax_astore_1, ax_astore_2, ax_astore_3, ax_lstore, ax_lstore_1, ax_lstore_3, am_iq_i, ax_iinc, ax_iadd, ax_isub, ax_imul, ax_iand, ax_ior, ax_ixor, ax_ishl, ax_ishr, ax_iushr, ax_ineg, ax_i2b, ax_i2s, ax_i2l, ax_ladd, ax_lmul, ax_lcmp, ax_dup_i, ax_dup_r, ax_dup2, ax_pop_i, ax_pop_r, ax_ic_eq, ax_ic_ne, ax_ic_lt, ax_ic_ge, ax_ic_gt, ax_ic_le, ax_goto, ax_ifnull_n, ax_ifnull_s, ax_ifnonnull_n, ax_ifnonnull_s, ax_gets, ax_iret, ax_lret, ax_aret, ax_vret, am_cq_i, am_cq_v, ay_if_eq, ay_if_ne, ay_if_lt, ay_if_ge, ay_if_gt, ay_if_le, ay_irem, ay_idiv, ay_zret0, ay_zret1, ay_zretb, ay_v1_0, ay_v1_1, ay_v1_2, ay_v1_3, ay_v1_4, ay_v2_0, ay_v2_1, ay_v2_2, ay_v2_3, ay_v2_4, ay_v3_0, ay_v3_1, ay_v3_2, ay_v3_3, ay_v3_4, ay_v4_0, ay_v4_1, ay_v4_2, ay_v4_3, ay_v4_4, ay_v5_0, ay_v5_1, ay_v5_2, ay_v5_3, ay_v5_4, ay_v6_0, ay_v6_1, ay_v6_2, ay_v6_3, ay_v6_4, ay_c1_0, ay_c1_1, ay_c1_2, ay_c1_3, ay_c1_4, ay_c2_0, ay_c2_1, ay_c2_2, ay_c2_3, ay_c2_4, ay_c3_0, ay_c3_1, ay_c3_2, ay_c3_3, ay_c3_4, ay_c5_0, ay_c5_1, ay_c5_2, ay_c5_3, ay_c5_4, am_en, fl_n, fl_i, fl_l, fl_r, List.cons_append, List.nil_append, List.append_nil, List.reduceReplicate, List.length_cons, List.length_nil, Nat.reduceAdd, Nat.reduceSub, Nat.reduceLT, Nat.reduceLeDiff, Nat.zero_le, Nat.le_refl, List.getElem?_cons_zero, List.getElem?_cons_succ, List.getElem?_nil, List.set_cons_zero, List.set_cons_succ, ii_of, J_b, J_s, J_c, K_l, nl_all, nk_n, nk_sn, nk_i, nk_r, decide_true, Bool.true_and, Bool.and_true, Bool.and_self, Int.toNat_natCast, Int.reduceToNat, Int.reduceAdd, Int.reduceSub, Int.reduceMul, Int.reduceNeg, Int.reduceEq, Int.reduceLT, Int.reduceLE, ii_div8, i0_b2id, i1_b2id, bt_i, bf_i, decide_false, ii_add, ii_sub, ii_mul, ii_neg, ii_lt, ii_le, ii_eq, ii_toInt, ii_clamp, ite_true, ite_false, if_true, if_false, true_and, and_true, and_self, and_false, false_and, wr_at, eq_self, Nat.reduceEqDiff, cm_max, cm_min, cm_abs, cmp_le_t, cmp_le_f, cmp_lt_t, cmp_lt_f, cmp_eq_t, cmp_eq_f, ↓reduceIte, not_true_eq_false, not_false_eq_true, ay_get0_1, ay_get1_1, ay_put0_1, ay_get0_2, ay_get1_2, ay_get2_2_4, ay_put0_2, ay_get0_7, ay_get1_7, ay_get2_7_1, ay_get2_7_2, ay_put0_7, ay_ia_1_1, ay_is_1_1, ay_al_1_1, ay_ia_1_2, ay_is_1_2, ay_al_1_2, ay_ia_1_3, ay_is_1_3, ay_al_1_3, ay_ia_1_4, ay_is_1_4, ay_al_1_4, ay_ia_1_5, ay_is_1_5, ay_al_1_5, ay_ia_1_6, ay_is_1_6, ay_al_1_6, ay_ia_2_3, ay_is_2_3, ay_al_2_3, ay_ia_2_4, ay_is_2_4, ay_al_2_4, ay_ia_2_5, ay_is_2_5, ay_al_2_5, ay_ia_7_3, ay_is_7_3, ay_al_7_3, ay_ia_7_4, ay_is_7_4, ay_al_7_4, ay_ia_7_5, ay_is_7_5, ay_al_7_5, ay_ia_7_6, ay_is_7_6, ay_al_7_6, ay_ia_7_7, ay_is_7_7, ay_al_7_7, D_X1_fulfil_0, D_X1_fulfil_1, n0, n4, m0, t0, ha, hla, x7, e1, e2, e3, e4, c_isNumber, c_isPerson, esub, hend]
    rw [hgo]
    refine ⟨_, rfl, ⟨?_, ?_, ?_, ?_, ?_, ?_, ?_, ?_⟩, ?_⟩
    · rw [es]
      refine ⟨fun w' hw' => ?_, fun p' hp' => ?_⟩
      · have := hR.1 w' hw'
        simp only [wr_at, fu_at]
        by_cases e : w' = w
        · simp [e]; rw [← e]; exact this.1
        · simp [e, this]
      · have := hR.2 p' hp'
        simp only [wr_at, fu_at]
        by_cases e : p' = p
        · simp [e]; exact m0
        · simp [e, this]
    · simp [wr_at, x1]
    · simp [wr_at, x2]
    · simp [wr_at, x3]
    · simp [wr_at, x4]
    · rw [held' 2 (by omega) s.2.2.2.1 (fu s.2.2.2.2 p (s.2.2.2.2 p + iI (-bW b w 4))), es]
      simp [wr_at]
    · simp [wr_at]
    · rw [← kept']; simp [wr_at, x7]
    · exact (((((XF.rf 7 g).wr _ _ _).wr _ _ _).wr _ _ _).wr _ _ _).wr _ _ _
end
