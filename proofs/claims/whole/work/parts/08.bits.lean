/-! ===== sets as bits ===== -/
theorem iN (n : Nat) : iI (n : Int) = nI n := by unfold iI nI; rw [Int32.ofInt_eq_ofNat]
theorem ii_and (a b : Nat) : iI (a : Int) &&& iI (b : Int) = iI ((a &&& b : Nat) : Int) := by
  rw [iN, iN, iN]
  apply Int32.toBitVec_inj.1
  show BitVec.ofNat 32 a &&& BitVec.ofNat 32 b = BitVec.ofNat 32 (a &&& b)
  apply BitVec.eq_of_getLsbD_eq
  intro i hi
  simp [hi]
theorem ii_or (a b : Nat) : iI (a : Int) ||| iI (b : Int) = iI ((a ||| b : Nat) : Int) := by
  rw [iN, iN, iN]
  apply Int32.toBitVec_inj.1
  show BitVec.ofNat 32 a ||| BitVec.ofNat 32 b = BitVec.ofNat 32 (a ||| b)
  apply BitVec.eq_of_getLsbD_eq
  intro i hi
  simp [hi]
/-- what of x is not in y -/
def nsub (x y : Nat) : Nat := x &&& (1023 ^^^ y)
theorem ii_sub2 {x y : Nat} (hx : x < 1024) (hy : y < 1024) : iI (x : Int) &&& (iI (y : Int) ^^^ iI (-1)) = iI ((nsub x y : Nat) : Int) := by
  rw [iN, iN, iN]
  apply Int32.toBitVec_inj.1
  show BitVec.ofNat 32 x &&& (BitVec.ofNat 32 y ^^^ (iI (-1)).toBitVec) = BitVec.ofNat 32 (x &&& (1023 ^^^ y))
  have e : (iI (-1)).toBitVec = BitVec.allOnes 32 := by decide
  rw [e]
  apply BitVec.eq_of_getLsbD_eq
  intro i hi
  have e2 : Nat.testBit 1023 i = decide (i < 10) := by
    have : (1023 : Nat) = 2 ^ 10 - 1 := rfl
    rw [this, Nat.testBit_two_pow_sub_one]
  simp only [BitVec.getLsbD_and, BitVec.getLsbD_xor, BitVec.getLsbD_ofNat, BitVec.getLsbD_allOnes, hi, decide_true, Bool.true_and, Nat.testBit_and, Nat.testBit_xor, e2]
  by_cases h10 : i < 10
  · simp [h10]
  · have hx2 : x.testBit i = false := Nat.testBit_lt_two_pow (Nat.lt_of_lt_of_le hx (show 2 ^ 10 ≤ 2 ^ i from Nat.pow_le_pow_right (by decide) (by omega)))
    simp [hx2]
theorem ii_shl : ∀ w : Nat, w < 31 → iI 1 <<< (iI (w : Int) &&& 31) = iI ((2 ^ w : Nat) : Int) := by
  have h : ∀ w : Fin 31, iI 1 <<< (nI w.val &&& 31) = nI (2 ^ w.val) := by decide +kernel
  intro w hw
  rw [iN, iN]
  exact h ⟨w, hw⟩
theorem ii_bit {x w : Nat} (hx : x < 2147483648) (hw : w < 31) : iI (x : Int) >>> (iI (w : Int) &&& 31) &&& iI 1 = b2i (x.testBit w) := by
  rw [iN, iN]
  have hs : ∀ n, n < 32 → ((nI n &&& 31).toBitVec.smod 32).toNat = n := by decide +kernel
  rw [pk_shrN hx (nI w &&& 31) w (hs w (by omega))]
  have e : iI 1 = nI 1 := rfl
  rw [e]
  have e2 : nI (x / 2 ^ w) &&& nI 1 = nI (x / 2 ^ w % 2) := by
    have := pk_andN (n := x / 2 ^ w) (by have := Nat.div_le_self x (2 ^ w); omega) (m := nI 1) 1 (by decide)
    simpa using this
  rw [e2]
  have h3 : x.testBit w = decide (x / 2 ^ w % 2 = 1) := Nat.testBit_eq_decide_div_mod_eq
  rw [h3]
  rcases (show x / 2 ^ w % 2 = 0 ∨ x / 2 ^ w % 2 = 1 by omega) with h | h <;> rw [h] <;> rfl
def pcn (x : Nat) : Nat → Nat
  | 0 => 0
  | m + 1 => pcn x m + (if x.testBit m then 1 else 0)
def pc (x : Nat) : Nat := pcn x 10
theorem pcn_le (x : Nat) : ∀ m, pcn x m ≤ m
  | 0 => Nat.le_refl 0
  | m + 1 => by
    have := pcn_le x m
    unfold pcn
    split <;> omega
theorem pc_le (x : Nat) : pc x ≤ 10 := pcn_le x 10
def bsh (x s : Int32) : Int32 := (x.toUInt32 >>> (s.toUInt32 &&& Int32.toUInt32 31)).toInt32
def bcf (i0 : Int32) : Int32 :=
  let i1 := i0 - (bsh i0 (iI 1) &&& iI 1431655765)
  let i2 := (i1 &&& iI 858993459) + (bsh i1 (iI 2) &&& iI 858993459)
  let i3 := (i2 + bsh i2 (iI 4)) &&& iI 252645135
  let i4 := i3 + bsh i3 (iI 8)
  let i5 := i4 + bsh i4 (iI 16)
  i5 &&& iI 63
theorem bcf_all : ∀ x : Fin 1024, bcf (nI x.val) = nI (pc x.val) := by decide +kernel
theorem bcf_ok (x : Nat) (hx : x < 1024) : bcf (iI x) = iI (pc x) := by
  rw [iN, iN]
  exact bcf_all ⟨x, hx⟩
section
variable (d : Nat) (g : SG)
theorem c_hasBit {x w : Nat} (hx : x < 2147483648) (hw : w < 31) : am_cl (d + 1) 104 [.inl (iI x), .inl (iI w)] g = some (some (.inl (b2i (x.testBit w))), g) := by
  rw [am_cl_s _ 104 _ _ _ (by decide) E_X5_hasBit (by rfl)]; simp (disch := omega) only [am_ev_ft, ax_null, ax_iconst, ax_bipush, ax_sipush, ax_ldc, ax_ldc_w, ax_ldc2_w, am_lq_i, am_lq_l, am_lq_r, ax_iload, ax_lload, ax_aload, ax_iload_0, ax_iload_1, ax_iload_2, ax_iload_3, ax_lload_0, ax_lload_1, ax_lload_2, ax_lload_3, ax_aload_0, ax_aload_1, ax_aload_2, ax_aload_3, am_sq_t, ax_istore, ax_istore_0, ax_istore_1, ax_istore_2, ax_istore_3, ax_astore, ax_astore_1, ax_astore_2, ax_astore_3, ax_lstore, ax_lstore_1, ax_lstore_3, am_iq_i, ax_iinc, ax_iadd, ax_isub, ax_imul, ax_iand, ax_ior, ax_ixor, ax_ishl, ax_ishr, ax_iushr, ax_ineg, ax_i2b, ax_i2s, ax_i2l, ax_ladd, ax_lmul, ax_lcmp, ax_dup_i, ax_dup_r, ax_dup2, ax_pop_i, ax_pop_r, ax_ic_eq, ax_ic_ne, ax_ic_lt, ax_ic_ge, ax_ic_gt, ax_ic_le, ax_goto, ax_ifnull_n, ax_ifnull_s, ax_ifnonnull_n, ax_ifnonnull_s, ax_gets, ax_iret, ax_lret, ax_aret, ax_vret, am_cq_i, am_cq_v, ay_if_eq, ay_if_ne, ay_if_lt, ay_if_ge, ay_if_gt, ay_if_le, ay_irem, ay_idiv, ay_zret0, ay_zret1, ay_zretb, ay_v1_0, ay_v1_1, ay_v1_2, ay_v1_3, ay_v1_4, ay_v2_0, ay_v2_1, ay_v2_2, ay_v2_3, ay_v2_4, ay_v3_0, ay_v3_1, ay_v3_2, ay_v3_3, ay_v3_4, ay_v4_0, ay_v4_1, ay_v4_2, ay_v4_3, ay_v4_4, ay_v5_0, ay_v5_1, ay_v5_2, ay_v5_3, ay_v5_4, ay_v6_0, ay_v6_1, ay_v6_2, ay_v6_3, ay_v6_4, ay_c1_0, ay_c1_1, ay_c1_2, ay_c1_3, ay_c1_4, ay_c2_0, ay_c2_1, ay_c2_2, ay_c2_3, ay_c2_4, ay_c3_0, ay_c3_1, ay_c3_2, ay_c3_3, ay_c3_4, ay_c5_0, ay_c5_1, ay_c5_2, ay_c5_3, ay_c5_4, am_en, fl_n, fl_i, fl_l, fl_r, List.cons_append, List.nil_append, List.append_nil, List.reduceReplicate, List.length_cons, List.length_nil, Nat.reduceAdd, Nat.reduceSub, Nat.reduceLT, Nat.reduceLeDiff, Nat.zero_le, Nat.le_refl, List.getElem?_cons_zero, List.getElem?_cons_succ, List.getElem?_nil, List.set_cons_zero, List.set_cons_succ, ii_of, J_b, J_s, J_c, K_l, nl_all, nk_n, nk_sn, nk_i, nk_r, decide_true, Bool.true_and, Bool.and_true, Bool.and_self, Int.toNat_natCast, Int.reduceToNat, Int.reduceAdd, Int.reduceSub, Int.reduceMul, Int.reduceNeg, Int.reduceEq, Int.reduceLT, Int.reduceLE, ii_div8, i0_b2id, i1_b2id, bt_i, bf_i, decide_false, ii_add, ii_sub, ii_mul, ii_neg, ii_lt, ii_le, ii_eq, ii_toInt, ii_clamp, ite_true, ite_false, if_true, if_false, true_and, and_true, and_self, and_false, false_and, wr_at, eq_self, Nat.reduceEqDiff, cm_max, cm_min, cm_abs, cmp_le_t, cmp_le_f, cmp_lt_t, cmp_lt_f, cmp_eq_t, cmp_eq_f, ↓reduceIte, not_true_eq_false, not_false_eq_true, D_X5_hasBit_0, ii_bit, i1_b2i]
  cases x.testBit w <;> rfl
theorem c_isIn {x w : Nat} (hx : x < 2147483648) (hw : w < 31) : am_cl (d + 1) 106 [.inl (iI x), .inl (iI w)] g = some (some (.inl (b2i (x.testBit w))), g) := by
  rw [am_cl_s _ 106 _ _ _ (by decide) E_X6_isIn (by rfl)]; simp (disch := omega) only [am_ev_ft, ax_null, ax_iconst, ax_bipush, ax_sipush, ax_ldc, ax_ldc_w, ax_ldc2_w, am_lq_i, am_lq_l, am_lq_r, ax_iload, ax_lload, ax_aload, ax_iload_0, ax_iload_1, ax_iload_2, ax_iload_3, ax_lload_0, ax_lload_1, ax_lload_2, ax_lload_3, ax_aload_0, ax_aload_1, ax_aload_2, ax_aload_3, am_sq_t, ax_istore, ax_istore_0, ax_istore_1, ax_istore_2, ax_istore_3, ax_astore, ax_astore_1, ax_astore_2, ax_astore_3, ax_lstore, ax_lstore_1, ax_lstore_3, am_iq_i, ax_iinc, ax_iadd, ax_isub, ax_imul, ax_iand, ax_ior, ax_ixor, ax_ishl, ax_ishr, ax_iushr, ax_ineg, ax_i2b, ax_i2s, ax_i2l, ax_ladd, ax_lmul, ax_lcmp, ax_dup_i, ax_dup_r, ax_dup2, ax_pop_i, ax_pop_r, ax_ic_eq, ax_ic_ne, ax_ic_lt, ax_ic_ge, ax_ic_gt, ax_ic_le, ax_goto, ax_ifnull_n, ax_ifnull_s, ax_ifnonnull_n, ax_ifnonnull_s, ax_gets, ax_iret, ax_lret, ax_aret, ax_vret, am_cq_i, am_cq_v, ay_if_eq, ay_if_ne, ay_if_lt, ay_if_ge, ay_if_gt, ay_if_le, ay_irem, ay_idiv, ay_zret0, ay_zret1, ay_zretb, ay_v1_0, ay_v1_1, ay_v1_2, ay_v1_3, ay_v1_4, ay_v2_0, ay_v2_1, ay_v2_2, ay_v2_3, ay_v2_4, ay_v3_0, ay_v3_1, ay_v3_2, ay_v3_3, ay_v3_4, ay_v4_0, ay_v4_1, ay_v4_2, ay_v4_3, ay_v4_4, ay_v5_0, ay_v5_1, ay_v5_2, ay_v5_3, ay_v5_4, ay_v6_0, ay_v6_1, ay_v6_2, ay_v6_3, ay_v6_4, ay_c1_0, ay_c1_1, ay_c1_2, ay_c1_3, ay_c1_4, ay_c2_0, ay_c2_1, ay_c2_2, ay_c2_3, ay_c2_4, ay_c3_0, ay_c3_1, ay_c3_2, ay_c3_3, ay_c3_4, ay_c5_0, ay_c5_1, ay_c5_2, ay_c5_3, ay_c5_4, am_en, fl_n, fl_i, fl_l, fl_r, List.cons_append, List.nil_append, List.append_nil, List.reduceReplicate, List.length_cons, List.length_nil, Nat.reduceAdd, Nat.reduceSub, Nat.reduceLT, Nat.reduceLeDiff, Nat.zero_le, Nat.le_refl, List.getElem?_cons_zero, List.getElem?_cons_succ, List.getElem?_nil, List.set_cons_zero, List.set_cons_succ, ii_of, J_b, J_s, J_c, K_l, nl_all, nk_n, nk_sn, nk_i, nk_r, decide_true, Bool.true_and, Bool.and_true, Bool.and_self, Int.toNat_natCast, Int.reduceToNat, Int.reduceAdd, Int.reduceSub, Int.reduceMul, Int.reduceNeg, Int.reduceEq, Int.reduceLT, Int.reduceLE, ii_div8, i0_b2id, i1_b2id, bt_i, bf_i, decide_false, ii_add, ii_sub, ii_mul, ii_neg, ii_lt, ii_le, ii_eq, ii_toInt, ii_clamp, ite_true, ite_false, if_true, if_false, true_and, and_true, and_self, and_false, false_and, wr_at, eq_self, Nat.reduceEqDiff, cm_max, cm_min, cm_abs, cmp_le_t, cmp_le_f, cmp_lt_t, cmp_lt_f, cmp_eq_t, cmp_eq_f, ↓reduceIte, not_true_eq_false, not_false_eq_true, D_X6_isIn_0, ii_bit, i1_b2i]
  cases x.testBit w <;> rfl
theorem c_bitCount {x : Nat} (hx : x < 1024) : am_cl (d + 1) 191 [.inl (iI x)] g = some (some (.inl (iI (pc x))), g) := by
  rw [am_cl_s _ 191 _ _ _ (by decide) E_J6_bitCount_0f7a4 (by rfl)]; simp (disch := omega) only [am_ev_ft, ax_null, ax_iconst, ax_bipush, ax_sipush, ax_ldc, ax_ldc_w, ax_ldc2_w, am_lq_i, am_lq_l, am_lq_r, ax_iload, ax_lload, ax_aload, ax_iload_0, ax_iload_1, ax_iload_2, ax_iload_3, ax_lload_0, ax_lload_1, ax_lload_2, ax_lload_3, ax_aload_0, ax_aload_1, ax_aload_2, ax_aload_3, am_sq_t, ax_istore, ax_istore_0, ax_istore_1, ax_istore_2, ax_istore_3, ax_astore, ax_astore_1, ax_astore_2, ax_astore_3, ax_lstore, ax_lstore_1, ax_lstore_3, am_iq_i, ax_iinc, ax_iadd, ax_isub, ax_imul, ax_iand, ax_ior, ax_ixor, ax_ishl, ax_ishr, ax_iushr, ax_ineg, ax_i2b, ax_i2s, ax_i2l, ax_ladd, ax_lmul, ax_lcmp, ax_dup_i, ax_dup_r, ax_dup2, ax_pop_i, ax_pop_r, ax_ic_eq, ax_ic_ne, ax_ic_lt, ax_ic_ge, ax_ic_gt, ax_ic_le, ax_goto, ax_ifnull_n, ax_ifnull_s, ax_ifnonnull_n, ax_ifnonnull_s, ax_gets, ax_iret, ax_lret, ax_aret, ax_vret, am_cq_i, am_cq_v, ay_if_eq, ay_if_ne, ay_if_lt, ay_if_ge, ay_if_gt, ay_if_le, ay_irem, ay_idiv, ay_zret0, ay_zret1, ay_zretb, ay_v1_0, ay_v1_1, ay_v1_2, ay_v1_3, ay_v1_4, ay_v2_0, ay_v2_1, ay_v2_2, ay_v2_3, ay_v2_4, ay_v3_0, ay_v3_1, ay_v3_2, ay_v3_3, ay_v3_4, ay_v4_0, ay_v4_1, ay_v4_2, ay_v4_3, ay_v4_4, ay_v5_0, ay_v5_1, ay_v5_2, ay_v5_3, ay_v5_4, ay_v6_0, ay_v6_1, ay_v6_2, ay_v6_3, ay_v6_4, ay_c1_0, ay_c1_1, ay_c1_2, ay_c1_3, ay_c1_4, ay_c2_0, ay_c2_1, ay_c2_2, ay_c2_3, ay_c2_4, ay_c3_0, ay_c3_1, ay_c3_2, ay_c3_3, ay_c3_4, ay_c5_0, ay_c5_1, ay_c5_2, ay_c5_3, ay_c5_4, am_en, fl_n, fl_i, fl_l, fl_r, List.cons_append, List.nil_append, List.append_nil, List.reduceReplicate, List.length_cons, List.length_nil, Nat.reduceAdd, Nat.reduceSub, Nat.reduceLT, Nat.reduceLeDiff, Nat.zero_le, Nat.le_refl, List.getElem?_cons_zero, List.getElem?_cons_succ, List.getElem?_nil, List.set_cons_zero, List.set_cons_succ, ii_of, J_b, J_s, J_c, K_l, nl_all, nk_n, nk_sn, nk_i, nk_r, decide_true, Bool.true_and, Bool.and_true, Bool.and_self, Int.toNat_natCast, Int.reduceToNat, Int.reduceAdd, Int.reduceSub, Int.reduceMul, Int.reduceNeg, Int.reduceEq, Int.reduceLT, Int.reduceLE, ii_div8, i0_b2id, i1_b2id, bt_i, bf_i, decide_false, ii_add, ii_sub, ii_mul, ii_neg, ii_lt, ii_le, ii_eq, ii_toInt, ii_clamp, ite_true, ite_false, if_true, if_false, true_and, and_true, and_self, and_false, false_and, wr_at, eq_self, Nat.reduceEqDiff, cm_max, cm_min, cm_abs, cmp_le_t, cmp_le_f, cmp_lt_t, cmp_lt_f, cmp_eq_t, cmp_eq_f, ↓reduceIte, not_true_eq_false, not_false_eq_true, D_J6_bitCount_0f7a4_0]
  show (some (some (.inl (bcf (iI x))), g) : Option RE) = _
  rw [bcf_ok x hx]
theorem c_ones {x : Nat} (hx : x < 1024) : am_cl (d + 1) 107 [.inl (iI x)] g = some (some (.inl (iI (pc x))), g) := by
  have key : ∀ m i, i + m = 10 → am_ex (am_cl d) 107 (am_ft 107 4) 4 [some (.inl (iI x)), some (.inl (iI (pcn x i))), some (.inl (iI i))] [] g = some (some (.inl (iI (pc x))), g) := by
    intro m
    induction m with
    | zero =>
      intro i hi
      obtain rfl : i = 10 := by omega
      rw [H_X6_ones_4]
      simp (disch := omega) only [am_ev_ft, ax_null, ax_iconst, ax_bipush, ax_sipush, ax_ldc, ax_ldc_w, ax_ldc2_w, am_lq_i, am_lq_l, am_lq_r, ax_iload, ax_lload, ax_aload, ax_iload_0, ax_iload_1, ax_iload_2, ax_iload_3, ax_lload_0, ax_lload_1, ax_lload_2, ax_lload_3, ax_aload_0, ax_aload_1, ax_aload_2, ax_aload_3, am_sq_t, ax_istore, ax_istore_0, ax_istore_1, ax_istore_2, ax_istore_3, ax_astore, ax_astore_1, ax_astore_2, ax_astore_3, ax_lstore, ax_lstore_1, ax_lstore_3, am_iq_i, ax_iinc, ax_iadd, ax_isub, ax_imul, ax_iand, ax_ior, ax_ixor, ax_ishl, ax_ishr, ax_iushr, ax_ineg, ax_i2b, ax_i2s, ax_i2l, ax_ladd, ax_lmul, ax_lcmp, ax_dup_i, ax_dup_r, ax_dup2, ax_pop_i, ax_pop_r, ax_ic_eq, ax_ic_ne, ax_ic_lt, ax_ic_ge, ax_ic_gt, ax_ic_le, ax_goto, ax_ifnull_n, ax_ifnull_s, ax_ifnonnull_n, ax_ifnonnull_s, ax_gets, ax_iret, ax_lret, ax_aret, ax_vret, am_cq_i, am_cq_v, ay_if_eq, ay_if_ne, ay_if_lt, ay_if_ge, ay_if_gt, ay_if_le, ay_irem, ay_idiv, ay_zret0, ay_zret1, ay_zretb, ay_v1_0, ay_v1_1, ay_v1_2, ay_v1_3, ay_v1_4, ay_v2_0, ay_v2_1, ay_v2_2, ay_v2_3, ay_v2_4, ay_v3_0, ay_v3_1, ay_v3_2, ay_v3_3, ay_v3_4, ay_v4_0, ay_v4_1, ay_v4_2, ay_v4_3, ay_v4_4, ay_v5_0, ay_v5_1, ay_v5_2, ay_v5_3, ay_v5_4, ay_v6_0, ay_v6_1, ay_v6_2, ay_v6_3, ay_v6_4, ay_c1_0, ay_c1_1, ay_c1_2, ay_c1_3, ay_c1_4, ay_c2_0, ay_c2_1, ay_c2_2, ay_c2_3, ay_c2_4, ay_c3_0, ay_c3_1, ay_c3_2, ay_c3_3, ay_c3_4, ay_c5_0, ay_c5_1, ay_c5_2, ay_c5_3, ay_c5_4, am_en, fl_n, fl_i, fl_l, fl_r, List.cons_append, List.nil_append, List.append_nil, List.reduceReplicate, List.length_cons, List.length_nil, Nat.reduceAdd, Nat.reduceSub, Nat.reduceLT, Nat.reduceLeDiff, Nat.zero_le, Nat.le_refl, List.getElem?_cons_zero, List.getElem?_cons_succ, List.getElem?_nil, List.set_cons_zero, List.set_cons_succ, ii_of, J_b, J_s, J_c, K_l, nl_all, nk_n, nk_sn, nk_i, nk_r, decide_true, Bool.true_and, Bool.and_true, Bool.and_self, Int.toNat_natCast, Int.reduceToNat, Int.reduceAdd, Int.reduceSub, Int.reduceMul, Int.reduceNeg, Int.reduceEq, Int.reduceLT, Int.reduceLE, ii_div8, i0_b2id, i1_b2id, bt_i, bf_i, decide_false, ii_add, ii_sub, ii_mul, ii_neg, ii_lt, ii_le, ii_eq, ii_toInt, ii_clamp, ite_true, ite_false, if_true, if_false, true_and, and_true, and_self, and_false, false_and, wr_at, eq_self, Nat.reduceEqDiff, cm_max, cm_min, cm_abs, cmp_le_t, cmp_le_f, cmp_lt_t, cmp_lt_f, cmp_eq_t, cmp_eq_f, ↓reduceIte, not_true_eq_false, not_false_eq_true, D_X6_ones_0]
      rfl
    | succ m ih =>
      intro i hi
      have := pcn_le x i
      have ei : (i : Int) + 1 = ((i + 1 : Nat) : Int) := by omega
      have h1 := ih (i + 1) (by omega)
      rw [← h1]
      conv => lhs; rw [H_X6_ones_4]
      have e2 : ((pcn x (i + 1) : Nat) : Int) = ((pcn x i : Nat) : Int) + (if x.testBit i = true then 1 else 0) := by
        show ((pcn x i + (if x.testBit i then 1 else 0) : Nat) : Int) = _
        split <;> simp
      rw [e2]
      simp (disch := omega) only [am_ev_ft, ax_null, ax_iconst, ax_bipush, ax_sipush, ax_ldc, ax_ldc_w, ax_ldc2_w, am_lq_i, am_lq_l, am_lq_r, ax_iload, ax_lload, ax_aload, ax_iload_0, ax_iload_1, ax_iload_2, ax_iload_3, ax_lload_0, ax_lload_1, ax_lload_2, ax_lload_3, ax_aload_0, ax_aload_1, ax_aload_2, ax_aload_3, am_sq_t, ax_istore, ax_istore_0, ax_istore_1, ax_istore_2, ax_istore_3, ax_astore, ax_astore_1, ax_astore_2, ax_astore_3, ax_lstore, ax_lstore_1, ax_lstore_3, am_iq_i, ax_iinc, ax_iadd, ax_isub, ax_imul, ax_iand, ax_ior, ax_ixor, ax_ishl, ax_ishr, ax_iushr, ax_ineg, ax_i2b, ax_i2s, ax_i2l, ax_ladd, ax_lmul, ax_lcmp, ax_dup_i, ax_dup_r, ax_dup2, ax_pop_i, ax_pop_r, ax_ic_eq, ax_ic_ne, ax_ic_lt, ax_ic_ge, ax_ic_gt, ax_ic_le, ax_goto, ax_ifnull_n, ax_ifnull_s, ax_ifnonnull_n, ax_ifnonnull_s, ax_gets, ax_iret, ax_lret, ax_aret, ax_vret, am_cq_i, am_cq_v, ay_if_eq, ay_if_ne, ay_if_lt, ay_if_ge, ay_if_gt, ay_if_le, ay_irem, ay_idiv, ay_zret0, ay_zret1, ay_zretb, ay_v1_0, ay_v1_1, ay_v1_2, ay_v1_3, ay_v1_4, ay_v2_0, ay_v2_1, ay_v2_2, ay_v2_3, ay_v2_4, ay_v3_0, ay_v3_1, ay_v3_2, ay_v3_3, ay_v3_4, ay_v4_0, ay_v4_1, ay_v4_2, ay_v4_3, ay_v4_4, ay_v5_0, ay_v5_1, ay_v5_2, ay_v5_3, ay_v5_4, ay_v6_0, ay_v6_1, ay_v6_2, ay_v6_3, ay_v6_4, ay_c1_0, ay_c1_1, ay_c1_2, ay_c1_3, ay_c1_4, ay_c2_0, ay_c2_1, ay_c2_2, ay_c2_3, ay_c2_4, ay_c3_0, ay_c3_1, ay_c3_2, ay_c3_3, ay_c3_4, ay_c5_0, ay_c5_1, ay_c5_2, ay_c5_3, ay_c5_4, am_en, fl_n, fl_i, fl_l, fl_r, List.cons_append, List.nil_append, List.append_nil, List.reduceReplicate, List.length_cons, List.length_nil, Nat.reduceAdd, Nat.reduceSub, Nat.reduceLT, Nat.reduceLeDiff, Nat.zero_le, Nat.le_refl, List.getElem?_cons_zero, List.getElem?_cons_succ, List.getElem?_nil, List.set_cons_zero, List.set_cons_succ, ii_of, J_b, J_s, J_c, K_l, nl_all, nk_n, nk_sn, nk_i, nk_r, decide_true, Bool.true_and, Bool.and_true, Bool.and_self, Int.toNat_natCast, Int.reduceToNat, Int.reduceAdd, Int.reduceSub, Int.reduceMul, Int.reduceNeg, Int.reduceEq, Int.reduceLT, Int.reduceLE, ii_div8, i0_b2id, i1_b2id, bt_i, bf_i, decide_false, ii_add, ii_sub, ii_mul, ii_neg, ii_lt, ii_le, ii_eq, ii_toInt, ii_clamp, ite_true, ite_false, if_true, if_false, true_and, and_true, and_self, and_false, false_and, wr_at, eq_self, Nat.reduceEqDiff, cm_max, cm_min, cm_abs, cmp_le_t, cmp_le_f, cmp_lt_t, cmp_lt_f, cmp_eq_t, cmp_eq_f, ↓reduceIte, not_true_eq_false, not_false_eq_true, D_X6_ones_0, ii_bit, ii_b2i, ei]
  rw [am_cl_s _ 107 _ _ _ (by decide) E_X6_ones (by rfl)]; simp (disch := omega) only [am_ev_ft, ax_null, ax_iconst, ax_bipush, ax_sipush, ax_ldc, ax_ldc_w, ax_ldc2_w, am_lq_i, am_lq_l, am_lq_r, ax_iload, ax_lload, ax_aload, ax_iload_0, ax_iload_1, ax_iload_2, ax_iload_3, ax_lload_0, ax_lload_1, ax_lload_2, ax_lload_3, ax_aload_0, ax_aload_1, ax_aload_2, ax_aload_3, am_sq_t, ax_istore, ax_istore_0, ax_istore_1, ax_istore_2, ax_istore_3, ax_astore, ax_astore_1, ax_astore_2, ax_astore_3, ax_lstore, ax_lstore_1, ax_lstore_3, am_iq_i, ax_iinc, ax_iadd, ax_isub, ax_imul, ax_iand, ax_ior, ax_ixor, ax_ishl, ax_ishr, ax_iushr, ax_ineg, ax_i2b, ax_i2s, ax_i2l, ax_ladd, ax_lmul, ax_lcmp, ax_dup_i, ax_dup_r, ax_dup2, ax_pop_i, ax_pop_r, ax_ic_eq, ax_ic_ne, ax_ic_lt, ax_ic_ge, ax_ic_gt, ax_ic_le, ax_goto, ax_ifnull_n, ax_ifnull_s, ax_ifnonnull_n, ax_ifnonnull_s, ax_gets, ax_iret, ax_lret, ax_aret, ax_vret, am_cq_i, am_cq_v, ay_if_eq, ay_if_ne, ay_if_lt, ay_if_ge, ay_if_gt, ay_if_le, ay_irem, ay_idiv, ay_zret0, ay_zret1, ay_zretb, ay_v1_0, ay_v1_1, ay_v1_2, ay_v1_3, ay_v1_4, ay_v2_0, ay_v2_1, ay_v2_2, ay_v2_3, ay_v2_4, ay_v3_0, ay_v3_1, ay_v3_2, ay_v3_3, ay_v3_4, ay_v4_0, ay_v4_1, ay_v4_2, ay_v4_3, ay_v4_4, ay_v5_0, ay_v5_1, ay_v5_2, ay_v5_3, ay_v5_4, ay_v6_0, ay_v6_1, ay_v6_2, ay_v6_3, ay_v6_4, ay_c1_0, ay_c1_1, ay_c1_2, ay_c1_3, ay_c1_4, ay_c2_0, ay_c2_1, ay_c2_2, ay_c2_3, ay_c2_4, ay_c3_0, ay_c3_1, ay_c3_2, ay_c3_3, ay_c3_4, ay_c5_0, ay_c5_1, ay_c5_2, ay_c5_3, ay_c5_4, am_en, fl_n, fl_i, fl_l, fl_r, List.cons_append, List.nil_append, List.append_nil, List.reduceReplicate, List.length_cons, List.length_nil, Nat.reduceAdd, Nat.reduceSub, Nat.reduceLT, Nat.reduceLeDiff, Nat.zero_le, Nat.le_refl, List.getElem?_cons_zero, List.getElem?_cons_succ, List.getElem?_nil, List.set_cons_zero, List.set_cons_succ, ii_of, J_b, J_s, J_c, K_l, nl_all, nk_n, nk_sn, nk_i, nk_r, decide_true, Bool.true_and, Bool.and_true, Bool.and_self, Int.toNat_natCast, Int.reduceToNat, Int.reduceAdd, Int.reduceSub, Int.reduceMul, Int.reduceNeg, Int.reduceEq, Int.reduceLT, Int.reduceLE, ii_div8, i0_b2id, i1_b2id, bt_i, bf_i, decide_false, ii_add, ii_sub, ii_mul, ii_neg, ii_lt, ii_le, ii_eq, ii_toInt, ii_clamp, ite_true, ite_false, if_true, if_false, true_and, and_true, and_self, and_false, false_and, wr_at, eq_self, Nat.reduceEqDiff, cm_max, cm_min, cm_abs, cmp_le_t, cmp_le_f, cmp_lt_t, cmp_lt_f, cmp_eq_t, cmp_eq_f, ↓reduceIte, not_true_eq_false, not_false_eq_true, D_X6_ones_0]
  exact key 10 0 (by omega)
end
