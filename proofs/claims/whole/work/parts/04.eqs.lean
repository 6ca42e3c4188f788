/-! ===== the machine's steps as equations ===== -/
section
variable (C : Nat → List AV → SG → Option RE) (k a b c pc : Nat) (L : LO) (st r : List AV) (g : SG)
theorem am_go_if {P : Prop} [Decidable P] (x y : Option ST) : am_go C k pc L g (if P then x else y) = if P then am_go C k pc L g x else am_go C k pc L g y := by split <;> rfl
theorem ax_null : am_ex C k (some (.aconst_null, a, b, c)) pc L st g = am_ev C k (pc + 1) L (.inr (.inr none) :: st) g := rfl
theorem ax_iconst (n : Int) : am_ex C k (some (.iconst n, a, b, c)) pc L st g = am_ev C k (pc + 1) L (.inl (Int32.ofInt n) :: st) g := rfl
theorem ax_bipush (n : Int) : am_ex C k (some (.bipush n, a, b, c)) pc L st g = am_ev C k (pc + 2) L (.inl (Int8.ofInt n).toInt32 :: st) g := rfl
theorem ax_sipush (n : Int) : am_ex C k (some (.sipush n, a, b, c)) pc L st g = am_ev C k (pc + 3) L (.inl (Int16.ofInt n).toInt32 :: st) g := rfl
theorem ax_ldc (n : Nat) : am_ex C k (some (.ldc n, a, b, c)) pc L st g = am_ev C k (pc + 2) L (.inl (Int32.ofNat a) :: st) g := rfl
theorem ax_ldc_w (n : Nat) : am_ex C k (some (.ldc_w n, a, b, c)) pc L st g = am_ev C k (pc + 3) L (.inl (Int32.ofNat a) :: st) g := rfl
theorem ax_ldc2_w (n : Nat) : am_ex C k (some (.ldc2_w n, a, b, c)) pc L st g = am_ev C k (pc + 3) L (.inr (.inl (Int64.ofNat a)) :: st) g := rfl
/-- a load: what stands there -/
noncomputable def am_lq (C : Nat → List AV → SG → Option RE) (k pc : Nat) (L : LO) (st : List AV) (g : SG) (q : Nat) (o : Option (Option AV)) : Option RE := match o with
  | some (some v) => if am_so v = q then am_ev C k pc L (v :: st) g else none
  | _ => none
theorem am_lq_i (x : Int32) : am_lq C k pc L st g 0 (some (some (.inl x))) = am_ev C k pc L (.inl x :: st) g := rfl
theorem am_lq_l (x : Int64) : am_lq C k pc L st g 1 (some (some (.inr (.inl x)))) = am_ev C k pc L (.inr (.inl x) :: st) g := rfl
theorem am_lq_r (x : Option (Nat × Nat)) : am_lq C k pc L st g 2 (some (some (.inr (.inr x)))) = am_ev C k pc L (.inr (.inr x) :: st) g := rfl
theorem ax_ld_q (q j len : Nat) : am_go C k pc L g (am_ld q j len pc L st g) = am_lq C k (pc + len) L st g q L[j]? := by
  unfold am_ld am_lq
  generalize L[j]? = o
  rcases o with _ | _ | v
  · rfl
  · rfl
  · exact am_go_if C k pc L g _ _
theorem ax_iload (j : Nat) : am_ex C k (some (.iload j, a, b, c)) pc L st g = am_lq C k (pc + 2) L st g 0 L[j]? := ax_ld_q C k pc L st g 0 j 2
theorem ax_lload (j : Nat) : am_ex C k (some (.lload j, a, b, c)) pc L st g = am_lq C k (pc + 2) L st g 1 L[j]? := ax_ld_q C k pc L st g 1 j 2
theorem ax_aload (j : Nat) : am_ex C k (some (.aload j, a, b, c)) pc L st g = am_lq C k (pc + 2) L st g 2 L[j]? := ax_ld_q C k pc L st g 2 j 2
theorem ax_iload_0 : am_ex C k (some (.iload_n 0, a, b, c)) pc L st g = am_lq C k (pc + 1) L st g 0 L[0]? := ax_ld_q C k pc L st g 0 0 1
theorem ax_iload_1 : am_ex C k (some (.iload_n 1, a, b, c)) pc L st g = am_lq C k (pc + 1) L st g 0 L[1]? := ax_ld_q C k pc L st g 0 1 1
theorem ax_iload_2 : am_ex C k (some (.iload_n 2, a, b, c)) pc L st g = am_lq C k (pc + 1) L st g 0 L[2]? := ax_ld_q C k pc L st g 0 2 1
theorem ax_iload_3 : am_ex C k (some (.iload_n 3, a, b, c)) pc L st g = am_lq C k (pc + 1) L st g 0 L[3]? := ax_ld_q C k pc L st g 0 3 1
theorem ax_lload_0 : am_ex C k (some (.lload_n 0, a, b, c)) pc L st g = am_lq C k (pc + 1) L st g 1 L[0]? := ax_ld_q C k pc L st g 1 0 1
theorem ax_lload_1 : am_ex C k (some (.lload_n 1, a, b, c)) pc L st g = am_lq C k (pc + 1) L st g 1 L[1]? := ax_ld_q C k pc L st g 1 1 1
theorem ax_lload_2 : am_ex C k (some (.lload_n 2, a, b, c)) pc L st g = am_lq C k (pc + 1) L st g 1 L[2]? := ax_ld_q C k pc L st g 1 2 1
theorem ax_lload_3 : am_ex C k (some (.lload_n 3, a, b, c)) pc L st g = am_lq C k (pc + 1) L st g 1 L[3]? := ax_ld_q C k pc L st g 1 3 1
theorem ax_aload_0 : am_ex C k (some (.aload_n 0, a, b, c)) pc L st g = am_lq C k (pc + 1) L st g 2 L[0]? := ax_ld_q C k pc L st g 2 0 1
theorem ax_aload_1 : am_ex C k (some (.aload_n 1, a, b, c)) pc L st g = am_lq C k (pc + 1) L st g 2 L[1]? := ax_ld_q C k pc L st g 2 1 1
theorem ax_aload_2 : am_ex C k (some (.aload_n 2, a, b, c)) pc L st g = am_lq C k (pc + 1) L st g 2 L[2]? := ax_ld_q C k pc L st g 2 2 1
theorem ax_aload_3 : am_ex C k (some (.aload_n 3, a, b, c)) pc L st g = am_lq C k (pc + 1) L st g 2 L[3]? := ax_ld_q C k pc L st g 2 3 1
/-- a store: the locals behind it -/
noncomputable def am_sq (C : Nat → List AV → SG → Option RE) (k pc : Nat) (L' : LO) (st : List AV) (g : SG) (z : Bool) : Option RE := match z with
  | true => am_ev C k pc L' st g
  | false => none
theorem am_sq_t : am_sq C k pc L st g true = am_ev C k pc L st g := rfl
theorem ax_s1_i (j len : Nat) (x : Int32) : am_go C k pc L g (am_s1 0 j len pc L (.inl x :: r) g) = am_sq C k (pc + len) (L.set j (some (.inl x))) r g (decide (j < L.length) && am_nl L j) := by
  unfold am_s1 am_sq
  by_cases h1 : j < L.length
  · cases h2 : am_nl L j <;> simp [h1, am_so, am_go, am_nx]
  · simp [h1, am_go]
theorem ax_s1_r (j len : Nat) (x : Option (Nat × Nat)) : am_go C k pc L g (am_s1 2 j len pc L (.inr (.inr x) :: r) g) = am_sq C k (pc + len) (L.set j (some (.inr (.inr x)))) r g (decide (j < L.length) && am_nl L j) := by
  unfold am_s1 am_sq
  by_cases h1 : j < L.length
  · cases h2 : am_nl L j <;> simp [h1, am_so, am_go, am_nx]
  · simp [h1, am_go]
theorem ax_s2 (j len : Nat) (x : Int64) : am_go C k pc L g (am_s2 j len pc L (.inr (.inl x) :: r) g) = am_sq C k (pc + len) ((L.set j (some (.inr (.inl x)))).set (j + 1) none) r g (decide (j + 1 < L.length) && am_nl L j) := by
  unfold am_s2 am_sq
  by_cases h1 : j + 1 < L.length
  · cases h2 : am_nl L j <;> simp [h1, am_go, am_nx]
  · simp [h1, am_go]
theorem ax_istore (j : Nat) (x : Int32) : am_ex C k (some (.istore j, a, b, c)) pc L (.inl x :: r) g = am_sq C k (pc + 2) (L.set j (some (.inl x))) r g (decide (j < L.length) && am_nl L j) := ax_s1_i C k pc L r g j 2 x
theorem ax_istore_0 (x : Int32) : am_ex C k (some (.istore_n 0, a, b, c)) pc L (.inl x :: r) g = am_sq C k (pc + 1) (L.set 0 (some (.inl x))) r g (decide (0 < L.length) && am_nl L 0) := ax_s1_i C k pc L r g 0 1 x
theorem ax_istore_1 (x : Int32) : am_ex C k (some (.istore_n 1, a, b, c)) pc L (.inl x :: r) g = am_sq C k (pc + 1) (L.set 1 (some (.inl x))) r g (decide (1 < L.length) && am_nl L 1) := ax_s1_i C k pc L r g 1 1 x
theorem ax_istore_2 (x : Int32) : am_ex C k (some (.istore_n 2, a, b, c)) pc L (.inl x :: r) g = am_sq C k (pc + 1) (L.set 2 (some (.inl x))) r g (decide (2 < L.length) && am_nl L 2) := ax_s1_i C k pc L r g 2 1 x
theorem ax_istore_3 (x : Int32) : am_ex C k (some (.istore_n 3, a, b, c)) pc L (.inl x :: r) g = am_sq C k (pc + 1) (L.set 3 (some (.inl x))) r g (decide (3 < L.length) && am_nl L 3) := ax_s1_i C k pc L r g 3 1 x
theorem ax_astore (j : Nat) (x : Option (Nat × Nat)) : am_ex C k (some (.astore j, a, b, c)) pc L (.inr (.inr x) :: r) g = am_sq C k (pc + 2) (L.set j (some (.inr (.inr x)))) r g (decide (j < L.length) && am_nl L j) := ax_s1_r C k pc L r g j 2 x
theorem ax_astore_1 (x : Option (Nat × Nat)) : am_ex C k (some (.astore_n 1, a, b, c)) pc L (.inr (.inr x) :: r) g = am_sq C k (pc + 1) (L.set 1 (some (.inr (.inr x)))) r g (decide (1 < L.length) && am_nl L 1) := ax_s1_r C k pc L r g 1 1 x
theorem ax_astore_2 (x : Option (Nat × Nat)) : am_ex C k (some (.astore_n 2, a, b, c)) pc L (.inr (.inr x) :: r) g = am_sq C k (pc + 1) (L.set 2 (some (.inr (.inr x)))) r g (decide (2 < L.length) && am_nl L 2) := ax_s1_r C k pc L r g 2 1 x
theorem ax_astore_3 (x : Option (Nat × Nat)) : am_ex C k (some (.astore_n 3, a, b, c)) pc L (.inr (.inr x) :: r) g = am_sq C k (pc + 1) (L.set 3 (some (.inr (.inr x)))) r g (decide (3 < L.length) && am_nl L 3) := ax_s1_r C k pc L r g 3 1 x
theorem ax_lstore (j : Nat) (x : Int64) : am_ex C k (some (.lstore j, a, b, c)) pc L (.inr (.inl x) :: r) g = am_sq C k (pc + 2) ((L.set j (some (.inr (.inl x)))).set (j + 1) none) r g (decide (j + 1 < L.length) && am_nl L j) := ax_s2 C k pc L r g j 2 x
theorem ax_lstore_1 (x : Int64) : am_ex C k (some (.lstore_n 1, a, b, c)) pc L (.inr (.inl x) :: r) g = am_sq C k (pc + 1) ((L.set 1 (some (.inr (.inl x)))).set 2 none) r g (decide (2 < L.length) && am_nl L 1) := ax_s2 C k pc L r g 1 1 x
theorem ax_lstore_3 (x : Int64) : am_ex C k (some (.lstore_n 3, a, b, c)) pc L (.inr (.inl x) :: r) g = am_sq C k (pc + 1) ((L.set 3 (some (.inr (.inl x)))).set 4 none) r g (decide (4 < L.length) && am_nl L 3) := ax_s2 C k pc L r g 3 1 x
noncomputable def am_iq (C : Nat → List AV → SG → Option RE) (k pc : Nat) (L : LO) (st : List AV) (g : SG) (j : Nat) (n : Int) (o : Option (Option AV)) : Option RE := match o with
  | some (some (.inl x)) => am_sq C k pc (L.set j (some (.inl (x + Int32.ofInt n)))) st g (am_nl L j)
  | _ => none
theorem am_iq_i (j : Nat) (n : Int) (x : Int32) : am_iq C k pc L st g j n (some (some (.inl x))) = am_sq C k pc (L.set j (some (.inl (x + Int32.ofInt n)))) st g (am_nl L j) := rfl
theorem ax_iinc (j : Nat) (n : Int) : am_ex C k (some (.iinc j n, a, b, c)) pc L st g = am_iq C k (pc + 3) L st g j n L[j]? := by
  show am_go C k pc L g (am_st (.iinc j n) a b c pc L st g) = _
  unfold am_st am_iq am_sq
  dsimp only
  generalize L[j]? = o
  rcases o with _ | _ | x | x
  · rfl
  · rfl
  · dsimp only
    cases h : am_nl L j <;> rfl
  · rfl
theorem ax_iadd (x y : Int32) : am_ex C k (some (.iadd, a, b, c)) pc L (.inl y :: .inl x :: r) g = am_ev C k (pc + 1) L (.inl (x + y) :: r) g := rfl
theorem ax_isub (x y : Int32) : am_ex C k (some (.isub, a, b, c)) pc L (.inl y :: .inl x :: r) g = am_ev C k (pc + 1) L (.inl (x - y) :: r) g := rfl
theorem ax_imul (x y : Int32) : am_ex C k (some (.imul, a, b, c)) pc L (.inl y :: .inl x :: r) g = am_ev C k (pc + 1) L (.inl (x * y) :: r) g := rfl
theorem ax_iand (x y : Int32) : am_ex C k (some (.iand, a, b, c)) pc L (.inl y :: .inl x :: r) g = am_ev C k (pc + 1) L (.inl (x &&& y) :: r) g := rfl
theorem ax_ior (x y : Int32) : am_ex C k (some (.ior, a, b, c)) pc L (.inl y :: .inl x :: r) g = am_ev C k (pc + 1) L (.inl (x ||| y) :: r) g := rfl
theorem ax_ixor (x y : Int32) : am_ex C k (some (.ixor, a, b, c)) pc L (.inl y :: .inl x :: r) g = am_ev C k (pc + 1) L (.inl (x ^^^ y) :: r) g := rfl
theorem ax_ishl (x y : Int32) : am_ex C k (some (.ishl, a, b, c)) pc L (.inl y :: .inl x :: r) g = am_ev C k (pc + 1) L (.inl (x <<< (y &&& 31)) :: r) g := rfl
theorem ax_ishr (x y : Int32) : am_ex C k (some (.ishr, a, b, c)) pc L (.inl y :: .inl x :: r) g = am_ev C k (pc + 1) L (.inl (x >>> (y &&& 31)) :: r) g := rfl
theorem ax_iushr (x y : Int32) : am_ex C k (some (.iushr, a, b, c)) pc L (.inl y :: .inl x :: r) g = am_ev C k (pc + 1) L (.inl (x.toUInt32 >>> (y.toUInt32 &&& Int32.toUInt32 31)).toInt32 :: r) g := rfl
theorem ax_idiv (x y : Int32) : am_ex C k (some (.idiv, a, b, c)) pc L (.inl y :: .inl x :: r) g = if y = 0 then none else am_ev C k (pc + 1) L (.inl (x / y) :: r) g := by
  show am_go C k pc L g (if y = 0 then none else am_nx (pc + 1) L (.inl (x / y) :: r) g) = _
  split <;> rfl
theorem ax_irem (x y : Int32) : am_ex C k (some (.irem, a, b, c)) pc L (.inl y :: .inl x :: r) g = if y = 0 then none else am_ev C k (pc + 1) L (.inl (x - x / y * y) :: r) g := by
  show am_go C k pc L g (if y = 0 then none else am_nx (pc + 1) L (.inl (x - x / y * y) :: r) g) = _
  split <;> rfl
theorem ax_ineg (x : Int32) : am_ex C k (some (.ineg, a, b, c)) pc L (.inl x :: r) g = am_ev C k (pc + 1) L (.inl (-x) :: r) g := rfl
theorem ax_i2b (x : Int32) : am_ex C k (some (.i2b, a, b, c)) pc L (.inl x :: r) g = am_ev C k (pc + 1) L (.inl x.toInt8.toInt32 :: r) g := rfl
theorem ax_i2s (x : Int32) : am_ex C k (some (.i2s, a, b, c)) pc L (.inl x :: r) g = am_ev C k (pc + 1) L (.inl x.toInt16.toInt32 :: r) g := rfl
theorem ax_i2l (x : Int32) : am_ex C k (some (.i2l, a, b, c)) pc L (.inl x :: r) g = am_ev C k (pc + 1) L (.inr (.inl x.toInt64) :: r) g := rfl
theorem ax_ladd (x y : Int64) : am_ex C k (some (.ladd, a, b, c)) pc L (.inr (.inl y) :: .inr (.inl x) :: r) g = am_ev C k (pc + 1) L (.inr (.inl (x + y)) :: r) g := rfl
theorem ax_lmul (x y : Int64) : am_ex C k (some (.lmul, a, b, c)) pc L (.inr (.inl y) :: .inr (.inl x) :: r) g = am_ev C k (pc + 1) L (.inr (.inl (x * y)) :: r) g := rfl
theorem ax_lcmp (x y : Int64) : am_ex C k (some (.lcmp, a, b, c)) pc L (.inr (.inl y) :: .inr (.inl x) :: r) g = am_ev C k (pc + 1) L (.inl (lg_cmp x y) :: r) g := rfl
theorem ax_dup_i (x : Int32) : am_ex C k (some (.dup, a, b, c)) pc L (.inl x :: r) g = am_ev C k (pc + 1) L (.inl x :: .inl x :: r) g := rfl
theorem ax_dup_r (x : Option (Nat × Nat)) : am_ex C k (some (.dup, a, b, c)) pc L (.inr (.inr x) :: r) g = am_ev C k (pc + 1) L (.inr (.inr x) :: .inr (.inr x) :: r) g := rfl
theorem ax_dup2 (x : Int32) (y : Option (Nat × Nat)) : am_ex C k (some (.dup2, a, b, c)) pc L (.inl x :: .inr (.inr y) :: r) g = am_ev C k (pc + 1) L (.inl x :: .inr (.inr y) :: .inl x :: .inr (.inr y) :: r) g := rfl
theorem ax_pop_i (x : Int32) : am_ex C k (some (.pop, a, b, c)) pc L (.inl x :: r) g = am_ev C k (pc + 1) L r g := rfl
theorem ax_pop_r (x : Option (Nat × Nat)) : am_ex C k (some (.pop, a, b, c)) pc L (.inr (.inr x) :: r) g = am_ev C k (pc + 1) L r g := rfl
theorem ax_if_eq (o : Int) (x : Int32) : am_ex C k (some (.ifCond .eq o, a, b, c)) pc L (.inl x :: r) g = if x = 0 then am_ev C k a L r g else am_ev C k (pc + 3) L r g := am_go_if C k pc L g _ _
theorem ax_if_ne (o : Int) (x : Int32) : am_ex C k (some (.ifCond .ne o, a, b, c)) pc L (.inl x :: r) g = if x = 0 then am_ev C k (pc + 3) L r g else am_ev C k a L r g := am_go_if C k pc L g _ _
theorem ax_if_lt (o : Int) (x : Int32) : am_ex C k (some (.ifCond .lt o, a, b, c)) pc L (.inl x :: r) g = if x < 0 then am_ev C k a L r g else am_ev C k (pc + 3) L r g := am_go_if C k pc L g _ _
theorem ax_if_ge (o : Int) (x : Int32) : am_ex C k (some (.ifCond .ge o, a, b, c)) pc L (.inl x :: r) g = if 0 ≤ x then am_ev C k a L r g else am_ev C k (pc + 3) L r g := am_go_if C k pc L g _ _
theorem ax_if_gt (o : Int) (x : Int32) : am_ex C k (some (.ifCond .gt o, a, b, c)) pc L (.inl x :: r) g = if 0 < x then am_ev C k a L r g else am_ev C k (pc + 3) L r g := am_go_if C k pc L g _ _
theorem ax_if_le (o : Int) (x : Int32) : am_ex C k (some (.ifCond .le o, a, b, c)) pc L (.inl x :: r) g = if x ≤ 0 then am_ev C k a L r g else am_ev C k (pc + 3) L r g := am_go_if C k pc L g _ _
theorem ax_ic_eq (o : Int) (x y : Int32) : am_ex C k (some (.if_icmp .eq o, a, b, c)) pc L (.inl y :: .inl x :: r) g = if x = y then am_ev C k a L r g else am_ev C k (pc + 3) L r g := am_go_if C k pc L g _ _
theorem ax_ic_ne (o : Int) (x y : Int32) : am_ex C k (some (.if_icmp .ne o, a, b, c)) pc L (.inl y :: .inl x :: r) g = if x = y then am_ev C k (pc + 3) L r g else am_ev C k a L r g := am_go_if C k pc L g _ _
theorem ax_ic_lt (o : Int) (x y : Int32) : am_ex C k (some (.if_icmp .lt o, a, b, c)) pc L (.inl y :: .inl x :: r) g = if x < y then am_ev C k a L r g else am_ev C k (pc + 3) L r g := am_go_if C k pc L g _ _
theorem ax_ic_ge (o : Int) (x y : Int32) : am_ex C k (some (.if_icmp .ge o, a, b, c)) pc L (.inl y :: .inl x :: r) g = if y ≤ x then am_ev C k a L r g else am_ev C k (pc + 3) L r g := am_go_if C k pc L g _ _
theorem ax_ic_gt (o : Int) (x y : Int32) : am_ex C k (some (.if_icmp .gt o, a, b, c)) pc L (.inl y :: .inl x :: r) g = if y < x then am_ev C k a L r g else am_ev C k (pc + 3) L r g := am_go_if C k pc L g _ _
theorem ax_ic_le (o : Int) (x y : Int32) : am_ex C k (some (.if_icmp .le o, a, b, c)) pc L (.inl y :: .inl x :: r) g = if x ≤ y then am_ev C k a L r g else am_ev C k (pc + 3) L r g := am_go_if C k pc L g _ _
theorem ax_goto (o : Int) : am_ex C k (some (.goto o, a, b, c)) pc L st g = am_ev C k a L st g := rfl
theorem ax_ifnull_n (o : Int) : am_ex C k (some (.ifnull o, a, b, c)) pc L (.inr (.inr none) :: r) g = am_ev C k a L r g := rfl
theorem ax_ifnull_s (o : Int) (x : Nat × Nat) : am_ex C k (some (.ifnull o, a, b, c)) pc L (.inr (.inr (some x)) :: r) g = am_ev C k (pc + 3) L r g := rfl
theorem ax_ifnonnull_n (o : Int) : am_ex C k (some (.ifnonnull o, a, b, c)) pc L (.inr (.inr none) :: r) g = am_ev C k (pc + 3) L r g := rfl
theorem ax_ifnonnull_s (o : Int) (x : Nat × Nat) : am_ex C k (some (.ifnonnull o, a, b, c)) pc L (.inr (.inr (some x)) :: r) g = am_ev C k a L r g := rfl
/-- a table of jumps: one test behind the other -/
noncomputable def am_tq (C : Nat → List AV → SG → Option RE) (k : Nat) (L : LO) (st : List AV) (g : SG) (d : Int) (x : Int) : Int → List Int → Option RE
  | _, [] => am_ev C k d.toNat L st g
  | lo, o :: os => if x = lo then am_ev C k o.toNat L st g else am_tq C k L st g d x (lo + 1) os
theorem am_tq_n (d x lo : Int) : am_tq C k L st g d x lo [] = am_ev C k d.toNat L st g := rfl
theorem am_tq_c (d x lo o : Int) (os : List Int) : am_tq C k L st g d x lo (o :: os) = if x = lo then am_ev C k o.toNat L st g else am_tq C k L st g d x (lo + 1) os := rfl
theorem am_tq_eq (d x : Int) (os : List Int) : ∀ lo : Int, (match am_tb x lo os with
    | some t => am_ev C k t.toNat L st g
    | none => am_ev C k d.toNat L st g) = am_tq C k L st g d x lo os := by
  induction os with
  | nil => intro lo; rfl
  | cons o os ih =>
    intro lo
    unfold am_tb am_tq
    by_cases h : x = lo
    · rw [if_pos h, if_pos h]
    · rw [if_neg h, if_neg h]; exact ih (lo + 1)
theorem ax_table (d lo hi : Int) (os : Array Int) (x : Int32) : am_ex C k (some (.tableswitch d lo hi os, a, b, c)) pc L (.inl x :: r) g = am_tq C k L r g d x.toInt lo os.toList := by
  rw [← am_tq_eq]
  show am_go C k pc L g (match am_tb x.toInt lo os.toList with
      | some t => am_nx t.toNat L r g
      | none => am_nx d.toNat L r g) = _
  cases am_tb x.toInt lo os.toList <;> rfl
/-- fields -/
theorem ax_get0 (n o : Nat) (h : am_co o = some a) : am_ex C k (some (.getfield n, a, b, 0)) pc L (.inr (.inr (some (o, 0))) :: r) g = am_ev C k (pc + 3) L (.inl (g o 0 b) :: r) g := by
  show am_go C k pc L g (if am_co o = some a then _ else none) = _
  rw [if_pos h]; rfl
theorem ax_get1 (n o : Nat) (h : am_co o = some a) : am_ex C k (some (.getfield n, a, b, 1)) pc L (.inr (.inr (some (o, 0))) :: r) g = am_ev C k (pc + 3) L (.inr (.inr (some (o, b + 1))) :: r) g := by
  show am_go C k pc L g (if am_co o = some a then _ else none) = _
  rw [if_pos h]; rfl
theorem ax_get2 (n o q : Nat) (h : am_co o = some a) (hq : 2 ≤ q) : am_ex C k (some (.getfield n, a, b, q)) pc L (.inr (.inr (some (o, 0))) :: r) g = am_ev C k (pc + 3) L (.inr (.inr (some (q - 2, 0))) :: r) g := by
  obtain ⟨q, rfl⟩ : ∃ z, q = z + 2 := ⟨q - 2, by omega⟩
  show am_go C k pc L g (if am_co o = some a then _ else none) = _
  rw [if_pos h]; rfl
theorem ax_put0 (n o : Nat) (v : Int32) (h : am_co o = some a) : am_ex C k (some (.putfield n, a, b, 0)) pc L (.inl v :: .inr (.inr (some (o, 0))) :: r) g = am_ev C k (pc + 3) L r (wr g o 0 b v) := by
  show am_go C k pc L g (if am_co o = some a ∧ _ then _ else none) = _
  rw [if_pos ⟨h, Or.inl rfl⟩]; rfl
theorem ax_put1 (n o : Nat) (v : Int32) (h : am_co o = some a) (hv : v = 0 ∨ v = 1) : am_ex C k (some (.putfield n, a, b, 1)) pc L (.inl v :: .inr (.inr (some (o, 0))) :: r) g = am_ev C k (pc + 3) L r (wr g o 0 b v) := by
  show am_go C k pc L g (if am_co o = some a ∧ _ then _ else none) = _
  rw [if_pos ⟨h, Or.inr ⟨rfl, hv⟩⟩]; rfl
theorem ax_gets (n : Nat) : am_ex C k (some (.getstatic n, a, b, c)) pc L st g = am_ev C k (pc + 3) L (.inr (.inr (some (13, 1))) :: st) g := rfl
/-- arrays -/
theorem ax_alen (o j q n : Nat) (h : am_al o j = some (q, n)) (hq : q ≠ 4) : am_ex C k (some (.arraylength, a, b, c)) pc L (.inr (.inr (some (o, j))) :: r) g = am_ev C k (pc + 1) L (.inl (Int32.ofNat n) :: r) g := by
  show am_go C k pc L g (match am_al o j with
      | some (k, n) => if k = 4 then am_nx (pc + 1) L (.inl (g 14 0 0) :: r) g else am_nx (pc + 1) L (.inl (Int32.ofNat n) :: r) g
      | none => none) = _
  rw [h]; dsimp only; rw [if_neg hq]; rfl
theorem ax_alen_s : am_ex C k (some (.arraylength, a, b, c)) pc L (.inr (.inr (some (14, 1))) :: r) g = am_ev C k (pc + 1) L (.inl (g 14 0 0) :: r) g := rfl
theorem ax_iald (o j : Nat) (n : Int) (x : Int32) (h : am_il o j g = some n) : am_ex C k (some (.iaload, a, b, c)) pc L (.inl x :: .inr (.inr (some (o, j))) :: r) g = if 0 ≤ x.toInt ∧ x.toInt < n then am_ev C k (pc + 1) L (.inl (g o j x.toNatClampNeg) :: r) g else none := by
  show am_go C k pc L g (match am_il o j g with
      | some n => if 0 ≤ x.toInt ∧ x.toInt < n then am_nx (pc + 1) L (.inl (g o j x.toNatClampNeg) :: r) g else none
      | none => none) = _
  rw [h]; dsimp only; rw [am_go_if]; rfl
theorem ax_iast (o j n : Nat) (x v : Int32) (h : am_al o j = some (0, n)) : am_ex C k (some (.iastore, a, b, c)) pc L (.inl v :: .inl x :: .inr (.inr (some (o, j))) :: r) g = if 0 ≤ x.toInt ∧ x.toInt < n then am_ev C k (pc + 1) L r (wr g o j x.toNatClampNeg v) else none := by
  show am_go C k pc L g (match am_al o j with
      | some (k, n) => if k = 0 ∧ 0 ≤ x.toInt ∧ x.toInt < (n : Int) then am_nx (pc + 1) L r (wr g o j x.toNatClampNeg v) else none
      | none => none) = _
  rw [h]; dsimp only; rw [am_go_if]; simp only [true_and]; rfl
theorem ax_bald (o j n : Nat) (x : Int32) (h : am_al o j = some (1, n)) : am_ex C k (some (.baload, a, b, c)) pc L (.inl x :: .inr (.inr (some (o, j))) :: r) g = if 0 ≤ x.toInt ∧ x.toInt < n then am_ev C k (pc + 1) L (.inl (g o j x.toNatClampNeg) :: r) g else none := by
  show am_go C k pc L g (match am_al o j with
      | some (k, n) => if k = 1 ∧ 0 ≤ x.toInt ∧ x.toInt < (n : Int) then am_nx (pc + 1) L (.inl (g o j x.toNatClampNeg) :: r) g else none
      | none => none) = _
  rw [h]; dsimp only; rw [am_go_if]; simp only [true_and]; rfl
theorem ax_bast (o j n : Nat) (x v : Int32) (h : am_al o j = some (1, n)) (hv : v = 0 ∨ v = 1) : am_ex C k (some (.bastore, a, b, c)) pc L (.inl v :: .inl x :: .inr (.inr (some (o, j))) :: r) g = if 0 ≤ x.toInt ∧ x.toInt < n then am_ev C k (pc + 1) L r (wr g o j x.toNatClampNeg v) else none := by
  show am_go C k pc L g (match am_al o j with
      | some (k, n) => if k = 1 ∧ (0 ≤ x.toInt ∧ x.toInt < (n : Int)) ∧ (v = 0 ∨ v = 1) then am_nx (pc + 1) L r (wr g o j x.toNatClampNeg v) else none
      | none => none) = _
  rw [h]; dsimp only; rw [am_go_if]; simp only [true_and, hv, and_true]; rfl
theorem ax_aald (o j n : Nat) (x : Int32) (h : am_al o j = some (2, n)) : am_ex C k (some (.aaload, a, b, c)) pc L (.inl x :: .inr (.inr (some (o, j))) :: r) g = if 0 ≤ x.toInt ∧ x.toInt < n then am_ev C k (pc + 1) L (.inr (.inr (some (8 + x.toNatClampNeg, 0))) :: r) g else none := by
  show am_go C k pc L g (match am_al o j with
      | some (k, n) => if k = 2 ∧ 0 ≤ x.toInt ∧ x.toInt < (n : Int) then am_nx (pc + 1) L (.inr (.inr (some (8 + x.toNatClampNeg, 0))) :: r) g else none
      | none => none) = _
  rw [h]; dsimp only; rw [am_go_if]; simp only [true_and]; rfl
/-- ends -/
theorem ax_iret (v : Int32) : am_ex C k (some (.ireturn, 1, b, c)) pc L [.inl v] g = some (some (.inl v), g) := rfl
theorem ax_zret (v : Int32) (h : v = 0 ∨ v = 1) : am_ex C k (some (.ireturn, 2, b, c)) pc L [.inl v] g = some (some (.inl v), g) := by
  show am_go C k pc L g (if (2 : Nat) = 1 ∨ ((2 : Nat) = 2 ∧ (v = 0 ∨ v = 1)) then _ else none) = _
  rw [if_pos (Or.inr ⟨rfl, h⟩)]; rfl
theorem ax_lret (v : Int64) : am_ex C k (some (.lreturn, 3, b, c)) pc L [.inr (.inl v)] g = some (some (.inr (.inl v)), g) := rfl
theorem ax_aret (v : Option (Nat × Nat)) : am_ex C k (some (.areturn, 4, b, c)) pc L [.inr (.inr v)] g = some (some (.inr (.inr v)), g) := rfl
theorem ax_vret : am_ex C k (some (.return_, 0, b, c)) pc L [] g = some (none, g) := rfl
/-- a call: behind it -/
noncomputable def am_cq (C : Nat → List AV → SG → Option RE) (k pc : Nat) (L : LO) (rest : List AV) (o : Option RE) : Option RE := match o with
  | none => none
  | some (r, g') => am_ev C k pc L (r.toList ++ rest) g'
theorem am_cq_i (v : AV) : am_cq C k pc L r (some (some v, g)) = am_ev C k pc L (v :: r) g := rfl
theorem am_cq_v : am_cq C k pc L r (some (none, g)) = am_ev C k pc L r g := rfl
theorem ax_call {i : Instr} (hi : (∃ n, i = .invokevirtual n) ∨ ∃ n, i = .invokestatic n) (h : b ≤ st.length ∧ (st.drop b).length ≤ 4) : am_ex C k (some (i, a, b, c)) pc L st g = am_cq C k (pc + 3) L (st.drop b) (C a (st.take b).reverse g) := by
  have e : am_st i a b c pc L st g = some (.inr (.inr (a, (st.take b).reverse, st.drop b))) := by
    rcases hi with ⟨n, rfl⟩ | ⟨n, rfl⟩ <;> exact if_pos h
  show am_go C k pc L g (am_st i a b c pc L st g) = _
  rw [e]
  unfold am_go am_cq
  dsimp only
  cases C a (st.take b).reverse g <;> rfl
theorem ax_v1 (n : Nat) (x1 : AV) (h : r.length ≤ 4) : am_ex C k (some (.invokevirtual n, a, 1, c)) pc L (x1 :: r) g = am_cq C k (pc + 3) L r (C a [x1] g) := ax_call C k a 1 c pc L (x1 :: r) g (Or.inl ⟨_, rfl⟩) ⟨by simp, h⟩
theorem ax_v2 (n : Nat) (x1 x2 : AV) (h : r.length ≤ 4) : am_ex C k (some (.invokevirtual n, a, 2, c)) pc L (x2 :: x1 :: r) g = am_cq C k (pc + 3) L r (C a [x1, x2] g) := ax_call C k a 2 c pc L (x2 :: x1 :: r) g (Or.inl ⟨_, rfl⟩) ⟨by simp, h⟩
theorem ax_v3 (n : Nat) (x1 x2 x3 : AV) (h : r.length ≤ 4) : am_ex C k (some (.invokevirtual n, a, 3, c)) pc L (x3 :: x2 :: x1 :: r) g = am_cq C k (pc + 3) L r (C a [x1, x2, x3] g) := ax_call C k a 3 c pc L (x3 :: x2 :: x1 :: r) g (Or.inl ⟨_, rfl⟩) ⟨by simp, h⟩
theorem ax_v4 (n : Nat) (x1 x2 x3 x4 : AV) (h : r.length ≤ 4) : am_ex C k (some (.invokevirtual n, a, 4, c)) pc L (x4 :: x3 :: x2 :: x1 :: r) g = am_cq C k (pc + 3) L r (C a [x1, x2, x3, x4] g) := ax_call C k a 4 c pc L (x4 :: x3 :: x2 :: x1 :: r) g (Or.inl ⟨_, rfl⟩) ⟨by simp, h⟩
theorem ax_v5 (n : Nat) (x1 x2 x3 x4 x5 : AV) (h : r.length ≤ 4) : am_ex C k (some (.invokevirtual n, a, 5, c)) pc L (x5 :: x4 :: x3 :: x2 :: x1 :: r) g = am_cq C k (pc + 3) L r (C a [x1, x2, x3, x4, x5] g) := ax_call C k a 5 c pc L (x5 :: x4 :: x3 :: x2 :: x1 :: r) g (Or.inl ⟨_, rfl⟩) ⟨by simp, h⟩
theorem ax_v6 (n : Nat) (x1 x2 x3 x4 x5 x6 : AV) (h : r.length ≤ 4) : am_ex C k (some (.invokevirtual n, a, 6, c)) pc L (x6 :: x5 :: x4 :: x3 :: x2 :: x1 :: r) g = am_cq C k (pc + 3) L r (C a [x1, x2, x3, x4, x5, x6] g) := ax_call C k a 6 c pc L (x6 :: x5 :: x4 :: x3 :: x2 :: x1 :: r) g (Or.inl ⟨_, rfl⟩) ⟨by simp, h⟩
theorem ax_c1 (n : Nat) (x1 : AV) (h : r.length ≤ 4) : am_ex C k (some (.invokestatic n, a, 1, c)) pc L (x1 :: r) g = am_cq C k (pc + 3) L r (C a [x1] g) := ax_call C k a 1 c pc L (x1 :: r) g (Or.inr ⟨_, rfl⟩) ⟨by simp, h⟩
theorem ax_c2 (n : Nat) (x1 x2 : AV) (h : r.length ≤ 4) : am_ex C k (some (.invokestatic n, a, 2, c)) pc L (x2 :: x1 :: r) g = am_cq C k (pc + 3) L r (C a [x1, x2] g) := ax_call C k a 2 c pc L (x2 :: x1 :: r) g (Or.inr ⟨_, rfl⟩) ⟨by simp, h⟩
theorem ax_c3 (n : Nat) (x1 x2 x3 : AV) (h : r.length ≤ 4) : am_ex C k (some (.invokestatic n, a, 3, c)) pc L (x3 :: x2 :: x1 :: r) g = am_cq C k (pc + 3) L r (C a [x1, x2, x3] g) := ax_call C k a 3 c pc L (x3 :: x2 :: x1 :: r) g (Or.inr ⟨_, rfl⟩) ⟨by simp, h⟩
theorem ax_c5 (n : Nat) (x1 x2 x3 x4 x5 : AV) (h : r.length ≤ 4) : am_ex C k (some (.invokestatic n, a, 5, c)) pc L (x5 :: x4 :: x3 :: x2 :: x1 :: r) g = am_cq C k (pc + 3) L r (C a [x1, x2, x3, x4, x5] g) := ax_call C k a 5 c pc L (x5 :: x4 :: x3 :: x2 :: x1 :: r) g (Or.inr ⟨_, rfl⟩) ⟨by simp, h⟩
end
theorem am_cl_s (d y : Nat) (as : List AV) (g : SG) (m : am_MI) (hy : ¬ 996 ≤ y) (hm : am_mi y = some m) (h : am_ok m as = true) : am_cl (d + 1) y as g = am_ev (am_cl d) y 0 (am_en m.2.2.1 as) [] g := by
  rw [am_cl, if_neg hy, hm]
  dsimp only
  rw [if_pos h]
theorem cn_abs (d : Nat) (x : Int32) (g : SG) : am_cl (d + 1) 996 [.inl x] g = some (some (.inl (if 0 ≤ x then x else 0 - x)), g) := rfl
theorem cn_max (d : Nat) (x z : Int32) (g : SG) : am_cl (d + 1) 997 [.inl x, .inl z] g = some (some (.inl (if x < z then z else x)), g) := rfl
theorem cn_min (d : Nat) (x z : Int32) (g : SG) : am_cl (d + 1) 998 [.inl x, .inl z] g = some (some (.inl (if z < x then z else x)), g) := rfl
theorem cn_cp (d : Nat) (as : List AV) (g : SG) : am_cl (d + 1) 999 as g = am_cp as g := rfl
