/-! ===== a small machine over the fixed cells of the system: numbers alone move ===== -/
abbrev AV : Type := Int32 ⊕ Int64 ⊕ Option (Nat × Nat)
abbrev SG : Type := Nat → Nat → Nat → Int32
abbrev LO : Type := List (Option AV)
abbrev FR : Type := Nat × LO × List AV × SG
abbrev RE : Type := Option AV × SG
abbrev FT : Type := Instr × Nat × Nat × Nat
abbrev ST : Type := FR ⊕ Option AV ⊕ (Nat × List AV × List AV)
def wr (g : SG) (o j i : Nat) (v : Int32) : SG := fun a b c => if a = o ∧ b = j ∧ c = i then v else g a b c
/-- the number of the kind of an object -/
def am_co (o : Nat) : Option Nat := am_clo[o]?
/-- the array that stands in a field: its sort (0 ints, 1 booleans, 2 objects, 3 ints to be read alone, 4 the script), its length -/
def am_al (o j : Nat) : Option (Nat × Nat) := match j with
  | 0 => none
  | j + 1 => if o = 13 then (if j = 0 then some (3, 3) else none) else if o = 14 then (if j = 0 then some (4, 0) else none) else match am_clo[o]? with
    | none => none
    | some c => match am_kt[c]? with
      | none => none
      | some r => match r[j]? with
        | none => none
        | some q => if q.1 = 2 then some (0, q.2) else if q.1 = 3 then some (1, q.2) else if q.1 = 5 then some (2, q.2) else none
def am_nx (pc : Nat) (L : LO) (st : List AV) (g : SG) : Option ST := some (.inl (pc, L, st, g))
def am_b2 (f : Int32 → Int32 → Int32) (pc : Nat) (L : LO) (st : List AV) (g : SG) : Option ST := match st with
  | .inl y :: .inl x :: r => am_nx (pc + 1) L (.inl (f x y) :: r) g
  | _ => none
def am_c2 (f : Int64 → Int64 → Int64) (pc : Nat) (L : LO) (st : List AV) (g : SG) : Option ST := match st with
  | .inr (.inl y) :: .inr (.inl x) :: r => am_nx (pc + 1) L (.inr (.inl (f x y)) :: r) g
  | _ => none
def am_b1 (f : Int32 → Int32) (pc : Nat) (L : LO) (st : List AV) (g : SG) : Option ST := match st with
  | .inl x :: r => am_nx (pc + 1) L (.inl (f x) :: r) g
  | _ => none
/-- loads, by the sort of the value: 0 an int, 1 a long, 2 a reference -/
def am_so (v : AV) : Nat := match v with
  | .inl _ => 0
  | .inr (.inl _) => 1
  | .inr (.inr _) => 2
def am_ld (q j len pc : Nat) (L : LO) (st : List AV) (g : SG) : Option ST := match L[j]? with
  | some (some v) => if am_so v = q then am_nx (pc + len) L (v :: st) g else none
  | _ => none
/-- no long stands just ahead of place j -/
def am_nl (L : LO) (j : Nat) : Bool := match j with
  | 0 => true
  | j + 1 => match L[j]? with
    | some (some (.inr (.inl _))) => false
    | _ => true
def am_s1 (q j len pc : Nat) (L : LO) (st : List AV) (g : SG) : Option ST := match st with
  | v :: r => if am_so v = q ∧ j < L.length ∧ am_nl L j = true then am_nx (pc + len) (L.set j (some v)) r g else none
  | _ => none
def am_s2 (j len pc : Nat) (L : LO) (st : List AV) (g : SG) : Option ST := match st with
  | .inr (.inl x) :: r => if j + 1 < L.length ∧ am_nl L j = true then am_nx (pc + len) ((L.set j (some (.inr (.inl x)))).set (j + 1) none) r g else none
  | _ => none
def am_br (c : Jvm.ClassFile.Cond) (x y : Int32) (t f : Nat) (L : LO) (st : List AV) (g : SG) : Option ST := match c with
  | .eq => if x = y then am_nx t L st g else am_nx f L st g
  | .ne => if x = y then am_nx f L st g else am_nx t L st g
  | .lt => if x < y then am_nx t L st g else am_nx f L st g
  | .ge => if y ≤ x then am_nx t L st g else am_nx f L st g
  | .gt => if y < x then am_nx t L st g else am_nx f L st g
  | .le => if x ≤ y then am_nx t L st g else am_nx f L st g
def am_tb (x lo : Int) : List Int → Option Int
  | [] => none
  | o :: os => if x = lo then some o else am_tb x (lo + 1) os
/-- what a load out of an array of ints finds: its length -/
def am_il (o j : Nat) (g : SG) : Option Int := match am_al o j with
  | some (k, n) => if k = 0 ∨ k = 3 then some (n : Int) else if k = 4 then some (g 14 0 0).toInt else none
  | none => none
def am_st (i : Instr) (a b c pc : Nat) (L : LO) (st : List AV) (g : SG) : Option ST := match i with
  | .aconst_null => am_nx (pc + 1) L (.inr (.inr none) :: st) g
  | .iconst n => am_nx (pc + 1) L (.inl (Int32.ofInt n) :: st) g
  | .bipush n => am_nx (pc + 2) L (.inl (Int8.ofInt n).toInt32 :: st) g
  | .sipush n => am_nx (pc + 3) L (.inl (Int16.ofInt n).toInt32 :: st) g
  | .ldc _ => am_nx (pc + 2) L (.inl (Int32.ofNat a) :: st) g
  | .ldc_w _ => am_nx (pc + 3) L (.inl (Int32.ofNat a) :: st) g
  | .ldc2_w _ => am_nx (pc + 3) L (.inr (.inl (Int64.ofNat a)) :: st) g
  | .iload j => am_ld 0 j 2 pc L st g
  | .iload_n j => am_ld 0 j 1 pc L st g
  | .lload j => am_ld 1 j 2 pc L st g
  | .lload_n j => am_ld 1 j 1 pc L st g
  | .aload j => am_ld 2 j 2 pc L st g
  | .aload_n j => am_ld 2 j 1 pc L st g
  | .istore j => am_s1 0 j 2 pc L st g
  | .istore_n j => am_s1 0 j 1 pc L st g
  | .astore j => am_s1 2 j 2 pc L st g
  | .astore_n j => am_s1 2 j 1 pc L st g
  | .lstore j => am_s2 j 2 pc L st g
  | .lstore_n j => am_s2 j 1 pc L st g
  | .iinc j n => match L[j]? with
    | some (some (.inl x)) => if am_nl L j = true then am_nx (pc + 3) (L.set j (some (.inl (x + Int32.ofInt n)))) st g else none
    | _ => none
  | .iadd => am_b2 (fun x y => x + y) pc L st g
  | .isub => am_b2 (fun x y => x - y) pc L st g
  | .imul => am_b2 (fun x y => x * y) pc L st g
  | .iand => am_b2 (fun x y => x &&& y) pc L st g
  | .ior => am_b2 (fun x y => x ||| y) pc L st g
  | .ixor => am_b2 (fun x y => x ^^^ y) pc L st g
  | .ishl => am_b2 (fun x y => x <<< (y &&& 31)) pc L st g
  | .ishr => am_b2 (fun x y => x >>> (y &&& 31)) pc L st g
  | .iushr => am_b2 (fun x y => (x.toUInt32 >>> (y.toUInt32 &&& Int32.toUInt32 31)).toInt32) pc L st g
  | .idiv => match st with
    | .inl y :: .inl x :: r => if y = 0 then none else am_nx (pc + 1) L (.inl (x / y) :: r) g
    | _ => none
  | .irem => match st with
    | .inl y :: .inl x :: r => if y = 0 then none else am_nx (pc + 1) L (.inl (x - x / y * y) :: r) g
    | _ => none
  | .ineg => am_b1 (fun x => -x) pc L st g
  | .i2b => am_b1 (fun x => x.toInt8.toInt32) pc L st g
  | .i2s => am_b1 (fun x => x.toInt16.toInt32) pc L st g
  | .i2l => match st with
    | .inl x :: r => am_nx (pc + 1) L (.inr (.inl x.toInt64) :: r) g
    | _ => none
  | .ladd => am_c2 (fun x y => x + y) pc L st g
  | .lmul => am_c2 (fun x y => x * y) pc L st g
  | .lcmp => match st with
    | .inr (.inl y) :: .inr (.inl x) :: r => am_nx (pc + 1) L (.inl (lg_cmp x y) :: r) g
    | _ => none
  | .dup => match st with
    | v :: r => if am_so v = 1 then none else am_nx (pc + 1) L (v :: v :: r) g
    | _ => none
  | .dup2 => match st with
    | v :: w :: r => if am_so v = 1 ∨ am_so w = 1 then none else am_nx (pc + 1) L (v :: w :: v :: w :: r) g
    | _ => none
  | .pop => match st with
    | v :: r => if am_so v = 1 then none else am_nx (pc + 1) L r g
    | _ => none
  | .ifCond q _ => match st with
    | .inl x :: r => am_br q x 0 a (pc + 3) L r g
    | _ => none
  | .if_icmp q _ => match st with
    | .inl y :: .inl x :: r => am_br q x y a (pc + 3) L r g
    | _ => none
  | .goto _ => am_nx a L st g
  | .ifnull _ => match st with
    | .inr (.inr none) :: r => am_nx a L r g
    | .inr (.inr (some _)) :: r => am_nx (pc + 3) L r g
    | _ => none
  | .ifnonnull _ => match st with
    | .inr (.inr none) :: r => am_nx (pc + 3) L r g
    | .inr (.inr (some _)) :: r => am_nx a L r g
    | _ => none
  | .tableswitch dflt lo _ offs => match st with
    | .inl x :: r => match am_tb x.toInt lo offs.toList with
      | some t => am_nx t.toNat L r g
      | none => am_nx dflt.toNat L r g
    | _ => none
  | .getfield _ => match st with
    | .inr (.inr (some (o, 0))) :: r => if am_co o = some a then am_nx (pc + 3) L ((match c with
      | 0 => .inl (g o 0 b)
      | 1 => .inr (.inr (some (o, b + 1)))
      | k + 2 => .inr (.inr (some (k, 0)))) :: r) g else none
    | _ => none
  | .putfield _ => match st with
    | .inl v :: .inr (.inr (some (o, 0))) :: r => if am_co o = some a ∧ (c = 0 ∨ (c = 1 ∧ (v = 0 ∨ v = 1))) then am_nx (pc + 3) L r (wr g o 0 b v) else none
    | _ => none
  | .getstatic _ => am_nx (pc + 3) L (.inr (.inr (some (13, 1))) :: st) g
  | .arraylength => match st with
    | .inr (.inr (some (o, j))) :: r => match am_al o j with
      | some (k, n) => if k = 4 then am_nx (pc + 1) L (.inl (g 14 0 0) :: r) g else am_nx (pc + 1) L (.inl (Int32.ofNat n) :: r) g
      | none => none
    | _ => none
  | .iaload => match st with
    | .inl x :: .inr (.inr (some (o, j))) :: r => match am_il o j g with
      | some n => if 0 ≤ x.toInt ∧ x.toInt < n then am_nx (pc + 1) L (.inl (g o j x.toNatClampNeg) :: r) g else none
      | none => none
    | _ => none
  | .iastore => match st with
    | .inl v :: .inl x :: .inr (.inr (some (o, j))) :: r => match am_al o j with
      | some (k, n) => if k = 0 ∧ 0 ≤ x.toInt ∧ x.toInt < (n : Int) then am_nx (pc + 1) L r (wr g o j x.toNatClampNeg v) else none
      | none => none
    | _ => none
  | .baload => match st with
    | .inl x :: .inr (.inr (some (o, j))) :: r => match am_al o j with
      | some (k, n) => if k = 1 ∧ 0 ≤ x.toInt ∧ x.toInt < (n : Int) then am_nx (pc + 1) L (.inl (g o j x.toNatClampNeg) :: r) g else none
      | none => none
    | _ => none
  | .bastore => match st with
    | .inl v :: .inl x :: .inr (.inr (some (o, j))) :: r => match am_al o j with
      | some (k, n) => if k = 1 ∧ (0 ≤ x.toInt ∧ x.toInt < (n : Int)) ∧ (v = 0 ∨ v = 1) then am_nx (pc + 1) L r (wr g o j x.toNatClampNeg v) else none
      | none => none
    | _ => none
  | .aaload => match st with
    | .inl x :: .inr (.inr (some (o, j))) :: r => match am_al o j with
      | some (k, n) => if k = 2 ∧ 0 ≤ x.toInt ∧ x.toInt < (n : Int) then am_nx (pc + 1) L (.inr (.inr (some (8 + x.toNatClampNeg, 0))) :: r) g else none
      | none => none
    | _ => none
  | .ireturn => match st with
    | [.inl v] => if a = 1 ∨ (a = 2 ∧ (v = 0 ∨ v = 1)) then some (.inr (.inl (some (.inl v)))) else none
    | _ => none
  | .lreturn => match st with
    | [.inr (.inl v)] => if a = 3 then some (.inr (.inl (some (.inr (.inl v))))) else none
    | _ => none
  | .areturn => match st with
    | [.inr (.inr v)] => if a = 4 then some (.inr (.inl (some (.inr (.inr v))))) else none
    | _ => none
  | .return_ => match st with
    | [] => if a = 0 then some (.inr (.inl none)) else none
    | _ => none
  | .invokevirtual _ => if b ≤ st.length ∧ (st.drop b).length ≤ 4 then some (.inr (.inr (a, (st.take b).reverse, st.drop b))) else none
  | .invokestatic _ => if b ≤ st.length ∧ (st.drop b).length ≤ 4 then some (.inr (.inr (a, (st.take b).reverse, st.drop b))) else none
  | _ => none
/-- the length of an instruction, as the rows of the kit have it -/
def am_ln (i : Instr) : Nat := match i with
  | .bipush _ | .ldc _ | .iload _ | .lload _ | .aload _ | .istore _ | .lstore _ | .astore _ => 2
  | .sipush _ | .ldc_w _ | .ldc2_w _ | .iinc _ _ | .ifCond _ _ | .if_icmp _ _ | .goto _ | .ifnull _ | .ifnonnull _ | .getfield _ | .putfield _ | .getstatic _ | .invokevirtual _ | .invokestatic _ => 3
  | _ => 1
def am_tg (pc : Nat) (off : Int) : Option (Nat × Nat × Nat) := if 0 ≤ (pc : Int) + off then some (((pc : Int) + off).toNat, 0, 0) else none
def am_fk (q : Nat × Nat) : Nat := if q.1 ≤ 1 then 0 else if q.1 = 4 then q.2 + 2 else 1
/-- the places that an instruction names: a field, a callee, a target, a number -/
def am_rs (own : Nat) (ret : Option FieldType) (pc : Nat) (i : Instr) : Option (Nat × Nat × Nat) := match i with
  | .ldc ix | .ldc_w ix => (am_cls.find? (fun r => r.1 == own && r.2.1 == ix)).map (fun r => (r.2.2.1, 0, 0))
  | .ldc2_w ix => (am_lls.find? (fun r => r.1 == own && r.2.1 == ix)).map (fun r => (r.2.2.1, 0, 0))
  | .ifCond _ off | .if_icmp _ off | .goto off | .ifnull off | .ifnonnull off => am_tg pc off
  | .getfield ix => match am_fls.find? (fun r => r.1 == own && r.2.1 == ix) with
    | some r => match am_kt[r.2.2.1]? with
      | some q => (q[r.2.2.2.1]?).map (fun z => (r.2.2.1, r.2.2.2.1, am_fk z))
      | none => none
    | none => none
  | .putfield ix => match am_fls.find? (fun r => r.1 == own && r.2.1 == ix) with
    | some r => match am_kt[r.2.2.1]? with
      | some q => match q[r.2.2.2.1]? with
        | some z => if z.1 ≤ 1 then some (r.2.2.1, r.2.2.2.1, z.1) else none
        | none => none
      | none => none
    | none => none
  | .getstatic ix => if own = 5 ∧ ix = am_gix then some (0, 0, 0) else none
  | .invokevirtual ix => match am_vls.find? (fun r => r.1 == own && r.2.1 == ix) with
    | some r => match am_mts[r.2.2.1]? with
      | some y => some (r.2.2.1, y.2.2.2.2.2.2 + 1, 0)
      | none => none
    | none => none
  | .invokestatic ix => match am_nls.find? (fun r => r.1 == own && r.2.1 == ix) with
    | some r => some (r.2.2.1, r.2.2.2.1, 0)
    | none => match am_sls.find? (fun r => r.1 == own && r.2.1 == ix) with
      | some r => match am_mts[r.2.2.1]? with
        | some y => some (r.2.2.1, y.2.2.2.2.2.2, 0)
        | none => none
      | none => none
  | .ireturn => if ret = some .int then some (1, 0, 0) else if ret = some .boolean then some (2, 0, 0) else none
  | .lreturn => if ret = some .long then some (3, 0, 0) else none
  | .areturn => match ret with
    | some (.object _) => some (4, 0, 0)
    | _ => none
  | .return_ => if ret = none then some (0, 0, 0) else none
  | _ => some (0, 0, 0)
/-- jumps of a table, as places -/
def am_ab (pc : Nat) (i : Instr) : Option Instr := match i with
  | .tableswitch dflt lo hi offs => if 0 ≤ (pc : Int) + dflt ∧ hi = lo + offs.size - 1 ∧ offs.toList.all (fun q => decide (0 ≤ (pc : Int) + q)) = true then some (.tableswitch ((pc : Int) + dflt) lo hi (offs.map (fun q => (pc : Int) + q))) else none
  | i => some i
def am_dc (code : ByteArray) (own : Nat) (ret : Option FieldType) (pc : Nat) : Option FT := match decode code pc with
  | .ok (i, len) => match am_ab pc i with
    | none => none
    | some i' => match am_rs own ret pc i with
      | none => none
      | some (a, b, c) => match i with
        | .tableswitch _ _ _ _ => some (i', a, b, c)
        | _ => if len = am_ln i then some (i', a, b, c) else none
  | _ => none
/-- the row of a method: 195 .. are the class's and the reference's, one more is the law's body -/
def am_mi (k : Nat) : Option am_MI := if k = 900 then some (x, code, 4, some .boolean, am_own_law, true, 1) else am_mts[k]?
def am_ft (k pc : Nat) : Option FT := match am_mi k with
  | some m => am_dc m.2.1 m.2.2.2.2.1 m.2.2.2.1 pc
  | none => none
def am_rn (C : Nat → List AV → SG → Option RE) (k : Nat) : Nat → Nat → LO → List AV → SG → Option RE
  | 0, _, _, _, _ => none
  | n + 1, pc, L, st, g => match am_ft k pc with
    | none => none
    | some (i, a, b, c) => match am_st i a b c pc L st g with
      | none => none
      | some (.inl (pc', L', st', g')) => am_rn C k n pc' L' st' g'
      | some (.inr (.inl r)) => some (r, g)
      | some (.inr (.inr (y, as, rest))) => match C y as g with
        | none => none
        | some (r, g') => am_rn C k n (pc + 3) L (r.toList ++ rest) g'
theorem am_rn_s (C : Nat → List AV → SG → Option RE) (k : Nat) : ∀ (n pc : Nat) (L : LO) (st : List AV) (g : SG) (o : RE), am_rn C k n pc L st g = some o → am_rn C k (n + 1) pc L st g = some o := by
  intro n
  induction n with
  | zero => intro pc L st g o h; simp [am_rn] at h
  | succ n ih =>
    intro pc L st g o h
    rw [am_rn] at h ⊢
    cases hf : am_ft k pc with
    | none => rw [hf] at h; simp at h
    | some q =>
      obtain ⟨i, a, b, c⟩ := q
      rw [hf] at h
      dsimp only at h ⊢
      cases hs : am_st i a b c pc L st g with
      | none => rw [hs] at h; simp at h
      | some z =>
        rw [hs] at h
        rcases z with ⟨pc', L', st', g'⟩ | r | ⟨y, as, rest⟩
        · exact ih _ _ _ _ _ h
        · exact h
        · dsimp only at h ⊢
          cases hc : C y as g with
          | none => rw [hc] at h; simp at h
          | some w =>
            rw [hc] at h
            exact ih _ _ _ _ _ h
theorem am_rn_le (C : Nat → List AV → SG → Option RE) (k : Nat) {n m pc : Nat} {L : LO} {st : List AV} {g : SG} {o : RE} (hm : n ≤ m) (h : am_rn C k n pc L st g = some o) : am_rn C k m pc L st g = some o := by
  obtain ⟨d, rfl⟩ := Nat.le.dest hm
  clear hm
  induction d with
  | zero => exact h
  | succ d ih => exact am_rn_s C k (n + d) pc L st g o ih
noncomputable def am_ev (C : Nat → List AV → SG → Option RE) (k pc : Nat) (L : LO) (st : List AV) (g : SG) : Option RE :=
  @dite _ (∃ n o, am_rn C k n pc L st g = some o) (Classical.propDecidable _) (fun h => am_rn C k (Classical.choose h) pc L st g) (fun _ => none)
theorem am_ev_iff (C : Nat → List AV → SG → Option RE) (k pc : Nat) (L : LO) (st : List AV) (g : SG) (o : RE) : am_ev C k pc L st g = some o ↔ ∃ n, am_rn C k n pc L st g = some o := by
  unfold am_ev
  by_cases h : ∃ n o, am_rn C k n pc L st g = some o
  · rw [dif_pos h]
    obtain ⟨o', h'⟩ := Classical.choose_spec h
    constructor
    · intro e; exact ⟨_, e⟩
    · rintro ⟨n, e⟩
      have e1 := am_rn_le C k (Nat.le_max_left n (Classical.choose h)) e
      have e2 := am_rn_le C k (Nat.le_max_right n (Classical.choose h)) h'
      rw [e1] at e2
      rw [h']; exact e2.symm
  · rw [dif_neg h]
    constructor
    · intro e; cases e
    · rintro ⟨n, e⟩; exact absurd ⟨n, o, e⟩ h
theorem am_ext {a b : Option RE} (h : ∀ o, a = some o ↔ b = some o) : a = b := by
  cases a with
  | none => cases b with
    | none => rfl
    | some y => exact ((h y).mpr rfl)
  | some x => exact ((h x).mp rfl).symm
/-- what comes of a step -/
noncomputable def am_go (C : Nat → List AV → SG → Option RE) (k pc : Nat) (L : LO) (g : SG) (z : Option ST) : Option RE := match z with
  | none => none
  | some (.inl (pc', L', st', g')) => am_ev C k pc' L' st' g'
  | some (.inr (.inl r)) => some (r, g)
  | some (.inr (.inr (y, as, rest))) => match C y as g with
    | none => none
    | some (r, g') => am_ev C k (pc + 3) L (r.toList ++ rest) g'
noncomputable def am_ex (C : Nat → List AV → SG → Option RE) (k : Nat) (f : Option FT) (pc : Nat) (L : LO) (st : List AV) (g : SG) : Option RE := match f with
  | none => none
  | some (i, a, b, c) => am_go C k pc L g (am_st i a b c pc L st g)
theorem am_ev_ft (C : Nat → List AV → SG → Option RE) (k pc : Nat) (L : LO) (st : List AV) (g : SG) : am_ev C k pc L st g = am_ex C k (am_ft k pc) pc L st g := by
  apply am_ext
  intro o
  rw [am_ev_iff]
  unfold am_ex am_go
  constructor
  · rintro ⟨n, h⟩
    cases n with
    | zero => simp [am_rn] at h
    | succ n =>
      rw [am_rn] at h
      cases hf : am_ft k pc with
      | none => rw [hf] at h; simp at h
      | some q =>
        obtain ⟨i, a, b, c⟩ := q
        rw [hf] at h
        dsimp only at h ⊢
        cases hs : am_st i a b c pc L st g with
        | none => rw [hs] at h; simp at h
        | some z =>
          rw [hs] at h
          rcases z with ⟨pc', L', st', g'⟩ | r | ⟨y, as, rest⟩
          · exact (am_ev_iff _ _ _ _ _ _ _).mpr ⟨n, h⟩
          · exact h
          · dsimp only at h ⊢
            cases hc : C y as g with
            | none => rw [hc] at h; simp at h
            | some w =>
              rw [hc] at h
              exact (am_ev_iff _ _ _ _ _ _ _).mpr ⟨n, h⟩
  · intro h
    cases hf : am_ft k pc with
    | none => rw [hf] at h; simp at h
    | some q =>
      obtain ⟨i, a, b, c⟩ := q
      rw [hf] at h
      dsimp only at h
      cases hs : am_st i a b c pc L st g with
      | none => rw [hs] at h; simp at h
      | some z =>
        rw [hs] at h
        rcases z with ⟨pc', L', st', g'⟩ | r | ⟨y, as, rest⟩
        · obtain ⟨n, hn⟩ := (am_ev_iff _ _ _ _ _ _ _).mp h
          exact ⟨n + 1, by rw [am_rn, hf]; dsimp only; rw [hs]; exact hn⟩
        · exact ⟨1, by rw [am_rn, hf]; dsimp only; rw [hs]; exact h⟩
        · dsimp only at h
          cases hc : C y as g with
          | none => rw [hc] at h; simp at h
          | some w =>
            rw [hc] at h
            obtain ⟨n, hn⟩ := (am_ev_iff _ _ _ _ _ _ _).mp h
            exact ⟨n + 1, by rw [am_rn, hf]; dsimp only; rw [hs]; dsimp only; rw [hc]; exact hn⟩
/-- the locals with which a method begins -/
def am_fl : List AV → LO
  | [] => []
  | .inr (.inl x) :: r => some (.inr (.inl x)) :: none :: am_fl r
  | v :: r => some v :: am_fl r
def am_en (n : Nat) (as : List AV) : LO := am_fl as ++ List.replicate (n - (am_fl as).length) none
def am_ok (m : am_MI) (as : List AV) : Bool := decide ((am_fl as).length ≤ m.2.2.1) && match m.2.2.2.2.2.1 with
  | true => decide (as.length = m.2.2.2.2.2.2)
  | false => match as with
    | .inr (.inr (some (o, 0))) :: r => decide (am_co o = some m.2.2.2.2.1) && decide (r.length = m.2.2.2.2.2.2)
    | _ => false
/-- the library's copying of a row of ints -/
def am_cp (as : List AV) (g : SG) : Option RE := match as with
  | [.inr (.inr (some (o, j))), .inl sp, .inr (.inr (some (u, v))), .inl dp, .inl n] => match am_al o j, am_al u v with
    | some (k0, n0), some (k1, n1) => if k0 = 0 ∧ k1 = 0 ∧ 0 ≤ sp.toInt ∧ 0 ≤ dp.toInt ∧ 0 ≤ n.toInt ∧ sp.toInt + n.toInt ≤ n0 ∧ dp.toInt + n.toInt ≤ n1 then
        some (none, fun a b c => if a = u ∧ b = v then va_cpy (g o j) (g u v) sp.toNatClampNeg dp.toNatClampNeg n.toNatClampNeg c else g a b c) else none
    | _, _ => none
  | _ => none
/-- the library's own members: abs, max, min, arraycopy -/
def am_na (y : Nat) (as : List AV) (g : SG) : Option RE := if y = 999 then am_cp as g else match as with
  | [.inl x] => if y = 996 then some (some (.inl (if 0 ≤ x then x else 0 - x)), g) else none
  | [.inl x, .inl z] => if y = 997 then some (some (.inl (if x < z then z else x)), g) else if y = 998 then some (some (.inl (if z < x then z else x)), g) else none
  | _ => none
noncomputable def am_cl : Nat → Nat → List AV → SG → Option RE
  | 0, _, _, _ => none
  | d + 1, y, as, g => if 996 ≤ y then am_na y as g else match am_mi y with
    | none => none
    | some m => if am_ok m as = true then am_ev (am_cl d) y 0 (am_en m.2.2.1 as) [] g else none
