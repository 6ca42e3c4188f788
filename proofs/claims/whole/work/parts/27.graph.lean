/-! ===== what is after what: steps, paths, rings ===== -/
theorem pcn_sub {X Y : Nat} (h : ∀ k, X.testBit k = true → Y.testBit k = true) : ∀ m, pcn X m ≤ pcn Y m
  | 0 => Nat.le_refl 0
  | m + 1 => by
    have ih := pcn_sub h m
    show pcn X m + (if X.testBit m then 1 else 0) ≤ pcn Y m + (if Y.testBit m then 1 else 0)
    cases hx : X.testBit m with
    | false => simp; omega
    | true => rw [h m hx]; simp; omega
theorem pcn_slt {X Y : Nat} (h : ∀ k, X.testBit k = true → Y.testBit k = true) {j : Nat} (hy : Y.testBit j = true) (hx : X.testBit j = false) : ∀ m, j < m → pcn X m < pcn Y m
  | 0, hj => absurd hj (Nat.not_lt_zero j)
  | m + 1, hj => by
    show pcn X m + (if X.testBit m then 1 else 0) < pcn Y m + (if Y.testBit m then 1 else 0)
    by_cases e : j = m
    · subst e
      have := pcn_sub h j
      rw [hy, hx]; simp; omega
    · have ih := pcn_slt h hy hx m (by omega)
      cases hx2 : X.testBit m with
      | false => simp; omega
      | true => rw [h m hx2]; simp; omega
theorem pc_slt {X Y : Nat} (h : ∀ k, X.testBit k = true → Y.testBit k = true) {j : Nat} (hj : j < 10) (hy : Y.testBit j = true) (hx : X.testBit j = false) : pc X < pc Y := pcn_slt h hy hx 10 hj
theorem pc_mon {X Y : Nat} (h : ∀ k, X.testBit k = true → Y.testBit k = true) : pc X ≤ pc Y := pcn_sub h 10
theorem tb_lt {X j : Nat} (hX : X < 1024) (h : X.testBit j = true) : j < 10 := by
  by_cases e : j < 10
  · exact e
  · have : X.testBit j = false := Nat.testBit_lt_two_pow (Nat.lt_of_lt_of_le hX (show 2 ^ 10 ≤ 2 ^ j from Nat.pow_le_pow_right (by decide) (by omega)))
    rw [this] at h; cases h
theorem pc_eqs {X Y : Nat} (h : ∀ k, X.testBit k = true → Y.testBit k = true) (hY : Y < 1024) (he : pc Y ≤ pc X) : X = Y := by
  apply Nat.eq_of_testBit_eq
  intro i
  cases hx : X.testBit i with
  | true => rw [h i hx]
  | false =>
    cases hy : Y.testBit i with
    | false => rfl
    | true =>
      have := pc_slt h (tb_lt hY hy) hy hx
      omega
theorem pc_full {X : Nat} (h : 10 ≤ pc X) (i : Nat) (hi : i < 10) : X.testBit i = true := by
  cases hx : X.testBit i with
  | true => rfl
  | false =>
    have : ∀ m, i < m → pcn X m < m := by
      intro m
      induction m with
      | zero => intro z; omega
      | succ m ih =>
        intro z
        show pcn X m + (if X.testBit m then 1 else 0) < m + 1
        by_cases e : i = m
        · subst e
          have := pcn_le X i
          rw [hx]; simp; omega
        · have := ih (by omega)
          split <;> omega
    have := this 10 hi
    unfold pc at h
    omega
def orA (A : Nat → Nat) (S : Nat) : Nat → Nat
  | 0 => 0
  | m + 1 => if S.testBit m = true then orA A S m ||| A m else orA A S m
theorem orA_tb (A : Nat → Nat) (S k : Nat) : ∀ m, (orA A S m).testBit k = true ↔ ∃ w, w < m ∧ S.testBit w = true ∧ (A w).testBit k = true
  | 0 => by simp [orA]
  | m + 1 => by
    have ih := orA_tb A S k m
    unfold orA
    by_cases c : S.testBit m = true
    · rw [if_pos c, Nat.testBit_or, Bool.or_eq_true, ih]
      constructor
      · rintro (⟨w, h1, h2, h3⟩ | h)
        · exact ⟨w, by omega, h2, h3⟩
        · exact ⟨m, by omega, c, h⟩
      · rintro ⟨w, h1, h2, h3⟩
        by_cases e : w = m
        · exact Or.inr (e ▸ h3)
        · exact Or.inl ⟨w, by omega, h2, h3⟩
    · rw [if_neg c, ih]
      constructor
      · rintro ⟨w, h1, h2, h3⟩; exact ⟨w, by omega, h2, h3⟩
      · rintro ⟨w, h1, h2, h3⟩
        by_cases e : w = m
        · exact absurd (e ▸ h2) c
        · exact ⟨w, by omega, h2, h3⟩
def stp (A : Nat → Nat) (T S : Nat) : Nat := orA A S 10 &&& T
def ed (A : Nat → Nat) (T j k : Nat) : Prop := j < 10 ∧ (A j).testBit k = true ∧ T.testBit k = true
theorem stp_tb (A : Nat → Nat) (T S k : Nat) : (stp A T S).testBit k = true ↔ ∃ j, S.testBit j = true ∧ ed A T j k := by
  unfold stp
  rw [Nat.testBit_and, Bool.and_eq_true, orA_tb]
  constructor
  · rintro ⟨⟨w, h1, h2, h3⟩, h4⟩; exact ⟨w, h2, h1, h3, h4⟩
  · rintro ⟨w, h2, h1, h3, h4⟩; exact ⟨⟨w, h1, h2, h3⟩, h4⟩
theorem stp_lt (A : Nat → Nat) {T : Nat} (hT : T < 1024) (S : Nat) : stp A T S < 1024 := Nat.lt_of_le_of_lt Nat.and_le_right hT
def pt (A : Nat → Nat) (T : Nat) : Nat → Nat → Nat → Prop
  | 0, w, k => w = k
  | n + 1, w, k => ∃ j, pt A T n w j ∧ ed A T j k
def lv (A : Nat → Nat) (T S : Nat) : Nat → Nat
  | 0 => S
  | n + 1 => stp A T (lv A T S n)
theorem lvl_lt {A : Nat → Nat} {T S : Nat} (hT : T < 1024) (hS : S < 1024) : ∀ n, lv A T S n < 1024
  | 0 => hS
  | n + 1 => stp_lt A hT _
theorem lv_tb (A : Nat → Nat) (T S : Nat) : ∀ n k, (lv A T S n).testBit k = true ↔ ∃ w, S.testBit w = true ∧ pt A T n w k
  | 0, k => ⟨fun h => ⟨k, h, rfl⟩, fun ⟨w, h, e⟩ => by cases e; exact h⟩
  | n + 1, k => by
    show (stp A T (lv A T S n)).testBit k = true ↔ _
    rw [stp_tb]
    constructor
    · rintro ⟨j, h1, h2⟩
      obtain ⟨w, h3, h4⟩ := (lv_tb A T S n j).1 h1
      exact ⟨w, h3, j, h4, h2⟩
    · rintro ⟨w, h3, j, h4, h2⟩
      exact ⟨j, (lv_tb A T S n j).2 ⟨w, h3, h4⟩, h2⟩
theorem pt_cat {A : Nat → Nat} {T w j : Nat} {n : Nat} (h : pt A T n w j) : ∀ m k, pt A T m j k → pt A T (n + m) w k
  | 0, k, e => by cases e; exact h
  | m + 1, k, ⟨x, h1, h2⟩ => ⟨x, pt_cat h m x h1, h2⟩
theorem pt_one {A : Nat → Nat} {T w k : Nat} (h : ed A T w k) : pt A T 1 w k := ⟨w, rfl, h⟩
theorem pt_head {A : Nat → Nat} {T w : Nat} : ∀ n k, pt A T (n + 1) w k → ∃ j, ed A T w j ∧ pt A T n j k
  | 0, k, ⟨j, e, h⟩ => by cases e; exact ⟨k, h, rfl⟩
  | n + 1, k, ⟨j, h1, h2⟩ => by
    obtain ⟨x, h3, h4⟩ := pt_head n j h1
    exact ⟨x, h3, j, h4, h2⟩
theorem pt_pre {A : Nat → Nat} {T w : Nat} {n : Nat} : ∀ m k, pt A T (n + m) w k → ∃ j, pt A T n w j
  | 0, k, h => ⟨k, h⟩
  | m + 1, k, ⟨j, h, _⟩ => pt_pre m j h
def rq (A : Nat → Nat) (T w k : Nat) : Prop := ∃ n, pt A T (n + 1) w k
theorem rq_T {A : Nat → Nat} {T w k : Nat} (h : rq A T w k) : T.testBit k = true := by
  obtain ⟨n, j, _, h⟩ := h; exact h.2.2
theorem rq_cat {A : Nat → Nat} {T w j k : Nat} (h : rq A T w j) (h2 : rq A T j k) : rq A T w k := by
  obtain ⟨n, h⟩ := h
  obtain ⟨m, h2⟩ := h2
  exact ⟨n + 1 + m, pt_cat h (m + 1) k h2⟩
def rc (A : Nat → Nat) (T w : Nat) : Nat → Nat
  | 0 => stp A T (2 ^ w)
  | j + 1 => rc A T w j ||| stp A T (rc A T w j)
theorem rc_lt {A : Nat → Nat} {T : Nat} (hT : T < 1024) (w : Nat) : ∀ j, rc A T w j < 1024
  | 0 => stp_lt A hT _
  | j + 1 => Nat.or_lt_two_pow (n := 10) (rc_lt hT w j) (stp_lt A hT _)
theorem rc_tb (A : Nat → Nat) (T w : Nat) : ∀ j k, (rc A T w j).testBit k = true ↔ ∃ n, n ≤ j ∧ pt A T (n + 1) w k
  | 0, k => by
    show (stp A T (2 ^ w)).testBit k = true ↔ _
    rw [stp_tb]
    constructor
    · rintro ⟨j, h1, h2⟩
      rw [Nat.testBit_two_pow] at h1
      have e : w = j := by simpa using h1
      subst e
      exact ⟨0, Nat.le_refl 0, pt_one h2⟩
    · rintro ⟨n, h1, h2⟩
      obtain rfl : n = 0 := by omega
      obtain ⟨j, e, h3⟩ := h2
      cases e
      exact ⟨w, by rw [Nat.testBit_two_pow]; simp, h3⟩
  | j + 1, k => by
    show (rc A T w j ||| stp A T (rc A T w j)).testBit k = true ↔ _
    rw [Nat.testBit_or, Bool.or_eq_true, stp_tb, rc_tb A T w j k]
    constructor
    · rintro (⟨n, h1, h2⟩ | ⟨x, h1, h2⟩)
      · exact ⟨n, by omega, h2⟩
      · obtain ⟨n, h3, h4⟩ := (rc_tb A T w j x).1 h1
        exact ⟨n + 1, by omega, x, h4, h2⟩
    · rintro ⟨n, h1, h2⟩
      by_cases e : n ≤ j
      · exact Or.inl ⟨n, e, h2⟩
      · obtain rfl : n = j + 1 := by omega
        obtain ⟨x, h3, h4⟩ := h2
        exact Or.inr ⟨x, (rc_tb A T w j x).2 ⟨j, Nat.le_refl j, h3⟩, h4⟩
theorem rc_sub (A : Nat → Nat) (T w j k : Nat) (h : (rc A T w j).testBit k = true) : (rc A T w (j + 1)).testBit k = true := by
  show (rc A T w j ||| stp A T (rc A T w j)).testBit k = true
  rw [Nat.testBit_or, h]; rfl
theorem rc_st {A : Nat → Nat} {T : Nat} (hT : T < 1024) (w : Nat) : ∀ j, j + 1 ≤ pc (rc A T w j) ∨ rc A T w (j + 1) = rc A T w j
  | 0 => by
    by_cases e : rc A T w 0 = 0
    · right
      show rc A T w 0 ||| stp A T (rc A T w 0) = rc A T w 0
      rw [e]
      apply Nat.eq_of_testBit_eq
      intro i
      rw [Nat.testBit_or, Nat.zero_testBit, Bool.false_or]
      cases hs : (stp A T 0).testBit i with
      | false => rfl
      | true =>
        obtain ⟨j, h, _⟩ := (stp_tb A T 0 i).1 hs
        rw [Nat.zero_testBit] at h; cases h
    · left
      have hlt := rc_lt (A := A) hT w 0
      have : ∃ i, (rc A T w 0).testBit i = true := by
        apply Classical.byContradiction
        intro z
        apply e
        apply Nat.eq_of_testBit_eq
        intro i
        rw [Nat.zero_testBit]
        cases hh : (rc A T w 0).testBit i with
        | false => rfl
        | true => exact absurd ⟨i, hh⟩ z
      obtain ⟨i, hi⟩ := this
      have := pc_slt (X := 0) (Y := rc A T w 0) (fun k hk => by rw [Nat.zero_testBit] at hk; cases hk) (tb_lt hlt hi) hi (Nat.zero_testBit i)
      omega
  | j + 1 => by
    have stay : rc A T w (j + 1) = rc A T w j → rc A T w (j + 1 + 1) = rc A T w (j + 1) := by
      intro e
      show rc A T w (j + 1) ||| stp A T (rc A T w (j + 1)) = _
      rw [e]
      have : rc A T w j ||| stp A T (rc A T w j) = rc A T w (j + 1) := rfl
      rw [this, e]
    rcases rc_st (A := A) hT w j with h | h
    · by_cases e : rc A T w (j + 1) = rc A T w j
      · exact Or.inr (stay e)
      · left
        have hlt := rc_lt (A := A) hT w (j + 1)
        apply Classical.byContradiction
        intro z
        exact e (pc_eqs (fun k hk => rc_sub A T w j k hk) hlt (by omega)).symm
    · exact Or.inr (stay h)
theorem rc_10 {A : Nat → Nat} {T : Nat} (hT : T < 1024) (w : Nat) : rc A T w 10 = rc A T w 9 := by
  rcases rc_st (A := A) hT w 9 with h | h
  · have hlt := rc_lt (A := A) hT w 10
    apply Nat.eq_of_testBit_eq
    intro i
    by_cases hi : i < 10
    · have := pc_full h i hi
      rw [this, rc_sub A T w 9 i this]
    · cases h1 : (rc A T w 10).testBit i with
      | true => exact absurd (tb_lt hlt h1) hi
      | false =>
        cases h2 : (rc A T w 9).testBit i with
        | false => rfl
        | true => exact absurd (tb_lt (rc_lt hT w 9) h2) hi
  · exact h
theorem rc_hi {A : Nat → Nat} {T : Nat} (hT : T < 1024) (w : Nat) : ∀ m, rc A T w (9 + m) = rc A T w 9
  | 0 => rfl
  | m + 1 => by
    have ih := rc_hi (A := A) hT w m
    show rc A T w (9 + m) ||| stp A T (rc A T w (9 + m)) = _
    rw [ih]
    exact rc_10 hT w
theorem cl_tb {A : Nat → Nat} {T : Nat} (hT : T < 1024) (w k : Nat) : (rc A T w 9).testBit k = true ↔ rq A T w k := by
  rw [rc_tb]
  constructor
  · rintro ⟨n, _, h⟩; exact ⟨n, h⟩
  · rintro ⟨n, h⟩
    have : (rc A T w (9 + n)).testBit k = true := (rc_tb A T w (9 + n) k).2 ⟨n, by omega, h⟩
    rw [rc_hi hT w n] at this
    exact (rc_tb A T w 9 k).1 this
/-- a path among those on no ring is short -/
theorem pt_len {A : Nat → Nat} {T : Nat} (hT : T < 1024) {w : Nat} (hw : ∀ x, rq A T w x → ¬ rq A T x x) : ∀ n x, pt A T n w x → pc (rc A T x 9) + n ≤ pc (rc A T w 9)
  | 0, x, e => by cases e; omega
  | n + 1, x, ⟨j, h1, h2⟩ => by
    have ih := pt_len hT hw n j h1
    have hx : rq A T w x := ⟨n, j, h1, h2⟩
    have hjx : rq A T j x := ⟨0, pt_one h2⟩
    have : pc (rc A T x 9) < pc (rc A T j 9) := by
      refine pc_slt (fun k hk => ?_) (tb_lt hT h2.2.2) ((cl_tb hT j x).2 hjx) ?_
      · exact (cl_tb hT j k).2 (rq_cat hjx ((cl_tb hT x k).1 hk))
      · cases hh : (rc A T x 9).testBit x with
        | false => rfl
        | true => exact absurd ((cl_tb hT x x).1 hh) (hw x hx)
    omega
theorem pt_ring {A : Nat → Nat} {T x : Nat} (h : rq A T x x) : ∀ m, ∃ n, m ≤ n ∧ pt A T n x x
  | 0 => ⟨0, Nat.le_refl 0, rfl⟩
  | m + 1 => by
    obtain ⟨n, h1, h2⟩ := pt_ring h m
    obtain ⟨k, h3⟩ := h
    exact ⟨n + (k + 1), by omega, pt_cat h2 (k + 1) x h3⟩
/-- rows of ten steps there are just where a ring can be come to -/
theorem pt_10 {A : Nat → Nat} {T : Nat} (hT : T < 1024) {w : Nat} (hw : w < 10) : (∃ y, pt A T 10 w y) ↔ ∃ x, (x = w ∨ rq A T w x) ∧ rq A T x x := by
  constructor
  · rintro ⟨y, hy⟩
    apply Classical.byContradiction
    intro z
    have h1 : ∀ x, rq A T w x → ¬ rq A T x x := fun x hx hxx => z ⟨x, Or.inr hx, hxx⟩
    have h2 : ¬ rq A T w w := fun hxx => z ⟨w, Or.inl rfl, hxx⟩
    have h3 := pt_len hT h1 10 y hy
    have h4 := pc_full (X := rc A T w 9) (by omega) w hw
    exact h2 ((cl_tb hT w w).1 h4)
  · rintro ⟨x, h1, h2⟩
    have h3 : ∃ n, pt A T n w x := by
      rcases h1 with e | ⟨n, h⟩
      · exact ⟨0, e.symm⟩
      · exact ⟨n + 1, h⟩
    obtain ⟨n, h3⟩ := h3
    obtain ⟨m, h4, h5⟩ := pt_ring h2 10
    have h6 := pt_cat h3 m x h5
    have h7 : pt A T (10 + (n + m - 10)) w x := by
      rw [show 10 + (n + m - 10) = n + m by omega]; exact h6
    exact pt_pre _ _ h7
/-- no ring among T -/
def acy (A : Nat → Nat) (T : Nat) : Prop := ∀ w, T.testBit w = true → ¬ rq A T w w
theorem acy_lv {A : Nat → Nat} {T : Nat} (hT : T < 1024) : acy A T ↔ lv A T T 10 = 0 := by
  constructor
  · intro h
    apply Nat.eq_of_testBit_eq
    intro i
    rw [Nat.zero_testBit]
    cases hh : (lv A T T 10).testBit i with
    | false => rfl
    | true =>
      obtain ⟨w, h1, h2⟩ := (lv_tb A T T 10 i).1 hh
      obtain ⟨x, h3, h4⟩ := (pt_10 hT (tb_lt hT h1)).1 ⟨i, h2⟩
      exact absurd h4 (h x (rq_T h4))
  · intro h w hw hr
    obtain ⟨y, hy⟩ := (pt_10 hT (tb_lt hT hw)).2 ⟨w, Or.inl rfl, hr⟩
    have := (lv_tb A T T 10 y).2 ⟨w, hw, hy⟩
    rw [h, Nat.zero_testBit] at this
    cases this
theorem pt_mono {A : Nat → Nat} {T T' : Nat} (h : ∀ k, T.testBit k = true → T'.testBit k = true) {w : Nat} : ∀ n k, pt A T n w k → pt A T' n w k
  | 0, k, e => e
  | n + 1, k, ⟨j, h1, h2⟩ => ⟨j, pt_mono h n j h1, h2.1, h2.2.1, h k h2.2.2⟩
theorem rq_mono {A : Nat → Nat} {T T' : Nat} (h : ∀ k, T.testBit k = true → T'.testBit k = true) {w k : Nat} (hr : rq A T w k) : rq A T' w k := by
  obtain ⟨n, hn⟩ := hr
  exact ⟨n, pt_mono h _ k hn⟩
/-- a ring's way passes through those on rings alone -/
theorem pt_on {A : Nat → Nat} {T T' : Nat} {w : Nat} : ∀ n k, pt A T n w k → (∀ x, rq A T w x → (x = k ∨ rq A T x k) → T'.testBit x = true) → pt A T' n w k
  | 0, k, e, _ => e
  | n + 1, k, ⟨j, h1, h2⟩, h => by
    refine ⟨j, pt_on n j h1 (fun x hx hxk => ?_), h2.1, h2.2.1, h k ⟨n, j, h1, h2⟩ (Or.inl rfl)⟩
    refine h x hx (Or.inr ?_)
    rcases hxk with e | hq
    · subst e; exact ⟨0, pt_one h2⟩
    · exact rq_cat hq ⟨0, pt_one h2⟩
def onR (A : Nat → Nat) (T : Nat) (N : Nat) : Nat := bset (fun w => T.testBit w && (rc A T w 9).testBit w) N
theorem onR_tb {A : Nat → Nat} {T : Nat} (hT : T < 1024) {N : Nat} (hN : ∀ k, T.testBit k = true → k < N) (w : Nat) : (onR A T N).testBit w = true ↔ T.testBit w = true ∧ rq A T w w := by
  unfold onR
  rw [bset_tb, Bool.and_eq_true, decide_eq_true_eq, Bool.and_eq_true, cl_tb hT]
  exact ⟨fun h => h.2, fun h => ⟨hN w h.1, h⟩⟩
theorem onR_0 {A : Nat → Nat} {T : Nat} (hT : T < 1024) {N : Nat} (hN : ∀ k, T.testBit k = true → k < N) : onR A T N = 0 ↔ acy A T := by
  constructor
  · intro h w hw hr
    have := (onR_tb hT hN w).2 ⟨hw, hr⟩
    rw [h, Nat.zero_testBit] at this; cases this
  · intro h
    apply Nat.eq_of_testBit_eq
    intro i
    rw [Nat.zero_testBit]
    cases hh : (onR A T N).testBit i with
    | false => rfl
    | true =>
      have := (onR_tb hT hN i).1 hh
      exact absurd this.2 (h i this.1)
/-- to take out those of X that are on rings serves as well as all of X -/
theorem acy_on {A : Nat → Nat} {T : Nat} (hT : T < 1024) {N : Nat} (hN : ∀ k, T.testBit k = true → k < N) {X : Nat} (h : acy A (nsub T X)) : acy A (nsub T (X &&& onR A T N)) := by
  intro w hw hr
  have hsub : ∀ k, (nsub T (X &&& onR A T N)).testBit k = true → T.testBit k = true := by
    intro k hk
    rw [nsub_tb hT, Bool.and_eq_true] at hk
    exact hk.1
  have key : ∀ x, (x = w ∨ rq A (nsub T (X &&& onR A T N)) w x) → (x = w ∨ rq A (nsub T (X &&& onR A T N)) x w) → (nsub T (X &&& onR A T N)).testBit x = true → (nsub T X).testBit x = true := by
    intro x h1 h2 hx
    have hxx : rq A (nsub T (X &&& onR A T N)) x x := by
      rcases h1 with e | h1
      · subst e; exact hr
      · rcases h2 with e | h2
        · subst e; exact hr
        · exact rq_cat h2 h1
    have hO : (onR A T N).testBit x = true := (onR_tb hT hN x).2 ⟨hsub x hx, rq_mono hsub hxx⟩
    rw [nsub_tb hT, Nat.testBit_and, hO, Bool.and_true] at hx
    rw [nsub_tb hT]; exact hx
  refine h w (key w (Or.inl rfl) (Or.inl rfl) hw) ?_
  obtain ⟨n, hn⟩ := hr
  refine ⟨n, pt_on (n + 1) w hn (fun x hx hxw => ?_)⟩
  refine key x (Or.inr hx) ?_ (rq_T hx)
  rcases hxw with e | hq
  · exact Or.inl e
  · exact Or.inr hq
theorem acy_O {A : Nat → Nat} {T : Nat} (hT : T < 1024) {N : Nat} (hN : ∀ k, T.testBit k = true → k < N) : acy A (nsub T (onR A T N)) := by
  intro w hw hr
  have hsub : ∀ k, (nsub T (onR A T N)).testBit k = true → T.testBit k = true := by
    intro k hk
    rw [nsub_tb hT, Bool.and_eq_true] at hk
    exact hk.1
  have := (onR_tb hT hN w).2 ⟨hsub w hw, rq_mono hsub hr⟩
  rw [nsub_tb hT, this] at hw
  simp at hw
/-! the search for the fewest -/
def fq (F : Nat → Bool) : Nat → Option Nat
  | 0 => none
  | m + 1 => match fq F m with
    | none => if F m = true then some m else none
    | some o => if pc m < pc o ∧ F m = true then some m else some o
def cq (F : Nat → Bool) (O : Nat) : Nat → Nat
  | 0 => O
  | m + 1 => if nsub m O = 0 ∧ pc m < pc (cq F O m) ∧ F m = true then m else cq F O m
theorem fq_ok (F : Nat → Bool) : ∀ m, match fq F m with
    | none => ∀ x, x < m → F x = false
    | some o => F o = true ∧ o < m ∧ ∀ x, x < m → F x = true → pc o ≤ pc x ∧ (pc x = pc o → o ≤ x)
  | 0 => fun x hx => absurd hx (Nat.not_lt_zero x)
  | m + 1 => by
    have ih := fq_ok F m
    unfold fq
    split at ih
    · next h0 =>
      by_cases c : F m = true
      · rw [if_pos c]
        refine ⟨c, by omega, fun x hx hF => ?_⟩
        by_cases e : x = m
        · subst e; exact ⟨Nat.le_refl _, fun _ => Nat.le_refl _⟩
        · rw [ih x (by omega)] at hF; cases hF
      · rw [if_neg c]
        intro x hx
        by_cases e : x = m
        · subst e; simpa using c
        · exact ih x (by omega)
    · next o h0 =>
      obtain ⟨i1, i2, i3⟩ := ih
      by_cases c : pc m < pc o ∧ F m = true
      · rw [if_pos c]
        refine ⟨c.2, by omega, fun x hx hF => ?_⟩
        by_cases e : x = m
        · subst e; exact ⟨Nat.le_refl _, fun _ => Nat.le_refl _⟩
        · have := i3 x (by omega) hF
          exact ⟨by omega, fun z => by omega⟩
      · rw [if_neg c]
        refine ⟨i1, by omega, fun x hx hF => ?_⟩
        by_cases e : x = m
        · subst e
          have : ¬ pc x < pc o := fun z => c ⟨z, hF⟩
          exact ⟨by omega, fun z => by omega⟩
        · exact i3 x (by omega) hF
theorem cq_ok {F : Nat → Bool} {O : Nat} (hO : O < 1024) (hF : F O = true) : ∀ m, m ≤ 1024 → F (cq F O m) = true ∧ nsub (cq F O m) O = 0 ∧ cq F O m < 1024 ∧ (cq F O m = O ∨ cq F O m < m) ∧ ∀ x, x < m → nsub x O = 0 → F x = true → pc (cq F O m) ≤ pc x ∧ (pc x = pc (cq F O m) → cq F O m ≤ x)
  | 0, _ => ⟨hF, by
      apply Nat.eq_of_testBit_eq
      intro i
      show (nsub O O).testBit i = _
      rw [nsub_tb hO, Nat.zero_testBit]; simp, hO, Or.inl rfl, fun x hx => absurd hx (Nat.not_lt_zero x)⟩
  | m + 1, hm => by
    obtain ⟨i1, i2, i3, i4, i5⟩ := cq_ok hO hF m (by omega)
    unfold cq
    by_cases c : nsub m O = 0 ∧ pc m < pc (cq F O m) ∧ F m = true
    · rw [if_pos c]
      refine ⟨c.2.2, c.1, by omega, Or.inr (by omega), fun x hx h1 h2 => ?_⟩
      by_cases e : x = m
      · subst e; exact ⟨Nat.le_refl _, fun _ => Nat.le_refl _⟩
      · have := i5 x (by omega) h1 h2
        exact ⟨by omega, fun z => by omega⟩
    · rw [if_neg c]
      refine ⟨i1, i2, i3, by omega, fun x hx h1 h2 => ?_⟩
      by_cases e : x = m
      · subst e
        have h3 : ¬ pc x < pc (cq F O x) := fun z => c ⟨h1, z, h2⟩
        refine ⟨by omega, fun z => ?_⟩
        rcases i4 with i4 | i4
        · rw [i4] at z ⊢
          have := pc_eqs (fun k hk => nsub_sub (by omega) h1 k hk) hO (by omega)
          omega
        · omega
      · exact i5 x (by omega) h1 h2
/-- both searches find the same -/
theorem fq_cq {F : Nat → Bool} {O M : Nat} (hM : M ≤ 1024) (hO : O < M) (hF : F O = true) (hX : ∀ x, x < M → F x = true → F (x &&& O) = true) : fq F M = some (cq F O (O + 1)) := by
  have h1 := fq_ok F M
  obtain ⟨c1, c2, c3, c4, c5⟩ := cq_ok (show O < 1024 by omega) hF (O + 1) (by omega)
  split at h1
  · rw [h1 O hO] at hF; cases hF
  · next o h0 =>
    obtain ⟨f1, f2, f3⟩ := h1
    rw [h0]
    generalize cq F O (O + 1) = c at c1 c2 c3 c4 c5
    have hc : c ≤ O := by omega
    have hoO : F (o &&& O) = true := hX o f2 f1
    have hlt : o &&& O ≤ o := Nat.and_le_left
    have g1 := f3 (o &&& O) (by omega) hoO
    have hsub : ∀ k, (o &&& O).testBit k = true → o.testBit k = true := by
      intro k hk; rw [Nat.testBit_and, Bool.and_eq_true] at hk; exact hk.1
    have hEq : o &&& O = o := pc_eqs hsub (by omega) g1.1
    have hon : nsub o O = 0 := by
      apply Nat.eq_of_testBit_eq
      intro i
      rw [nsub_tb (by omega), Nat.zero_testBit]
      cases ho : o.testBit i with
      | false => rfl
      | true =>
        rw [← hEq, Nat.testBit_and, Bool.and_eq_true] at ho
        rw [ho.2]; rfl
    have hoO2 := nsub_le (by omega) hon
    have a1 := c5 o (by omega) hon f1
    have a2 := f3 c (by omega) c1
    have : o = c := by
      have e1 : pc c = pc o := by omega
      have := a1.2 e1.symm
      have := a2.2 e1
      omega
    rw [this]
