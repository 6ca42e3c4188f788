/-! ===== the reference: rings, freed, depth ===== -/
def cin (A : Nat → Nat) (T B : Nat) : Nat → Nat
  | 0 => B
  | m + 1 => if (cin A T B m).testBit m = true then cin A T B m ||| (A m &&& T) else cin A T B m
theorem cin_up {A : Nat → Nat} {T B k : Nat} (h : B.testBit k = true) : ∀ m, (cin A T B m).testBit k = true
  | 0 => h
  | m + 1 => by
    have ih := cin_up (A := A) (T := T) h m
    unfold cin
    split
    · rw [Nat.testBit_or, ih]; rfl
    · exact ih
theorem cin_st {A : Nat → Nat} {T B w k : Nat} (h : B.testBit w = true) (h2 : (A w).testBit k = true) (h3 : T.testBit k = true) : ∀ m, w < m → (cin A T B m).testBit k = true
  | 0, hm => absurd hm (Nat.not_lt_zero w)
  | m + 1, hm => by
    by_cases e : w = m
    · subst e
      unfold cin
      rw [if_pos (cin_up h w), Nat.testBit_or, Nat.testBit_and, h2, h3]; simp
    · have ih := cin_st h h2 h3 m (by omega)
      unfold cin
      split
      · rw [Nat.testBit_or, ih]; rfl
      · exact ih
theorem cin_cl {A : Nat → Nat} {T B x : Nat} (h : ∀ k, B.testBit k = true → rq A T x k) : ∀ m, m ≤ 10 → ∀ k, (cin A T B m).testBit k = true → rq A T x k
  | 0, _, k, hk => h k hk
  | m + 1, hm, k, hk => by
    have ih := cin_cl h m (by omega)
    unfold cin at hk
    split at hk
    · next c =>
      rw [Nat.testBit_or, Bool.or_eq_true] at hk
      rcases hk with hk | hk
      · exact ih k hk
      · rw [Nat.testBit_and, Bool.and_eq_true] at hk
        exact rq_cat (ih m c) ⟨0, pt_one ⟨by omega, hk.1, hk.2⟩⟩
    · exact ih k hk
theorem cin_lt {A : Nat → Nat} {T B : Nat} (hT : T < 1024) (hB : B < 1024) : ∀ m, cin A T B m < 1024
  | 0 => hB
  | m + 1 => by
    have ih := cin_lt (A := A) hT hB m
    unfold cin
    split
    · exact Nat.or_lt_two_pow (n := 10) ih (Nat.lt_of_le_of_lt Nat.and_le_right hT)
    · exact ih
def cit (A : Nat → Nat) (T N B : Nat) : Nat → Nat
  | 0 => B
  | t + 1 => cin A T (cit A T N B t) N
theorem cit_lt {A : Nat → Nat} {T N B : Nat} (hT : T < 1024) (hB : B < 1024) : ∀ t, cit A T N B t < 1024
  | 0 => hB
  | t + 1 => cin_lt hT (cit_lt hT hB t) N
theorem cin_0 {A : Nat → Nat} {T : Nat} : ∀ m, cin A T 0 m = 0
  | 0 => rfl
  | m + 1 => by
    unfold cin
    rw [cin_0 m, Nat.zero_testBit, if_neg (by decide)]
theorem cit_0 {A : Nat → Nat} {T N : Nat} : ∀ t, cit A T N 0 t = 0
  | 0 => rfl
  | t + 1 => by show cin A T (cit A T N 0 t) N = 0; rw [cit_0 t]; exact cin_0 N
theorem stp_one {A : Nat → Nat} {T w : Nat} (hw : w < 10) : A w &&& T = stp A T (2 ^ w) := by
  apply Nat.eq_of_testBit_eq
  intro i
  rw [Nat.testBit_and]
  cases hs : (stp A T (2 ^ w)).testBit i with
  | true =>
    obtain ⟨j, h1, h2⟩ := (stp_tb A T (2 ^ w) i).1 hs
    rw [Nat.testBit_two_pow] at h1
    have e : w = j := by simpa using h1
    subst e
    rw [h2.2.1, h2.2.2]; rfl
  | false =>
    cases h1 : (A w).testBit i with
    | false => rfl
    | true =>
      cases h2 : T.testBit i with
      | false => rfl
      | true =>
        have := (stp_tb A T (2 ^ w) i).2 ⟨w, by rw [Nat.testBit_two_pow]; simp, hw, h1, h2⟩
        rw [hs] at this; cases this
theorem cit_cl {A : Nat → Nat} {T N w : Nat} (hT : T < 1024) (hN : N ≤ 10) (hw : w < 10) (hTN : ∀ k, T.testBit k = true → k < N) : cit A T N (A w &&& T) 10 = rc A T w 9 := by
  rw [stp_one hw]
  have up : ∀ t k, (cit A T N (stp A T (2 ^ w)) t).testBit k = true → rq A T w k := by
    intro t
    induction t with
    | zero => intro k hk; exact (cl_tb hT w k).1 ((rc_tb A T w 9 k).2 (by obtain ⟨n, h1, h2⟩ := (rc_tb A T w 0 k).1 hk; exact ⟨n, by omega, h2⟩))
    | succ t ih => intro k hk; exact cin_cl ih N hN k hk
  have lo : ∀ t k, (rc A T w t).testBit k = true → (cit A T N (stp A T (2 ^ w)) t).testBit k = true := by
    intro t
    induction t with
    | zero => intro k hk; exact hk
    | succ t ih =>
      intro k hk
      show (cin A T (cit A T N (stp A T (2 ^ w)) t) N).testBit k = true
      have hk2 : (rc A T w t ||| stp A T (rc A T w t)).testBit k = true := hk
      rw [Nat.testBit_or, Bool.or_eq_true] at hk2
      rcases hk2 with h | h
      · exact cin_up (ih k h) N
      · obtain ⟨j, h1, h2⟩ := (stp_tb A T (rc A T w t) k).1 h
        have hjT : T.testBit j = true := by
          obtain ⟨n, _, h3⟩ := (rc_tb A T w t j).1 h1
          exact rq_T ⟨n, h3⟩
        exact cin_st (ih j h1) h2.2.1 h2.2.2 N (hTN j hjT)
  apply Nat.eq_of_testBit_eq
  intro i
  cases h1 : (cit A T N (stp A T (2 ^ w)) 10).testBit i with
  | true => rw [(cl_tb hT w i).2 (up 10 i h1)]
  | false =>
    cases h2 : (rc A T w 9).testBit i with
    | false => rfl
    | true =>
      have := lo 10 i (by rw [rc_10 hT w]; exact h2)
      rw [h1] at this; cases this
/-! depths by turns -/
abbrev DD : Type := Nat → Int
def dU (A : Nat → Nat) (w k : Nat) (D : DD) : DD := if (A w).testBit k = true ∧ D w < D k + 1 ∧ D k < 10 then fu D w (D k + 1) else D
def dK (A : Nat → Nat) (N w : Nat) (D : DD) : DD := itr (dU A w) N D
def dW (A : Nat → Nat) (N : Nat) (D : DD) : DD := itr (dK A N) N D
def dT (A : Nat → Nat) (N : Nat) (t : Nat) : DD := itr (fun _ D => dW A N D) t (fun _ => 1)
theorem itrP {S : Type} {P : S → Prop} {f : Nat → S → S} : ∀ m s, (∀ k s, k < m → P s → P (f k s)) → P s → P (itr f m s)
  | 0, s, _, h => h
  | m + 1, s, hf, h => hf m _ (by omega) (itrP m s (fun k s hk => hf k s (by omega)) h)
theorem itr_up {f : Nat → DD → DD} (hf : ∀ k (s : DD) x, s x ≤ f k s x) : ∀ m (s : DD) x, s x ≤ itr f m s x
  | 0, s, x => Int.le_refl _
  | m + 1, s, x => Int.le_trans (itr_up hf m s x) (hf m _ x)
theorem itr_at {f : Nat → DD → DD} (hf : ∀ k (s : DD) x, s x ≤ f k s x) {k : Nat} : ∀ m (s : DD) x, k < m → f k (itr f k s) x ≤ itr f m s x
  | 0, s, x, h => absurd h (Nat.not_lt_zero k)
  | m + 1, s, x, h => by
    by_cases e : k = m
    · subst e; exact Int.le_refl _
    · exact Int.le_trans (itr_at hf m s x (by omega)) (hf m _ x)
theorem dU_up (A : Nat → Nat) (w k : Nat) (D : DD) (x : Nat) : D x ≤ dU A w k D x := by
  unfold dU
  split
  · next c =>
    rw [fu_at]
    split
    · next e => rw [e]; omega
    · exact Int.le_refl _
  · exact Int.le_refl _
theorem dK_up (A : Nat → Nat) (N w : Nat) (D : DD) (x : Nat) : D x ≤ dK A N w D x := itr_up (fun k s x => dU_up A w k s x) N D x
theorem dW_up (A : Nat → Nat) (N : Nat) (D : DD) (x : Nat) : D x ≤ dW A N D x := itr_up (fun k s x => dK_up A N k s x) N D x
/-- each depth has a row of its length -/
def dOK (A : Nat → Nat) (T : Nat) (D : DD) : Prop := ∀ w, 1 ≤ D w ∧ D w ≤ 10 ∧ (w < 10 → ∃ y, pt A T (D w - 1).toNat w y)
theorem dU_ok {A : Nat → Nat} {T N w k : Nat} (hN : N ≤ 10) (hTN : ∀ j, j < N → T.testBit j = true) (hw : w < N) (hk : k < N) {D : DD} (h : dOK A T D) : dOK A T (dU A w k D) := by
  unfold dU
  split
  · next c =>
    intro x
    rw [fu_at]
    split
    · next e =>
      subst e
      obtain ⟨h1, h2, h3⟩ := h k
      obtain ⟨y, hy⟩ := h3 (by omega)
      refine ⟨by omega, by omega, fun hx => ⟨y, ?_⟩⟩
      have := pt_cat (pt_one (A := A) (T := T) (w := x) (k := k) ⟨by omega, c.1, hTN k hk⟩) _ y hy
      rw [show (D k + 1 - 1).toNat = 1 + (D k - 1).toNat by omega]
      exact this
    · exact h x
  · exact h
theorem dK_ok {A : Nat → Nat} {T N w : Nat} (hN : N ≤ 10) (hTN : ∀ j, j < N → T.testBit j = true) (hw : w < N) {D : DD} (h : dOK A T D) (m : Nat) (hm : m ≤ N) : dOK A T (itr (dU A w) m D) := itrP m D (fun k s hk hs => dU_ok hN hTN hw (by omega) hs) h
theorem dW_ok {A : Nat → Nat} {T N : Nat} (hN : N ≤ 10) (hTN : ∀ j, j < N → T.testBit j = true) {D : DD} (h : dOK A T D) (m : Nat) (hm : m ≤ N) : dOK A T (itr (dK A N) m D) := itrP m D (fun k s hk hs => dK_ok hN hTN (by omega) hs N (Nat.le_refl N)) h
theorem dT_ok {A : Nat → Nat} {T N : Nat} (hN : N ≤ 10) (hTN : ∀ j, j < N → T.testBit j = true) (t : Nat) : dOK A T (dT A N t) := by
  refine itrP t _ (fun k s _ hs => dW_ok hN hTN hs N (Nat.le_refl N)) ?_
  intro w
  exact ⟨by show (1 : Int) ≤ 1; omega, by show (1 : Int) ≤ 10; omega, fun _ => ⟨w, rfl⟩⟩
theorem dT_lo {A : Nat → Nat} {T N : Nat} (hN : N ≤ 10) (hT : ∀ j, T.testBit j = true ↔ j < N) : ∀ t w, w < N → (¬ ∃ y, pt A T 10 w y) → ∀ n, n ≤ t → (∃ y, pt A T n w y) → (n : Int) + 1 ≤ dT A N t w
  | 0, w, hw, _, n, hn, _ => by
    obtain rfl : n = 0 := by omega
    show ((0 : Nat) : Int) + 1 ≤ 1; omega
  | t + 1, w, hw, hz, n, hn, hp => by
    have es : dT A N (t + 1) = dW A N (dT A N t) := rfl
    rw [es]
    by_cases e : n ≤ t
    · exact Int.le_trans (dT_lo hN hT t w hw hz n e hp) (dW_up A N _ w)
    · obtain rfl : n = t + 1 := by omega
      obtain ⟨y, hy⟩ := hp
      obtain ⟨k, h1, h2⟩ := pt_head t y hy
      have hk : k < N := (hT k).1 h1.2.2
      have up1 : ∀ m y', pt A T m k y' → pt A T (1 + m) w y' := fun m y' h => pt_cat (pt_one h1) m y' h
      have hzk9 : ¬ ∃ y, pt A T 9 k y := fun ⟨y', h⟩ => hz ⟨y', up1 9 y' h⟩
      have hzk : ¬ ∃ y, pt A T 10 k y := fun ⟨y', h⟩ => hzk9 (pt_pre (n := 9) 1 y' h)
      have ih := dT_lo hN hT t k hk hzk t (Nat.le_refl t) ⟨y, h2⟩
      have hok0 := dT_ok (A := A) hN (fun j hj => (hT j).2 hj) t
      -- before w's own row, and within it before k
      generalize hD : dT A N t = D at ih hok0
      have hok1 := dW_ok hN (fun j hj => (hT j).2 hj) hok0 w (by omega)
      have u1 := itr_up (f := dK A N) (fun k s x => dK_up A N k s x) w D k
      generalize hD1 : itr (dK A N) w D = D1 at hok1 u1
      have hok2 := dK_ok hN (fun j hj => (hT j).2 hj) hw hok1 k (by omega)
      have u2 := itr_up (f := dU A w) (fun k s x => dU_up A w k s x) k D1 k
      generalize hD2 : itr (dU A w) k D1 = D2 at hok2 u2
      obtain ⟨q1, q2, q3⟩ := hok2 k
      obtain ⟨y', hy'⟩ := q3 (by omega)
      have hlt : D2 k < 10 := by
        apply Classical.byContradiction
        intro z
        apply hzk9
        have e9 : (D2 k - 1).toNat = 9 + 0 := by omega
        rw [e9] at hy'
        exact ⟨y', hy'⟩
      have step : D2 k + 1 ≤ dU A w k D2 w := by
        unfold dU
        by_cases c : D2 w < D2 k + 1
        · rw [if_pos ⟨h1.2.1, c, hlt⟩, fu_at, if_pos rfl]; omega
        · rw [if_neg (fun z => c z.2.1)]; omega
      have a1 := itr_at (f := dU A w) (fun k s x => dU_up A w k s x) N D1 w hk
      rw [hD2] at a1
      have a2 := itr_at (f := dK A N) (fun k s x => dK_up A N k s x) N D w hw
      rw [hD1] at a2
      have a3 : itr (dU A w) N D1 w = dK A N w D1 w := rfl
      have a4 : itr (dK A N) N D w = dW A N D w := rfl
      omega
