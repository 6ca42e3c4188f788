/-! ===== what is common: b in the reference's layout; the days ===== -/
abbrev BB : Type := Nat → Nat → Int
def bn (b : BB) : Nat := (b 0 1).toNat
def bN (b : BB) : Nat := zN (b 1) (bn b)
def bW (b : BB) (w j : Nat) : Int := if j = 0 then zdg (b 1) (bn b) (8 * w) else if j = 1 then zdg (b 1) (bn b) (8 * w + 1) else if j = 2 then z2 (b 1) (bn b) (8 * w + 2) else if j = 3 then z2 (b 1) (bn b) (8 * w + 4) else zdg (b 1) (bn b) (8 * w + 6)
/-- b is as the acts may make it -/
def BV (b : BB) : Prop := (0 ≤ b 0 1 ∧ b 0 1 ≤ 80) ∧ (∀ k, 0 ≤ b 1 k ∧ b 1 k ≤ 255) ∧ (1 ≤ b 0 4 ∧ b 0 4 ≤ 9) ∧ (0 ≤ b 0 5 ∧ b 0 5 ≤ 3) ∧ (∀ p, 0 ≤ b 7 p ∧ b 7 p ≤ 9) ∧ (∀ p, 0 ≤ b 8 p ∧ b 8 p ≤ 99) ∧ (∀ w, 0 ≤ b 9 w ∧ b 9 w < 1024) ∧
  (0 ≤ b 0 9 ∧ b 0 9 ≤ 8) ∧ (∀ k, 0 ≤ b 11 k ∧ b 11 k ≤ 99) ∧ (∀ k, 0 ≤ b 12 k ∧ b 12 k ≤ 9) ∧ (0 ≤ b 0 20 ∧ b 0 20 ≤ 8) ∧ (∀ k, 0 ≤ b 22 k ∧ b 22 k ≤ 99) ∧ (∀ k, 0 ≤ b 23 k ∧ b 23 k ≤ 9) ∧ (∀ k, 0 ≤ b 24 k ∧ b 24 k ≤ 1) ∧
  (∀ s, 0 ≤ b 26 s ∧ b 26 s ≤ 1) ∧ (∀ s, 0 ≤ b 27 s ∧ b 27 s ≤ 2) ∧ (∀ s, 0 ≤ b 28 s ∧ b 28 s ≤ 48) ∧ (∀ i, -2147483648 ≤ b 29 i ∧ b 29 i < 2147483648) ∧ (0 ≤ b 0 30 ∧ b 0 30 ≤ 5)
theorem bn_le {b : BB} (h : BV b) : bn b ≤ 80 := by have := h.1; unfold bn; omega
theorem bN_le {b : BB} (h : BV b) : bN b ≤ 10 := zN_le _ _ (bn_le h)
/-- of a text without a fault each place is good -/
theorem zN_good {t : Nat → Int} {n w : Nat} (hw : w < zN t n) : ∀ k, k < n → zgd t n k = true := by
  intro k hk
  have hF : zF t n = -1 := by
    unfold zN at hw
    split at hw
    · next h => exact h
    · omega
  unfold zF at hF
  split at hF
  · omega
  · next h => exact zff_good t n n k (by have := zff_le t n n; omega)
theorem bW_rng {b : BB} (h : BV b) {w : Nat} (hw : w < bN b) : (0 ≤ bW b w 0 ∧ bW b w 0 ≤ 5) ∧ (0 ≤ bW b w 1 ∧ bW b w 1 ≤ 5) ∧ (0 ≤ bW b w 2 ∧ bW b w 2 < bW b w 3 ∧ bW b w 3 ≤ 99) ∧ (1 ≤ bW b w 4 ∧ bW b w 4 ≤ 9) ∧ bW b w 0 ≠ bW b w 1 := by
  have hf := zN_fit hw
  have hg := zN_good hw
  have g0 := hg (8 * w) (by omega)
  have g1 := hg (8 * w + 1) (by omega)
  have g2 := zgd_fig (hg (8 * w + 2) (by omega)) (by omega)
  have g3 := zgd_fig (hg (8 * w + 3) (by omega)) (by omega)
  have g4 := zgd_fig (hg (8 * w + 4) (by omega)) (by omega)
  have g5 := hg (8 * w + 5) (by omega)
  have g5' := zgd_fig g5 (by omega)
  have g6 := hg (8 * w + 6) (by omega)
  unfold zgd at g0 g1 g5 g6
  have a0 : (8 * w) % 8 = 0 := by omega
  have a1 : (8 * w + 1) % 8 = 1 := by omega
  have a5 : (8 * w + 5) % 8 = 5 := by omega
  have a6 : (8 * w + 6) % 8 = 6 := by omega
  simp only [a0, if_true, decide_eq_true_eq] at g0
  simp only [a1, if_true, if_false, Nat.reduceEqDiff, decide_eq_true_eq, show 8 * w + 1 - 1 = 8 * w by omega] at g1
  simp only [a5, if_true, if_false, Nat.reduceEqDiff, decide_eq_true_eq, show 8 * w + 5 - 3 = 8 * w + 2 by omega, show 8 * w + 5 - 1 = 8 * w + 4 by omega] at g5
  simp only [a6, if_true, if_false, Nat.reduceEqDiff, decide_eq_true_eq] at g6
  have b0 : bW b w 0 = zdg (b 1) (bn b) (8 * w) := rfl
  have b1 : bW b w 1 = zdg (b 1) (bn b) (8 * w + 1) := rfl
  have b2 : bW b w 2 = z2 (b 1) (bn b) (8 * w + 2) := rfl
  have b3 : bW b w 3 = z2 (b 1) (bn b) (8 * w + 4) := rfl
  have b4 : bW b w 4 = zdg (b 1) (bn b) (8 * w + 6) := rfl
  have v2 : z2 (b 1) (bn b) (8 * w + 2) = 10 * zdg (b 1) (bn b) (8 * w + 2) + zdg (b 1) (bn b) (8 * w + 3) := rfl
  have v4 : z2 (b 1) (bn b) (8 * w + 4) = 10 * zdg (b 1) (bn b) (8 * w + 4) + zdg (b 1) (bn b) (8 * w + 5) := rfl
  omega
/-! sets -/
def bset (p : Nat → Bool) : Nat → Nat
  | 0 => 0
  | m + 1 => if p m then bset p m ||| 2 ^ m else bset p m
theorem bset_lt (p : Nat → Bool) : ∀ m, bset p m < 2 ^ m
  | 0 => by show (0 : Nat) < 1; omega
  | m + 1 => by
    have := bset_lt p m
    have h2 : 2 ^ m < 2 ^ (m + 1) := Nat.pow_lt_pow_right (by decide) (by omega)
    unfold bset
    split
    · exact Nat.or_lt_two_pow (Nat.lt_trans this h2) h2
    · omega
theorem bset_tb (p : Nat → Bool) (w : Nat) : ∀ m, (bset p m).testBit w = (decide (w < m) && p w)
  | 0 => by simp [bset]
  | m + 1 => by
    have ih := bset_tb p w m
    unfold bset
    by_cases hp : p m = true
    · rw [if_pos hp, Nat.testBit_or, ih, Nat.testBit_two_pow]
      by_cases e : m = w
      · subst e; simp [hp]
      · by_cases h1 : w < m
        · simp [h1, e, show w < m + 1 by omega]
        · simp [h1, e, show ¬ w < m + 1 by omega]
    · rw [if_neg hp, ih]
      by_cases e : w = m
      · subst e; simp [hp]
      · by_cases h1 : w < m
        · simp [h1, show w < m + 1 by omega]
        · simp [h1, show ¬ w < m + 1 by omega]
theorem bset_le10 {p : Nat → Bool} {m : Nat} (hm : m ≤ 10) : bset p m < 1024 := Nat.lt_of_lt_of_le (bset_lt p m) (show 2 ^ m ≤ 2 ^ 10 from Nat.pow_le_pow_right (by decide) hm)
def cn (p : Nat → Bool) : Nat → Nat
  | 0 => 0
  | m + 1 => cn p m + (if p m then 1 else 0)
theorem cn_le (p : Nat → Bool) : ∀ m, cn p m ≤ m
  | 0 => Nat.le_refl 0
  | m + 1 => by
    have := cn_le p m
    unfold cn
    split <;> omega
theorem pcn_bset (p : Nat → Bool) (m : Nat) : ∀ k, k ≤ m → pcn (bset p m) k = cn p k
  | 0, _ => rfl
  | k + 1, h => by
    have ih := pcn_bset p m k (by omega)
    unfold pcn cn
    rw [ih, bset_tb]
    simp [show k < m by omega]
theorem pcn_hi (x m : Nat) : ∀ k, x < 2 ^ m → pcn x (m + k) = pcn x m
  | 0, _ => rfl
  | k + 1, h => by
    have ih := pcn_hi x m k h
    show pcn x (m + k) + (if x.testBit (m + k) then 1 else 0) = _
    rw [ih, Nat.testBit_lt_two_pow (Nat.lt_of_lt_of_le h (Nat.pow_le_pow_right (by decide) (by omega : m ≤ m + k)))]
    rfl
theorem pc_bset (p : Nat → Bool) {m : Nat} (hm : m ≤ 10) : pc (bset p m) = cn p m := by
  unfold pc
  obtain ⟨k, hk⟩ : ∃ k, 10 = m + k := ⟨10 - m, by omega⟩
  rw [hk, pcn_hi _ _ k (bset_lt p m), pcn_bset p m m (Nat.le_refl m)]
theorem bset_ext {p q : Nat → Bool} {m : Nat} (h : ∀ w, w < m → p w = q w) : bset p m = bset q m := by
  apply Nat.eq_of_testBit_eq
  intro i
  rw [bset_tb, bset_tb]
  by_cases e : i < m
  · rw [h i e]
  · simp [e]
theorem nsub_tb {x y i : Nat} (hx : x < 1024) : (nsub x y).testBit i = (x.testBit i && !y.testBit i) := by
  unfold nsub
  rw [Nat.testBit_and, Nat.testBit_xor]
  have e2 : Nat.testBit 1023 i = decide (i < 10) := by
    have : (1023 : Nat) = 2 ^ 10 - 1 := rfl
    rw [this, Nat.testBit_two_pow_sub_one]
  rw [e2]
  by_cases h10 : i < 10
  · simp [h10]
  · have hx2 : x.testBit i = false := Nat.testBit_lt_two_pow (Nat.lt_of_lt_of_le hx (show 2 ^ 10 ≤ 2 ^ i from Nat.pow_le_pow_right (by decide) (by omega)))
    simp [hx2]
theorem nsub_lt {x : Nat} (y : Nat) (hx : x < 1024) : nsub x y < 1024 := Nat.lt_of_le_of_lt Nat.and_le_left hx
/-! the days -/
abbrev SS : Type := (Nat → Int) × (Nat → Int) × (Nat → Int) × (Nat → Int) × (Nat → Int32)
def fu {α : Type} (f : Nat → α) (k : Nat) (v : α) : Nat → α := fun j => if j = k then v else f j
def itr {S : Type} (f : Nat → S → S) : Nat → S → S
  | 0, s => s
  | m + 1, s => f m (itr f m s)
def sEnd (w : Nat) (d h : Int) (s : SS) : SS := (s.1, fu s.2.1 w d, fu s.2.2.1 w h, s.2.2.2.1, s.2.2.2.2)
def sOk (b : BB) (w : Nat) (s : SS) : Nat → Bool
  | 0 => true
  | m + 1 => sOk b w s m && (!((b 9 w).toNat.testBit m) || decide (s.2.2.1 m = 1))
def sMay (b : BB) (w : Nat) (s : SS) : Bool := decide (0 < s.2.2.2.1 (bW b w 0).toNat) && sOk b w s (bN b)
def sPay (b : BB) (d : Int) (w : Nat) (s : SS) : SS := if sMay b w s = true then (s.1, fu s.2.1 w d, fu s.2.2.1 w 1, fu s.2.2.2.1 (bW b w 0).toNat (s.2.2.2.1 (bW b w 0).toNat - 1), fu s.2.2.2.2 (bW b w 0).toNat (s.2.2.2.2 (bW b w 0).toNat + iI (bW b w 4)))
  else (s.1, fu s.2.1 w d, fu s.2.2.1 w 2, s.2.2.2.1, fu s.2.2.2.2 (bW b w 0).toNat (s.2.2.2.2 (bW b w 0).toNat + iI (-bW b w 4)))
def sDue (b : BB) (d : Int) (w : Nat) (s : SS) : SS := if bW b w 3 = d ∧ s.1 w ≠ -1 ∧ s.2.2.1 w = 0 then sPay b d w s else s
def sFor (b : BB) (d but : Int) (k : Nat) (s : SS) : SS := if (k : Int) ≠ but ∧ b 11 k = d ∧ s.1 (b 12 k).toNat ≠ -1 ∧ s.2.2.1 (b 12 k).toNat = 0 then sEnd (b 12 k).toNat d 3 s else s
def sLap (b : BB) (d : Int) (w : Nat) (s : SS) : SS := if bW b w 3 = d ∧ s.1 w = -1 then sEnd w d 4 s else s
def sHeld (s : SS) (w : Nat) : Bool := decide (s.1 w ≠ -1 ∧ s.2.2.1 w = 0)
def sWait (b : BB) (d : Int) (s : SS) (w : Nat) : Bool := decide (s.1 w = -1 ∧ s.2.2.1 w = 0 ∧ bW b w 2 ≤ d)
def sAhead (b : BB) (law : Int) (s : SS) (w o : Nat) : Bool := if law = 0 then decide (bW b w 2 < bW b o 2) else if law = 1 then decide (bW b o 4 < bW b w 4) else if law = 2 then decide (bW b w 3 < bW b o 3) else decide (s.2.2.2.2 (bW b o 0).toNat < s.2.2.2.2 (bW b w 0).toNat)
def sBest (b : BB) (law : Int) (s : SS) (wt : Nat → Bool) : Nat → Option Nat
  | 0 => none
  | m + 1 => match sBest b law s wt m with
    | none => if wt m = true then some m else none
    | some o => if wt m = true ∧ sAhead b law s m o = true then some m else some o
def oI (o : Option Nat) : Int := match o with
  | none => -1
  | some k => (k : Int)
def sMk (b : BB) (law slots d : Int) : Nat → SS → SS
  | 0, s => s
  | m + 1, s => match sBest b law s (sWait b d s) (bN b) with
    | none => s
    | some w => if (cn (sHeld s) (bN b) : Int) < slots then sMk b law slots d m (fu s.1 w d, s.2) else s
def sDay (b : BB) (law slots but d : Int) (s : SS) : SS := sMk b law slots d 10 (itr (sLap b d) (bN b) (itr (sFor b d but) (b 0 9).toNat (itr (sDue b d) (bN b) s)))
def sS0 (b : BB) : SS := (fun _ => -1, fun _ => -1, fun _ => 0, fun p => b 7 p, fun p => iI (b 8 p))
/-- behind day m - 1 -/
def sRun (b : BB) (law slots but : Int) : Nat → SS
  | 0 => sS0 b
  | m + 1 => sDay b law slots but (m : Int) (sRun b law slots but m)
/-- ranges -/
def RV (s : SS) : Prop := (∀ w, -1 ≤ s.1 w ∧ s.1 w ≤ 99) ∧ (∀ w, -1 ≤ s.2.1 w ∧ s.2.1 w ≤ 99) ∧ (∀ w, 0 ≤ s.2.2.1 w ∧ s.2.2.1 w ≤ 4) ∧ ∀ p, 0 ≤ s.2.2.2.1 p ∧ s.2.2.2.1 p ≤ 9
theorem fu_at {α : Type} (f : Nat → α) (k : Nat) (v : α) (j : Nat) : fu f k v j = if j = k then v else f j := rfl
theorem fu_rng {f : Nat → Int} {k : Nat} {v lo hi : Int} (h : ∀ w, lo ≤ f w ∧ f w ≤ hi) (hv : lo ≤ v ∧ v ≤ hi) : ∀ w, lo ≤ fu f k v w ∧ fu f k v w ≤ hi := by
  intro w
  rw [fu_at]
  split
  · exact hv
  · exact h w
theorem RV_end {s : SS} {w : Nat} {d h : Int} (hs : RV s) (hd : 0 ≤ d ∧ d ≤ 99) (hh : 0 ≤ h ∧ h ≤ 4) : RV (sEnd w d h s) := ⟨hs.1, fu_rng hs.2.1 (by omega), fu_rng hs.2.2.1 (by omega), hs.2.2.2⟩
theorem RV_pay {b : BB} {d : Int} {w : Nat} {s : SS} (hs : RV s) (hd : 0 ≤ d ∧ d ≤ 99) : RV (sPay b d w s) := by
  unfold sPay
  split
  · next h =>
    have h1 : 0 < s.2.2.2.1 (bW b w 0).toNat := by
      unfold sMay at h
      simp only [Bool.and_eq_true, decide_eq_true_eq] at h
      exact h.1
    have h2 := hs.2.2.2 (bW b w 0).toNat
    exact ⟨hs.1, fu_rng hs.2.1 (by omega), fu_rng hs.2.2.1 (by omega), fu_rng hs.2.2.2 (by omega)⟩
  · exact ⟨hs.1, fu_rng hs.2.1 (by omega), fu_rng hs.2.2.1 (by omega), hs.2.2.2⟩
theorem RV_due {b : BB} {d : Int} {w : Nat} {s : SS} (hs : RV s) (hd : 0 ≤ d ∧ d ≤ 99) : RV (sDue b d w s) := by
  unfold sDue
  split
  · exact RV_pay hs hd
  · exact hs
theorem RV_for {b : BB} {d but : Int} {k : Nat} {s : SS} (hs : RV s) (hd : 0 ≤ d ∧ d ≤ 99) : RV (sFor b d but k s) := by
  unfold sFor
  split
  · exact RV_end hs hd (by omega)
  · exact hs
theorem RV_lap {b : BB} {d : Int} {w : Nat} {s : SS} (hs : RV s) (hd : 0 ≤ d ∧ d ≤ 99) : RV (sLap b d w s) := by
  unfold sLap
  split
  · exact RV_end hs hd (by omega)
  · exact hs
theorem RV_itr {f : Nat → SS → SS} (h : ∀ k s, RV s → RV (f k s)) : ∀ m s, RV s → RV (itr f m s)
  | 0, s, hs => hs
  | m + 1, s, hs => h m _ (RV_itr h m s hs)
theorem RV_mk {b : BB} {law slots d : Int} (hd : 0 ≤ d ∧ d ≤ 99) : ∀ m s, RV s → RV (sMk b law slots d m s)
  | 0, s, hs => hs
  | m + 1, s, hs => by
    unfold sMk
    split
    · exact hs
    · split
      · exact RV_mk hd m _ ⟨fu_rng hs.1 (by omega), hs.2⟩
      · exact hs
theorem RV_day {b : BB} {law slots but d : Int} (hd : 0 ≤ d ∧ d ≤ 99) {s : SS} (hs : RV s) : RV (sDay b law slots but d s) := by
  unfold sDay
  exact RV_mk hd 10 _ (RV_itr (fun k s hs => RV_lap hs hd) _ _ (RV_itr (fun k s hs => RV_for hs hd) _ _ (RV_itr (fun k s hs => RV_due hs hd) _ _ hs)))
theorem RV_0 {b : BB} (h : BV b) : RV (sS0 b) := ⟨fun _ => by show (-1 : Int) ≤ -1 ∧ (-1 : Int) ≤ 99; omega, fun _ => by show (-1 : Int) ≤ -1 ∧ (-1 : Int) ≤ 99; omega, fun _ => by show (0 : Int) ≤ 0 ∧ (0 : Int) ≤ 4; omega, fun p => h.2.2.2.2.1 p⟩
theorem RV_run {b : BB} (h : BV b) {law slots but : Int} : ∀ m, m ≤ 100 → RV (sRun b law slots but m)
  | 0, _ => RV_0 h
  | m + 1, hm => RV_day (by omega) (RV_run h m (by omega))
theorem sBest_lt (b : BB) (law : Int) (s : SS) (wt : Nat → Bool) : ∀ m w, sBest b law s wt m = some w → w < m ∧ wt w = true
  | 0, w, h => by cases h
  | m + 1, w, h => by
    have ih := sBest_lt b law s wt m
    unfold sBest at h
    split at h
    · split at h
      · cases h; exact ⟨by omega, by assumption⟩
      · cases h
    · next o ho =>
      have := ih o ho
      split at h
      · next hq => cases h; exact ⟨by omega, hq.1⟩
      · cases h; exact ⟨by omega, this.2⟩
theorem sBest_none {b : BB} {law : Int} {s : SS} {wt : Nat → Bool} : ∀ m, sBest b law s wt m = none → ∀ w, w < m → wt w = false
  | 0, _, w, hw => absurd hw (Nat.not_lt_zero w)
  | m + 1, h, w, hw => by
    have ih := sBest_none (b := b) (law := law) (s := s) (wt := wt) m
    unfold sBest at h
    split at h
    · next hn =>
      split at h
      · cases h
      · next hf =>
        by_cases e : w = m
        · rw [e]; simpa using hf
        · exact ih hn w (by omega)
    · split at h <;> cases h
