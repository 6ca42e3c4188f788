theorem K_i : Int32.ofInt (-1) = -1 ∧ Int32.ofInt 0 = 0 ∧ Int32.ofInt 1 = 1 ∧ Int32.ofInt 2 = 2 ∧ Int32.ofInt 3 = 3 ∧ Int32.ofInt 4 = 4 ∧ Int32.ofInt 5 = 5 := by decide
theorem K_b : (Int8.ofInt (-10)).toInt32 = (-10) ∧ (Int8.ofInt (-4)).toInt32 = (-4) ∧ (Int8.ofInt (-3)).toInt32 = (-3) ∧ (Int8.ofInt (-2)).toInt32 = (-2) ∧ (Int8.ofInt 6).toInt32 = 6 ∧ (Int8.ofInt 7).toInt32 = 7 ∧ (Int8.ofInt 8).toInt32 = 8 ∧ (Int8.ofInt 9).toInt32 = 9 ∧ (Int8.ofInt 10).toInt32 = 10 ∧ (Int8.ofInt 11).toInt32 = 11 ∧ (Int8.ofInt 16).toInt32 = 16 ∧ (Int8.ofInt 20).toInt32 = 20 ∧ (Int8.ofInt 30).toInt32 = 30 ∧ (Int8.ofInt 40).toInt32 = 40 ∧ (Int8.ofInt 48).toInt32 = 48 ∧ (Int8.ofInt 59).toInt32 = 59 ∧ (Int8.ofInt 63).toInt32 = 63 ∧ (Int8.ofInt 80).toInt32 = 80 ∧ (Int8.ofInt 99).toInt32 = 99 ∧ (Int8.ofInt 100).toInt32 = 100 := ⟨by decide, by decide, by decide, by decide, by decide, by decide, by decide, by decide, by decide, by decide, by decide, by decide, by decide, by decide, by decide, by decide, by decide, by decide, by decide, by decide⟩
theorem K_s : (Int16.ofInt (-10002)).toInt32 = (-10002) ∧ (Int16.ofInt 255).toInt32 = 255 ∧ True := ⟨by decide, by decide, trivial⟩
theorem K_c : Int32.ofNat 2147483648 = (-2147483648) ∧ Int32.ofNat 252645135 = 252645135 ∧ Int32.ofNat 858993459 = 858993459 ∧ Int32.ofNat 1431655765 = 1431655765 := ⟨by decide, by decide, by decide, by decide⟩
theorem K_l : Int64.ofNat 17 = 17 ∧ Int64.ofNat 31 = 31 := ⟨by decide, by decide⟩
def am_nk (o : Option (Option AV)) : Bool := match o with
  | some (some (.inr (.inl _))) => false
  | _ => true
theorem nk_n : am_nk none = true := rfl
theorem nk_sn : am_nk (some none) = true := rfl
theorem nk_i (x : Int32) : am_nk (some (some (.inl x))) = true := rfl
theorem nk_r (x : Option (Nat × Nat)) : am_nk (some (some (.inr (.inr x)))) = true := rfl
theorem nl_s (L : LO) (j : Nat) : am_nl L (j + 1) = am_nk L[j]? := by
  unfold am_nl am_nk
  dsimp only
  generalize L[j]? = o
  rcases o with _ | _ | x | x | x <;> rfl
theorem nl_all (L : LO) : am_nl L 0 = true ∧ am_nl L 1 = am_nk L[0]? ∧ am_nl L 2 = am_nk L[1]? ∧ am_nl L 3 = am_nk L[2]? ∧ am_nl L 4 = am_nk L[3]? ∧ am_nl L 5 = am_nk L[4]? ∧ am_nl L 6 = am_nk L[5]? ∧ am_nl L 7 = am_nk L[6]? ∧ am_nl L 8 = am_nk L[7]? ∧ am_nl L 9 = am_nk L[8]? ∧ am_nl L 10 = am_nk L[9]? ∧ am_nl L 11 = am_nk L[10]? ∧ am_nl L 12 = am_nk L[11]? := ⟨rfl, nl_s L 0, nl_s L 1, nl_s L 2, nl_s L 3, nl_s L 4, nl_s L 5, nl_s L 6, nl_s L 7, nl_s L 8, nl_s L 9, nl_s L 10, nl_s L 11⟩
theorem fl_n : am_fl [] = [] := rfl
theorem fl_i (x : Int32) (r : List AV) : am_fl (.inl x :: r) = some (.inl x) :: am_fl r := rfl
theorem fl_l (x : Int64) (r : List AV) : am_fl (.inr (.inl x) :: r) = some (.inr (.inl x)) :: none :: am_fl r := rfl
theorem fl_r (x : Option (Nat × Nat)) (r : List AV) : am_fl (.inr (.inr x) :: r) = some (.inr (.inr x)) :: am_fl r := rfl
theorem wr_at (g : SG) (o j i : Nat) (v : Int32) (a b c : Nat) : wr g o j i v a b c = if a = o ∧ b = j ∧ c = i then v else g a b c := rfl
def b2i (b : Bool) : Int32 := if b then 1 else 0
theorem b2i_t : b2i true = 1 := rfl
theorem b2i_f : b2i false = 0 := rfl
theorem b2i_01 (b : Bool) : b2i b = 0 ∨ b2i b = 1 := by cases b <;> simp [b2i]
theorem b2i_0 (b : Bool) : (b2i b = 0) = (b = false) := by cases b <;> simp [b2i]
theorem b2i_1 (b : Bool) : (b2i b = 1) = (b = true) := by cases b <;> simp [b2i]
