/-! ===== how all stands as the loop of the law begins ===== -/
theorem am_ce_eq : am_ce = [(0, 0), (0, 7), (1, 0), (1, 1), (1, 2), (1, 3), (1, 4), (1, 5), (1, 6), (2, 0), (2, 3), (2, 4), (2, 5), (3, 0), (3, 1), (3, 2), (3, 3), (4, 0), (4, 1), (4, 2), (4, 3), (5, 0), (5, 3), (5, 4), (5, 5), (5, 6), (5, 7), (6, 0), (6, 3), (6, 4), (6, 5), (6, 6), (6, 7), (7, 0), (7, 3), (7, 4), (7, 5), (7, 6), (7, 7), (8, 0), (8, 1), (9, 0), (9, 1), (10, 0), (10, 1), (11, 0), (11, 1), (12, 0), (12, 1), (12, 4), (12, 7), (12, 8), (12, 9), (12, 11), (12, 12), (12, 13), (12, 14), (12, 15), (12, 16), (12, 17), (12, 18), (12, 19), (12, 20), (12, 22), (12, 23), (12, 24), (12, 25), (12, 26), (12, 27), (12, 28), (12, 29), (12, 30)] := by decide +kernel
theorem fs_0 (ad : Nat → Nat → Nat) (g : SG) (o : Nat) : am_fs ad g o (am_kt.getD 0 []) = [.int (g o 0 0), .int (g o 0 1), .ref (ad o 3), .ref (ad o 4), .ref (ad o 5), .ref (ad 4 0)] := by
  show am_fs ad g o [(0, 0), (0, 0), (2, 6), (2, 6), (2, 10), (4, 4)] = _
  simp [am_fs, am_fv, List.mapIdx_cons]
theorem fs_1 (ad : Nat → Nat → Nat) (g : SG) (o : Nat) : am_fs ad g o (am_kt.getD 1 []) = [.ref (ad 1 0), .ref (ad 2 0), .ref (ad o 3), .ref (ad o 4), .ref (ad o 5), .ref (ad o 6), .ref (ad o 7), .int (g o 0 7), .int (g o 0 8), .int (g o 0 9), .int (g o 0 10), .int (g o 0 11), .int (g o 0 12), .int (g o 0 13)] := by
  show am_fs ad g o [(4, 1), (4, 2), (2, 6), (2, 6), (2, 10), (2, 10), (2, 10), (0, 0), (0, 0), (0, 0), (0, 0), (0, 0), (0, 0), (0, 0)] = _
  simp [am_fs, am_fv, List.mapIdx_cons]
theorem fs_2 (ad : Nat → Nat → Nat) (g : SG) (o : Nat) : am_fs ad g o (am_kt.getD 2 []) = [.ref (ad o 1), .ref (ad o 2), .ref (ad o 3), .int (g o 0 3)] := by
  show am_fs ad g o [(2, 8), (2, 8), (2, 8), (0, 0)] = _
  simp [am_fs, am_fv, List.mapIdx_cons]
theorem fs_3 (ad : Nat → Nat → Nat) (g : SG) (o : Nat) : am_fs ad g o (am_kt.getD 3 []) = [.ref (ad o 1), .int (g o 0 1), .int (g o 0 2), .int (g o 0 3)] := by
  show am_fs ad g o [(2, 48), (1, 0), (0, 0), (0, 0)] = _
  simp [am_fs, am_fv, List.mapIdx_cons]
theorem fs_4 (ad : Nat → Nat → Nat) (g : SG) (o : Nat) : am_fs ad g o (am_kt.getD 4 []) = [.ref (ad o 1), .ref (ad o 2), .ref (ad o 3), .ref (ad o 4), .ref (ad o 5), .ref (ad o 6), .int (g o 0 6), .int (g o 0 7), .int (g o 0 8)] := by
  show am_fs ad g o [(2, 80), (2, 10), (2, 10), (2, 10), (2, 10), (2, 10), (0, 0), (0, 0), (0, 0)] = _
  simp [am_fs, am_fv, List.mapIdx_cons]
theorem fs_5 (ad : Nat → Nat → Nat) (g : SG) (o : Nat) : am_fs ad g o (am_kt.getD 5 []) = [.ref (ad 1 0), .ref (ad 2 0), .ref (ad 3 0), .ref (ad 5 0), .ref (ad 6 0), .ref (ad 7 0), .ref (ad o 7), .int (g o 0 7), .int (g o 0 8)] := by
  show am_fs ad g o [(4, 1), (4, 2), (4, 3), (4, 5), (4, 6), (4, 7), (5, 4), (1, 0), (0, 0)] = _
  simp [am_fs, am_fv, List.mapIdx_cons]
theorem fs_6 (ad : Nat → Nat → Nat) (g : SG) (o : Nat) : am_fs ad g o (am_kt.getD 6 []) = [.ref (ad o 1), .int (g o 0 1), .int (g o 0 2), .ref (ad o 4), .int (g o 0 4), .int (g o 0 5), .ref (ad o 7), .ref (ad o 8), .ref (ad o 9), .int (g o 0 9), .ref (ad o 11), .ref (ad o 12), .ref (ad o 13), .ref (ad o 14), .ref (ad o 15), .ref (ad o 16), .ref (ad o 17), .ref (ad o 18), .ref (ad o 19), .ref (ad o 20), .int (g o 0 20), .ref (ad o 22), .ref (ad o 23), .ref (ad o 24), .ref (ad o 25), .ref (ad o 26), .ref (ad o 27), .ref (ad o 28), .ref (ad o 29), .ref (ad o 30), .int (g o 0 30)] := by
  show am_fs ad g o [(2, 80), (0, 0), (0, 0), (2, 55), (0, 0), (0, 0), (2, 6), (2, 6), (2, 10), (0, 0), (2, 8), (2, 8), (2, 10), (2, 10), (2, 10), (2, 6), (2, 6), (2, 100), (2, 6), (2, 10), (0, 0), (2, 8), (2, 8), (2, 8), (2, 100), (3, 4), (2, 4), (2, 4), (2, 192), (2, 48), (0, 0)] = _
  simp [am_fs, am_fv, List.mapIdx_cons]
theorem et_0_0 (ad : Nat → Nat → Nat) (K : am_K3) (g : SG) : am_et ad K g (0, 0) = .inr (5, [.ref (ad 1 0), .ref (ad 2 0), .ref (ad 3 0), .ref (ad 5 0), .ref (ad 6 0), .ref (ad 7 0), .ref (ad 0 7), .int (g 0 0 7), .int (g 0 0 8)]) := by rw [am_et_o ad K g (a := 5) rfl, fs_5]
theorem et_0_7 (ad : Nat → Nat → Nat) (K : am_K3) (g : SG) : am_et ad K g (0, 7) = .inl (K.2.2, 4, .inr (.inr (.inr (.inr (fun i => some (ad (8 + i) 0)))))) := am_et_q ad K g (n := 4) rfl
theorem et_1_0 (ad : Nat → Nat → Nat) (K : am_K3) (g : SG) : am_et ad K g (1, 0) = .inr (4, [.ref (ad 1 1), .ref (ad 1 2), .ref (ad 1 3), .ref (ad 1 4), .ref (ad 1 5), .ref (ad 1 6), .int (g 1 0 6), .int (g 1 0 7), .int (g 1 0 8)]) := by rw [am_et_o ad K g (a := 4) rfl, fs_4]
theorem et_1_1 (ad : Nat → Nat → Nat) (K : am_K3) (g : SG) : am_et ad K g (1, 1) = .inl (K.1, 80, .inl (g 1 1)) := am_et_a ad K g (n := 80) rfl
theorem et_1_2 (ad : Nat → Nat → Nat) (K : am_K3) (g : SG) : am_et ad K g (1, 2) = .inl (K.1, 10, .inl (g 1 2)) := am_et_a ad K g (n := 10) rfl
theorem et_1_3 (ad : Nat → Nat → Nat) (K : am_K3) (g : SG) : am_et ad K g (1, 3) = .inl (K.1, 10, .inl (g 1 3)) := am_et_a ad K g (n := 10) rfl
theorem et_1_4 (ad : Nat → Nat → Nat) (K : am_K3) (g : SG) : am_et ad K g (1, 4) = .inl (K.1, 10, .inl (g 1 4)) := am_et_a ad K g (n := 10) rfl
theorem et_1_5 (ad : Nat → Nat → Nat) (K : am_K3) (g : SG) : am_et ad K g (1, 5) = .inl (K.1, 10, .inl (g 1 5)) := am_et_a ad K g (n := 10) rfl
theorem et_1_6 (ad : Nat → Nat → Nat) (K : am_K3) (g : SG) : am_et ad K g (1, 6) = .inl (K.1, 10, .inl (g 1 6)) := am_et_a ad K g (n := 10) rfl
theorem et_2_0 (ad : Nat → Nat → Nat) (K : am_K3) (g : SG) : am_et ad K g (2, 0) = .inr (0, [.int (g 2 0 0), .int (g 2 0 1), .ref (ad 2 3), .ref (ad 2 4), .ref (ad 2 5), .ref (ad 4 0)]) := by rw [am_et_o ad K g (a := 0) rfl, fs_0]
theorem et_2_3 (ad : Nat → Nat → Nat) (K : am_K3) (g : SG) : am_et ad K g (2, 3) = .inl (K.1, 6, .inl (g 2 3)) := am_et_a ad K g (n := 6) rfl
theorem et_2_4 (ad : Nat → Nat → Nat) (K : am_K3) (g : SG) : am_et ad K g (2, 4) = .inl (K.1, 6, .inl (g 2 4)) := am_et_a ad K g (n := 6) rfl
theorem et_2_5 (ad : Nat → Nat → Nat) (K : am_K3) (g : SG) : am_et ad K g (2, 5) = .inl (K.1, 10, .inl (g 2 5)) := am_et_a ad K g (n := 10) rfl
theorem et_3_0 (ad : Nat → Nat → Nat) (K : am_K3) (g : SG) : am_et ad K g (3, 0) = .inr (2, [.ref (ad 3 1), .ref (ad 3 2), .ref (ad 3 3), .int (g 3 0 3)]) := by rw [am_et_o ad K g (a := 2) rfl, fs_2]
theorem et_3_1 (ad : Nat → Nat → Nat) (K : am_K3) (g : SG) : am_et ad K g (3, 1) = .inl (K.1, 8, .inl (g 3 1)) := am_et_a ad K g (n := 8) rfl
theorem et_3_2 (ad : Nat → Nat → Nat) (K : am_K3) (g : SG) : am_et ad K g (3, 2) = .inl (K.1, 8, .inl (g 3 2)) := am_et_a ad K g (n := 8) rfl
theorem et_3_3 (ad : Nat → Nat → Nat) (K : am_K3) (g : SG) : am_et ad K g (3, 3) = .inl (K.1, 8, .inl (g 3 3)) := am_et_a ad K g (n := 8) rfl
theorem et_4_0 (ad : Nat → Nat → Nat) (K : am_K3) (g : SG) : am_et ad K g (4, 0) = .inr (2, [.ref (ad 4 1), .ref (ad 4 2), .ref (ad 4 3), .int (g 4 0 3)]) := by rw [am_et_o ad K g (a := 2) rfl, fs_2]
theorem et_4_1 (ad : Nat → Nat → Nat) (K : am_K3) (g : SG) : am_et ad K g (4, 1) = .inl (K.1, 8, .inl (g 4 1)) := am_et_a ad K g (n := 8) rfl
theorem et_4_2 (ad : Nat → Nat → Nat) (K : am_K3) (g : SG) : am_et ad K g (4, 2) = .inl (K.1, 8, .inl (g 4 2)) := am_et_a ad K g (n := 8) rfl
theorem et_4_3 (ad : Nat → Nat → Nat) (K : am_K3) (g : SG) : am_et ad K g (4, 3) = .inl (K.1, 8, .inl (g 4 3)) := am_et_a ad K g (n := 8) rfl
theorem et_5_0 (ad : Nat → Nat → Nat) (K : am_K3) (g : SG) : am_et ad K g (5, 0) = .inr (1, [.ref (ad 1 0), .ref (ad 2 0), .ref (ad 5 3), .ref (ad 5 4), .ref (ad 5 5), .ref (ad 5 6), .ref (ad 5 7), .int (g 5 0 7), .int (g 5 0 8), .int (g 5 0 9), .int (g 5 0 10), .int (g 5 0 11), .int (g 5 0 12), .int (g 5 0 13)]) := by rw [am_et_o ad K g (a := 1) rfl, fs_1]
theorem et_5_3 (ad : Nat → Nat → Nat) (K : am_K3) (g : SG) : am_et ad K g (5, 3) = .inl (K.1, 6, .inl (g 5 3)) := am_et_a ad K g (n := 6) rfl
theorem et_5_4 (ad : Nat → Nat → Nat) (K : am_K3) (g : SG) : am_et ad K g (5, 4) = .inl (K.1, 6, .inl (g 5 4)) := am_et_a ad K g (n := 6) rfl
theorem et_5_5 (ad : Nat → Nat → Nat) (K : am_K3) (g : SG) : am_et ad K g (5, 5) = .inl (K.1, 10, .inl (g 5 5)) := am_et_a ad K g (n := 10) rfl
theorem et_5_6 (ad : Nat → Nat → Nat) (K : am_K3) (g : SG) : am_et ad K g (5, 6) = .inl (K.1, 10, .inl (g 5 6)) := am_et_a ad K g (n := 10) rfl
theorem et_5_7 (ad : Nat → Nat → Nat) (K : am_K3) (g : SG) : am_et ad K g (5, 7) = .inl (K.1, 10, .inl (g 5 7)) := am_et_a ad K g (n := 10) rfl
theorem et_6_0 (ad : Nat → Nat → Nat) (K : am_K3) (g : SG) : am_et ad K g (6, 0) = .inr (1, [.ref (ad 1 0), .ref (ad 2 0), .ref (ad 6 3), .ref (ad 6 4), .ref (ad 6 5), .ref (ad 6 6), .ref (ad 6 7), .int (g 6 0 7), .int (g 6 0 8), .int (g 6 0 9), .int (g 6 0 10), .int (g 6 0 11), .int (g 6 0 12), .int (g 6 0 13)]) := by rw [am_et_o ad K g (a := 1) rfl, fs_1]
theorem et_6_3 (ad : Nat → Nat → Nat) (K : am_K3) (g : SG) : am_et ad K g (6, 3) = .inl (K.1, 6, .inl (g 6 3)) := am_et_a ad K g (n := 6) rfl
theorem et_6_4 (ad : Nat → Nat → Nat) (K : am_K3) (g : SG) : am_et ad K g (6, 4) = .inl (K.1, 6, .inl (g 6 4)) := am_et_a ad K g (n := 6) rfl
theorem et_6_5 (ad : Nat → Nat → Nat) (K : am_K3) (g : SG) : am_et ad K g (6, 5) = .inl (K.1, 10, .inl (g 6 5)) := am_et_a ad K g (n := 10) rfl
theorem et_6_6 (ad : Nat → Nat → Nat) (K : am_K3) (g : SG) : am_et ad K g (6, 6) = .inl (K.1, 10, .inl (g 6 6)) := am_et_a ad K g (n := 10) rfl
theorem et_6_7 (ad : Nat → Nat → Nat) (K : am_K3) (g : SG) : am_et ad K g (6, 7) = .inl (K.1, 10, .inl (g 6 7)) := am_et_a ad K g (n := 10) rfl
theorem et_7_0 (ad : Nat → Nat → Nat) (K : am_K3) (g : SG) : am_et ad K g (7, 0) = .inr (1, [.ref (ad 1 0), .ref (ad 2 0), .ref (ad 7 3), .ref (ad 7 4), .ref (ad 7 5), .ref (ad 7 6), .ref (ad 7 7), .int (g 7 0 7), .int (g 7 0 8), .int (g 7 0 9), .int (g 7 0 10), .int (g 7 0 11), .int (g 7 0 12), .int (g 7 0 13)]) := by rw [am_et_o ad K g (a := 1) rfl, fs_1]
theorem et_7_3 (ad : Nat → Nat → Nat) (K : am_K3) (g : SG) : am_et ad K g (7, 3) = .inl (K.1, 6, .inl (g 7 3)) := am_et_a ad K g (n := 6) rfl
theorem et_7_4 (ad : Nat → Nat → Nat) (K : am_K3) (g : SG) : am_et ad K g (7, 4) = .inl (K.1, 6, .inl (g 7 4)) := am_et_a ad K g (n := 6) rfl
theorem et_7_5 (ad : Nat → Nat → Nat) (K : am_K3) (g : SG) : am_et ad K g (7, 5) = .inl (K.1, 10, .inl (g 7 5)) := am_et_a ad K g (n := 10) rfl
theorem et_7_6 (ad : Nat → Nat → Nat) (K : am_K3) (g : SG) : am_et ad K g (7, 6) = .inl (K.1, 10, .inl (g 7 6)) := am_et_a ad K g (n := 10) rfl
theorem et_7_7 (ad : Nat → Nat → Nat) (K : am_K3) (g : SG) : am_et ad K g (7, 7) = .inl (K.1, 10, .inl (g 7 7)) := am_et_a ad K g (n := 10) rfl
theorem et_8_0 (ad : Nat → Nat → Nat) (K : am_K3) (g : SG) : am_et ad K g (8, 0) = .inr (3, [.ref (ad 8 1), .int (g 8 0 1), .int (g 8 0 2), .int (g 8 0 3)]) := by rw [am_et_o ad K g (a := 3) rfl, fs_3]
theorem et_8_1 (ad : Nat → Nat → Nat) (K : am_K3) (g : SG) : am_et ad K g (8, 1) = .inl (K.1, 48, .inl (g 8 1)) := am_et_a ad K g (n := 48) rfl
theorem et_9_0 (ad : Nat → Nat → Nat) (K : am_K3) (g : SG) : am_et ad K g (9, 0) = .inr (3, [.ref (ad 9 1), .int (g 9 0 1), .int (g 9 0 2), .int (g 9 0 3)]) := by rw [am_et_o ad K g (a := 3) rfl, fs_3]
theorem et_9_1 (ad : Nat → Nat → Nat) (K : am_K3) (g : SG) : am_et ad K g (9, 1) = .inl (K.1, 48, .inl (g 9 1)) := am_et_a ad K g (n := 48) rfl
theorem et_10_0 (ad : Nat → Nat → Nat) (K : am_K3) (g : SG) : am_et ad K g (10, 0) = .inr (3, [.ref (ad 10 1), .int (g 10 0 1), .int (g 10 0 2), .int (g 10 0 3)]) := by rw [am_et_o ad K g (a := 3) rfl, fs_3]
theorem et_10_1 (ad : Nat → Nat → Nat) (K : am_K3) (g : SG) : am_et ad K g (10, 1) = .inl (K.1, 48, .inl (g 10 1)) := am_et_a ad K g (n := 48) rfl
theorem et_11_0 (ad : Nat → Nat → Nat) (K : am_K3) (g : SG) : am_et ad K g (11, 0) = .inr (3, [.ref (ad 11 1), .int (g 11 0 1), .int (g 11 0 2), .int (g 11 0 3)]) := by rw [am_et_o ad K g (a := 3) rfl, fs_3]
theorem et_11_1 (ad : Nat → Nat → Nat) (K : am_K3) (g : SG) : am_et ad K g (11, 1) = .inl (K.1, 48, .inl (g 11 1)) := am_et_a ad K g (n := 48) rfl
theorem et_12_0 (ad : Nat → Nat → Nat) (K : am_K3) (g : SG) : am_et ad K g (12, 0) = .inr (6, [.ref (ad 12 1), .int (g 12 0 1), .int (g 12 0 2), .ref (ad 12 4), .int (g 12 0 4), .int (g 12 0 5), .ref (ad 12 7), .ref (ad 12 8), .ref (ad 12 9), .int (g 12 0 9), .ref (ad 12 11), .ref (ad 12 12), .ref (ad 12 13), .ref (ad 12 14), .ref (ad 12 15), .ref (ad 12 16), .ref (ad 12 17), .ref (ad 12 18), .ref (ad 12 19), .ref (ad 12 20), .int (g 12 0 20), .ref (ad 12 22), .ref (ad 12 23), .ref (ad 12 24), .ref (ad 12 25), .ref (ad 12 26), .ref (ad 12 27), .ref (ad 12 28), .ref (ad 12 29), .ref (ad 12 30), .int (g 12 0 30)]) := by rw [am_et_o ad K g (a := 6) rfl, fs_6]
theorem et_12_1 (ad : Nat → Nat → Nat) (K : am_K3) (g : SG) : am_et ad K g (12, 1) = .inl (K.1, 80, .inl (g 12 1)) := am_et_a ad K g (n := 80) rfl
theorem et_12_4 (ad : Nat → Nat → Nat) (K : am_K3) (g : SG) : am_et ad K g (12, 4) = .inl (K.1, 55, .inl (g 12 4)) := am_et_a ad K g (n := 55) rfl
theorem et_12_7 (ad : Nat → Nat → Nat) (K : am_K3) (g : SG) : am_et ad K g (12, 7) = .inl (K.1, 6, .inl (g 12 7)) := am_et_a ad K g (n := 6) rfl
theorem et_12_8 (ad : Nat → Nat → Nat) (K : am_K3) (g : SG) : am_et ad K g (12, 8) = .inl (K.1, 6, .inl (g 12 8)) := am_et_a ad K g (n := 6) rfl
theorem et_12_9 (ad : Nat → Nat → Nat) (K : am_K3) (g : SG) : am_et ad K g (12, 9) = .inl (K.1, 10, .inl (g 12 9)) := am_et_a ad K g (n := 10) rfl
theorem et_12_11 (ad : Nat → Nat → Nat) (K : am_K3) (g : SG) : am_et ad K g (12, 11) = .inl (K.1, 8, .inl (g 12 11)) := am_et_a ad K g (n := 8) rfl
theorem et_12_12 (ad : Nat → Nat → Nat) (K : am_K3) (g : SG) : am_et ad K g (12, 12) = .inl (K.1, 8, .inl (g 12 12)) := am_et_a ad K g (n := 8) rfl
theorem et_12_13 (ad : Nat → Nat → Nat) (K : am_K3) (g : SG) : am_et ad K g (12, 13) = .inl (K.1, 10, .inl (g 12 13)) := am_et_a ad K g (n := 10) rfl
theorem et_12_14 (ad : Nat → Nat → Nat) (K : am_K3) (g : SG) : am_et ad K g (12, 14) = .inl (K.1, 10, .inl (g 12 14)) := am_et_a ad K g (n := 10) rfl
theorem et_12_15 (ad : Nat → Nat → Nat) (K : am_K3) (g : SG) : am_et ad K g (12, 15) = .inl (K.1, 10, .inl (g 12 15)) := am_et_a ad K g (n := 10) rfl
theorem et_12_16 (ad : Nat → Nat → Nat) (K : am_K3) (g : SG) : am_et ad K g (12, 16) = .inl (K.1, 6, .inl (g 12 16)) := am_et_a ad K g (n := 6) rfl
theorem et_12_17 (ad : Nat → Nat → Nat) (K : am_K3) (g : SG) : am_et ad K g (12, 17) = .inl (K.1, 6, .inl (g 12 17)) := am_et_a ad K g (n := 6) rfl
theorem et_12_18 (ad : Nat → Nat → Nat) (K : am_K3) (g : SG) : am_et ad K g (12, 18) = .inl (K.1, 100, .inl (g 12 18)) := am_et_a ad K g (n := 100) rfl
theorem et_12_19 (ad : Nat → Nat → Nat) (K : am_K3) (g : SG) : am_et ad K g (12, 19) = .inl (K.1, 6, .inl (g 12 19)) := am_et_a ad K g (n := 6) rfl
theorem et_12_20 (ad : Nat → Nat → Nat) (K : am_K3) (g : SG) : am_et ad K g (12, 20) = .inl (K.1, 10, .inl (g 12 20)) := am_et_a ad K g (n := 10) rfl
theorem et_12_22 (ad : Nat → Nat → Nat) (K : am_K3) (g : SG) : am_et ad K g (12, 22) = .inl (K.1, 8, .inl (g 12 22)) := am_et_a ad K g (n := 8) rfl
theorem et_12_23 (ad : Nat → Nat → Nat) (K : am_K3) (g : SG) : am_et ad K g (12, 23) = .inl (K.1, 8, .inl (g 12 23)) := am_et_a ad K g (n := 8) rfl
theorem et_12_24 (ad : Nat → Nat → Nat) (K : am_K3) (g : SG) : am_et ad K g (12, 24) = .inl (K.1, 8, .inl (g 12 24)) := am_et_a ad K g (n := 8) rfl
theorem et_12_25 (ad : Nat → Nat → Nat) (K : am_K3) (g : SG) : am_et ad K g (12, 25) = .inl (K.1, 100, .inl (g 12 25)) := am_et_a ad K g (n := 100) rfl
theorem et_12_26 (ad : Nat → Nat → Nat) (K : am_K3) (g : SG) : am_et ad K g (12, 26) = .inl (K.2.1, 4, .inl (g 12 26)) := am_et_z ad K g (n := 4) rfl
theorem et_12_27 (ad : Nat → Nat → Nat) (K : am_K3) (g : SG) : am_et ad K g (12, 27) = .inl (K.1, 4, .inl (g 12 27)) := am_et_a ad K g (n := 4) rfl
theorem et_12_28 (ad : Nat → Nat → Nat) (K : am_K3) (g : SG) : am_et ad K g (12, 28) = .inl (K.1, 4, .inl (g 12 28)) := am_et_a ad K g (n := 4) rfl
theorem et_12_29 (ad : Nat → Nat → Nat) (K : am_K3) (g : SG) : am_et ad K g (12, 29) = .inl (K.1, 192, .inl (g 12 29)) := am_et_a ad K g (n := 192) rfl
theorem et_12_30 (ad : Nat → Nat → Nat) (K : am_K3) (g : SG) : am_et ad K g (12, 30) = .inl (K.1, 48, .inl (g 12 30)) := am_et_a ad K g (n := 48) rfl
theorem am_wl_eq (ad : Nat → Nat → Nat) (K : am_K3) (g : SG) : am_wl ad K g = [(ad 0 0, .inr (5, [.ref (ad 1 0), .ref (ad 2 0), .ref (ad 3 0), .ref (ad 5 0), .ref (ad 6 0), .ref (ad 7 0), .ref (ad 0 7), .int (g 0 0 7), .int (g 0 0 8)])), (ad 0 7, .inl (K.2.2, 4, .inr (.inr (.inr (.inr (fun i => some (ad (8 + i) 0))))))), (ad 1 0, .inr (4, [.ref (ad 1 1), .ref (ad 1 2), .ref (ad 1 3), .ref (ad 1 4), .ref (ad 1 5), .ref (ad 1 6), .int (g 1 0 6), .int (g 1 0 7), .int (g 1 0 8)])), (ad 1 1, .inl (K.1, 80, .inl (g 1 1))), (ad 1 2, .inl (K.1, 10, .inl (g 1 2))), (ad 1 3, .inl (K.1, 10, .inl (g 1 3))), (ad 1 4, .inl (K.1, 10, .inl (g 1 4))), (ad 1 5, .inl (K.1, 10, .inl (g 1 5))), (ad 1 6, .inl (K.1, 10, .inl (g 1 6))), (ad 2 0, .inr (0, [.int (g 2 0 0), .int (g 2 0 1), .ref (ad 2 3), .ref (ad 2 4), .ref (ad 2 5), .ref (ad 4 0)])), (ad 2 3, .inl (K.1, 6, .inl (g 2 3))), (ad 2 4, .inl (K.1, 6, .inl (g 2 4))), (ad 2 5, .inl (K.1, 10, .inl (g 2 5))), (ad 3 0, .inr (2, [.ref (ad 3 1), .ref (ad 3 2), .ref (ad 3 3), .int (g 3 0 3)])), (ad 3 1, .inl (K.1, 8, .inl (g 3 1))), (ad 3 2, .inl (K.1, 8, .inl (g 3 2))), (ad 3 3, .inl (K.1, 8, .inl (g 3 3))), (ad 4 0, .inr (2, [.ref (ad 4 1), .ref (ad 4 2), .ref (ad 4 3), .int (g 4 0 3)])), (ad 4 1, .inl (K.1, 8, .inl (g 4 1))), (ad 4 2, .inl (K.1, 8, .inl (g 4 2))), (ad 4 3, .inl (K.1, 8, .inl (g 4 3))), (ad 5 0, .inr (1, [.ref (ad 1 0), .ref (ad 2 0), .ref (ad 5 3), .ref (ad 5 4), .ref (ad 5 5), .ref (ad 5 6), .ref (ad 5 7), .int (g 5 0 7), .int (g 5 0 8), .int (g 5 0 9), .int (g 5 0 10), .int (g 5 0 11), .int (g 5 0 12), .int (g 5 0 13)])), (ad 5 3, .inl (K.1, 6, .inl (g 5 3))), (ad 5 4, .inl (K.1, 6, .inl (g 5 4))), (ad 5 5, .inl (K.1, 10, .inl (g 5 5))), (ad 5 6, .inl (K.1, 10, .inl (g 5 6))), (ad 5 7, .inl (K.1, 10, .inl (g 5 7))), (ad 6 0, .inr (1, [.ref (ad 1 0), .ref (ad 2 0), .ref (ad 6 3), .ref (ad 6 4), .ref (ad 6 5), .ref (ad 6 6), .ref (ad 6 7), .int (g 6 0 7), .int (g 6 0 8), .int (g 6 0 9), .int (g 6 0 10), .int (g 6 0 11), .int (g 6 0 12), .int (g 6 0 13)])), (ad 6 3, .inl (K.1, 6, .inl (g 6 3))), (ad 6 4, .inl (K.1, 6, .inl (g 6 4))), (ad 6 5, .inl (K.1, 10, .inl (g 6 5))), (ad 6 6, .inl (K.1, 10, .inl (g 6 6))), (ad 6 7, .inl (K.1, 10, .inl (g 6 7))), (ad 7 0, .inr (1, [.ref (ad 1 0), .ref (ad 2 0), .ref (ad 7 3), .ref (ad 7 4), .ref (ad 7 5), .ref (ad 7 6), .ref (ad 7 7), .int (g 7 0 7), .int (g 7 0 8), .int (g 7 0 9), .int (g 7 0 10), .int (g 7 0 11), .int (g 7 0 12), .int (g 7 0 13)])), (ad 7 3, .inl (K.1, 6, .inl (g 7 3))), (ad 7 4, .inl (K.1, 6, .inl (g 7 4))), (ad 7 5, .inl (K.1, 10, .inl (g 7 5))), (ad 7 6, .inl (K.1, 10, .inl (g 7 6))), (ad 7 7, .inl (K.1, 10, .inl (g 7 7))), (ad 8 0, .inr (3, [.ref (ad 8 1), .int (g 8 0 1), .int (g 8 0 2), .int (g 8 0 3)])), (ad 8 1, .inl (K.1, 48, .inl (g 8 1))), (ad 9 0, .inr (3, [.ref (ad 9 1), .int (g 9 0 1), .int (g 9 0 2), .int (g 9 0 3)])), (ad 9 1, .inl (K.1, 48, .inl (g 9 1))), (ad 10 0, .inr (3, [.ref (ad 10 1), .int (g 10 0 1), .int (g 10 0 2), .int (g 10 0 3)])), (ad 10 1, .inl (K.1, 48, .inl (g 10 1))), (ad 11 0, .inr (3, [.ref (ad 11 1), .int (g 11 0 1), .int (g 11 0 2), .int (g 11 0 3)])), (ad 11 1, .inl (K.1, 48, .inl (g 11 1))), (ad 12 0, .inr (6, [.ref (ad 12 1), .int (g 12 0 1), .int (g 12 0 2), .ref (ad 12 4), .int (g 12 0 4), .int (g 12 0 5), .ref (ad 12 7), .ref (ad 12 8), .ref (ad 12 9), .int (g 12 0 9), .ref (ad 12 11), .ref (ad 12 12), .ref (ad 12 13), .ref (ad 12 14), .ref (ad 12 15), .ref (ad 12 16), .ref (ad 12 17), .ref (ad 12 18), .ref (ad 12 19), .ref (ad 12 20), .int (g 12 0 20), .ref (ad 12 22), .ref (ad 12 23), .ref (ad 12 24), .ref (ad 12 25), .ref (ad 12 26), .ref (ad 12 27), .ref (ad 12 28), .ref (ad 12 29), .ref (ad 12 30), .int (g 12 0 30)])), (ad 12 1, .inl (K.1, 80, .inl (g 12 1))), (ad 12 4, .inl (K.1, 55, .inl (g 12 4))), (ad 12 7, .inl (K.1, 6, .inl (g 12 7))), (ad 12 8, .inl (K.1, 6, .inl (g 12 8))), (ad 12 9, .inl (K.1, 10, .inl (g 12 9))), (ad 12 11, .inl (K.1, 8, .inl (g 12 11))), (ad 12 12, .inl (K.1, 8, .inl (g 12 12))), (ad 12 13, .inl (K.1, 10, .inl (g 12 13))), (ad 12 14, .inl (K.1, 10, .inl (g 12 14))), (ad 12 15, .inl (K.1, 10, .inl (g 12 15))), (ad 12 16, .inl (K.1, 6, .inl (g 12 16))), (ad 12 17, .inl (K.1, 6, .inl (g 12 17))), (ad 12 18, .inl (K.1, 100, .inl (g 12 18))), (ad 12 19, .inl (K.1, 6, .inl (g 12 19))), (ad 12 20, .inl (K.1, 10, .inl (g 12 20))), (ad 12 22, .inl (K.1, 8, .inl (g 12 22))), (ad 12 23, .inl (K.1, 8, .inl (g 12 23))), (ad 12 24, .inl (K.1, 8, .inl (g 12 24))), (ad 12 25, .inl (K.1, 100, .inl (g 12 25))), (ad 12 26, .inl (K.2.1, 4, .inl (g 12 26))), (ad 12 27, .inl (K.1, 4, .inl (g 12 27))), (ad 12 28, .inl (K.1, 4, .inl (g 12 28))), (ad 12 29, .inl (K.1, 192, .inl (g 12 29))), (ad 12 30, .inl (K.1, 48, .inl (g 12 30)))] := by
  unfold am_wl
  rw [am_ce_eq]
  simp only [List.map_cons, List.map_nil, et_0_0, et_0_7, et_1_0, et_1_1, et_1_2, et_1_3, et_1_4, et_1_5, et_1_6, et_2_0, et_2_3, et_2_4, et_2_5, et_3_0, et_3_1, et_3_2, et_3_3, et_4_0, et_4_1, et_4_2, et_4_3, et_5_0, et_5_3, et_5_4, et_5_5, et_5_6, et_5_7, et_6_0, et_6_3, et_6_4, et_6_5, et_6_6, et_6_7, et_7_0, et_7_3, et_7_4, et_7_5, et_7_6, et_7_7, et_8_0, et_8_1, et_9_0, et_9_1, et_10_0, et_10_1, et_11_0, et_11_1, et_12_0, et_12_1, et_12_4, et_12_7, et_12_8, et_12_9, et_12_11, et_12_12, et_12_13, et_12_14, et_12_15, et_12_16, et_12_17, et_12_18, et_12_19, et_12_20, et_12_22, et_12_23, et_12_24, et_12_25, et_12_26, et_12_27, et_12_28, et_12_29, et_12_30]
def u9 : Nat → Int32 := upd (upd (upd (upd (upd (upd (fun _ => 0) 0 9) 1 9) 2 9) 3 9) 4 9) 5 9
def u50 : Nat → Int32 := upd (upd (upd (upd (upd (upd (fun _ => 0) 0 50) 1 50) 2 50) 3 50) 4 50) 5 50
def z13 : Nat → Int32 := fun i => match i with
  | 1 => 10
  | 2 => 30
  | _ => 0
def z0 (L : Nat) (xs : Nat → Int32) : SG := fun o j => match o with
  | 0 => (match j with
    | 0 => (fun i => match i with
      | 7 => 1
      | _ => 0)
    | _ => fun _ => 0)
  | 1 => (match j with
    | 0 => (fun i => match i with
      | 8 => -1
      | _ => 0)
    | _ => fun _ => 0)
  | 2 => (match j with
    | 0 => (fun i => match i with
      | 0 => 3
      | _ => 0)
    | 3 => u9
    | 4 => u50
    | _ => fun _ => 0)
  | 3 => fun _ => 0
  | 4 => fun _ => 0
  | 12 => (match j with
    | 0 => (fun i => match i with
      | 4 => 3
      | _ => 0)
    | 7 => u9
    | 8 => u50
    | _ => fun _ => 0)
  | 13 => z13
  | 14 => (match j with
    | 0 => fun _ => Int32.ofNat L
    | _ => xs)
  | 5 => (match j with
    | 0 => (fun i => match i with
      | 9 => -1
      | 10 => -1
      | _ => 0)
    | _ => fun _ => 0)
  | 6 => (match j with
    | 0 => (fun i => match i with
      | 9 => -1
      | 10 => -1
      | _ => 0)
    | _ => fun _ => 0)
  | 7 => (match j with
    | 0 => (fun i => match i with
      | 9 => -1
      | 10 => -1
      | _ => 0)
    | _ => fun _ => 0)
  | _ => (match j with
    | 0 => (fun i => match i with
      | 1 => 1
      | _ => 0)
    | _ => fun _ => 0)
def b0 : BB := fun j i => match j with
  | 0 => (match i with
    | 4 => 3
    | _ => 0)
  | 7 => 9
  | 8 => 50
  | _ => 0
theorem u9_at : ∀ p, p < 6 → u9 p = iI 9 := by decide
theorem u50_at : ∀ p, p < 6 → u50 p = iI 50 := by decide
theorem ie0 : (0 : Int32) = iI 0 := by decide
theorem ie1 : (1 : Int32) = iI 1 := by decide
theorem ie3 : (3 : Int32) = iI 3 := by decide
theorem iem : (-1 : Int32) = iI (-1) := by decide
theorem z_BV : BV b0 := by
  refine ⟨(by decide : (0 : Int) ≤ 0 ∧ (0 : Int) ≤ 80), fun _ => (by decide : (0 : Int) ≤ 0 ∧ (0 : Int) ≤ 255), (by decide : (1 : Int) ≤ 3 ∧ (3 : Int) ≤ 9), (by decide : (0 : Int) ≤ 0 ∧ (0 : Int) ≤ 3), fun _ => (by decide : (0 : Int) ≤ 9 ∧ (9 : Int) ≤ 9), fun _ => (by decide : (0 : Int) ≤ 50 ∧ (50 : Int) ≤ 99), fun _ => (by decide : (0 : Int) ≤ 0 ∧ (0 : Int) < 1024), (by decide : (0 : Int) ≤ 0 ∧ (0 : Int) ≤ 8), fun _ => (by decide : (0 : Int) ≤ 0 ∧ (0 : Int) ≤ 99), fun _ => (by decide : (0 : Int) ≤ 0 ∧ (0 : Int) ≤ 9), (by decide : (0 : Int) ≤ 0 ∧ (0 : Int) ≤ 8), fun _ => (by decide : (0 : Int) ≤ 0 ∧ (0 : Int) ≤ 99), fun _ => (by decide : (0 : Int) ≤ 0 ∧ (0 : Int) ≤ 9), fun _ => (by decide : (0 : Int) ≤ 0 ∧ (0 : Int) ≤ 1), fun _ => (by decide : (0 : Int) ≤ 0 ∧ (0 : Int) ≤ 1), fun _ => (by decide : (0 : Int) ≤ 0 ∧ (0 : Int) ≤ 2), fun _ => (by decide : (0 : Int) ≤ 0 ∧ (0 : Int) ≤ 48), fun _ => (by decide : (-2147483648 : Int) ≤ 0 ∧ (0 : Int) < 2147483648), (by decide : (0 : Int) ≤ 0 ∧ (0 : Int) ≤ 5)⟩
theorem z_bn : bn b0 = 0 := rfl
theorem z_F (t : Nat → Int) : zF t 0 = -1 := by
  unfold zF
  rw [if_neg (Nat.not_lt_zero _), if_pos (Or.inl rfl)]
theorem z_N (t : Nat → Int) : zN t 0 = 0 := by
  unfold zN
  rw [z_F, if_pos rfl]
theorem z_XB (L : Nat) (xs : Nat → Int32) : XB (z0 L xs) b0 := by
  refine ⟨⟨⟨ie0, Nat.zero_le _, fun k hk => absurd hk (Nat.not_lt_zero k)⟩, ?_, ?_, fun w hw => ?_⟩, ie3, ie0, fun p hp => ⟨u9_at p hp, u50_at p hp⟩, fun _ _ => ie0, ie0, fun k hk => absurd hk (Nat.not_lt_zero k), ie0, fun k hk => absurd hk (Nat.not_lt_zero k), fun s hs => ?_, ie0⟩
  · rw [z_bn, z_F]; exact iem
  · rw [z_bn, z_N]; exact ie0
  · rw [z_bn, z_N] at hw; exact absurd hw (Nat.not_lt_zero w)
  · rcases (show s = 0 ∨ s = 1 ∨ s = 2 ∨ s = 3 by omega) with rfl | rfl | rfl | rfl <;> exact ⟨ie1, fun h => absurd h (by decide : ¬ (0 : Int) = 1)⟩
theorem z_MB (L : Nat) (xs : Nat → Int32) : MB (z0 L xs) b0 := ⟨⟨ie0, Nat.zero_le _, fun k hk => absurd hk (Nat.not_lt_zero k)⟩, ie3, ie0, fun p hp => ⟨u9_at p hp, u50_at p hp⟩, fun _ _ => ie0, ie0, fun k hk => absurd hk (Nat.not_lt_zero k), ie0, fun k hk => absurd hk (Nat.not_lt_zero k), fun _ _ => ⟨ie0, ie0, ie0⟩, fun _ _ => ie0, ie0⟩
theorem z_CI (L : Nat) (xs : Nat → Int32) : CI (z0 L xs) b0 := ⟨z_BV, ⟨z_XB L xs, Or.inl ie1⟩, z_MB L xs, ⟨ie0, (by decide : (10 : Int32) = iI 10), (by decide : (30 : Int32) = iI 30)⟩⟩
def zad (q : Nat) (u : Nat → Nat → Nat) (q' : Nat) (v : Nat → Nat) (t b : Nat) : Nat → Nat → Nat := fun o j => match o with
  | 0 => (match j with
    | 0 => q
    | _ => u 0 7)
  | 12 => (match j with
    | 0 => q'
    | j + 1 => v (j + 1))
  | 13 => t
  | 14 => b
  | o => u o j
theorem P_perm {D : va_G} {cl : List vw_C} {ws ws' : va_W} {H : Heap} (h : ws.Perm ws') (hP : va_P D cl ws H) : va_P D cl ws' H := by
  intro k q hk
  obtain ⟨i, hi⟩ := List.getElem?_of_mem (h.mem_iff.mpr (List.mem_of_getElem? hk))
  exact hP i q hi
theorem D_nd {A : Nat → Prop} {ws : va_W} : va_D A ws ↔ (ws.map Prod.fst).Nodup ∧ ∀ q ∈ ws, A q.1 := by
  constructor
  · intro h
    refine ⟨?_, fun q hq => ?_⟩
    · unfold List.Nodup
      rw [List.pairwise_iff_getElem]
      intro i j hi hj hij e
      rw [List.length_map] at hi hj
      simp only [List.getElem_map] at e
      have := h.1 i j ws[i] ws[j] (List.getElem?_eq_getElem hi) (List.getElem?_eq_getElem hj) e
      omega
    · obtain ⟨i, hi⟩ := List.getElem?_of_mem hq
      exact h.2 i q hi
  · intro h
    refine ⟨fun i j p q hi hj e => ?_, fun k q hk => h.2 q (List.mem_of_getElem? hk)⟩
    have hl : i < (ws.map Prod.fst).length := by rw [List.length_map]; exact (List.getElem?_eq_some_iff.mp hi).1
    refine (List.getElem?_inj hl h.1).mp ?_
    rw [List.getElem?_map, List.getElem?_map, hi, hj]
    simp [e]
theorem D_perm {A : Nat → Prop} {ws ws' : va_W} (h : ws.Perm ws') (hD : va_D A ws) : va_D A ws' := by
  rw [D_nd] at hD ⊢
  exact ⟨((h.map Prod.fst).nodup_iff).mp hD.1, fun q hq => hD.2 q (h.mem_iff.mpr hq)⟩
theorem cz_mid {D : va_G} {cl : List vw_C} {A : Nat → Prop} {X Y : va_W} {H : Heap} {a n : Nat} {cA : ClassId} {f f' : Nat → Option Nat} (hP : va_P D cl (X ++ ((a, .inl (cA, n, .inr (.inr (.inr (.inr f))))) :: Y)) H) (hD : va_D A (X ++ ((a, .inl (cA, n, .inr (.inr (.inr (.inr f))))) :: Y))) (hf : ∀ i, i < n → f i = f' i) : va_P D cl (X ++ ((a, .inl (cA, n, .inr (.inr (.inr (.inr f'))))) :: Y)) H ∧ va_D A (X ++ ((a, .inl (cA, n, .inr (.inr (.inr (.inr f'))))) :: Y)) := by
  have h1 := cz_same (k := X.length) (a := a) (cA := cA) (n := n) (f := f) (f' := f') hP (by simp) hf
  have h2 := hD.set (p := X.length) (e := .inl (cA, n, .inr (.inr (.inr (.inr f'))))) (show (X ++ ((a, .inl (cA, n, .inr (.inr (.inr (.inr f))))) :: Y))[X.length]? = some (a, .inl (cA, n, .inr (.inr (.inr (.inr f))))) by simp)
  simp only [List.set_append_right _ _ (Nat.le_refl _), Nat.sub_self, List.set_cons_zero] at h1 h2
  exact ⟨h1, h2⟩
theorem perm_blk {α : Type} (p a : α) (W C F N R Y : List α) : (p :: ((W ++ (C ++ (F ++ (N ++ R)))) ++ (a :: Y))).Perm (p :: a :: ((W ++ (C ++ (N ++ (F ++ R)))) ++ Y)) := by
  refine List.Perm.cons p (List.perm_middle.trans (List.Perm.cons a (List.Perm.append_right Y (List.Perm.append_left W (List.Perm.append_left C ?_)))))
  rw [← List.append_assoc, ← List.append_assoc]
  exact List.Perm.append_right R List.perm_append_comm
set_option maxHeartbeats 4000000 in
set_option maxRecDepth 100000 in
theorem z_src (K : am_K3) (q : Nat) (u : Nat → Nat → Nat) (q' : Nat) (v : Nat → Nat) : kb_P K q u ++ kb_Model K q' v = (q, .inr (5, [.ref (u 1 0), .ref (u 2 0), .ref (u 3 0), .ref (u 5 0), .ref (u 6 0), .ref (u 7 0), .ref (u 0 7), .int 1, .int 0])) :: ((kb_Wants K (u 1 0) (u 1) ++ ([(u 2 0, .inr (0, [.int 3, .int 0, .ref ((u 2) 3), .ref ((u 2) 4), .ref ((u 2) 5), .ref ((u 4) 0)])), ((u 2) 3, .inl (K.1, 6, .inl (upd (upd (upd (upd (upd (upd (fun _ => 0) 0 9) 1 9) 2 9) 3 9) 4 9) 5 9))), ((u 2) 4, .inl (K.1, 6, .inl (upd (upd (upd (upd (upd (upd (fun _ => 0) 0 50) 1 50) 2 50) 3 50) 4 50) 5 50))), ((u 2) 5, .inl (K.1, 10, .inl (fun _ => 0)))] ++ (kb_Notes K (u 4 0) (u 4) ++ (kb_Notes K (u 3 0) (u 3) ++ (kb_Course K (u 5 0) (u 1 0) (u 2 0) (u 5) ++ (kb_Course K (u 6 0) (u 1 0) (u 2 0) (u 6) ++ kb_Course K (u 7 0) (u 1 0) (u 2 0) (u 7))))))) ++ ((u 0 7, .inl (K.2.2, 4, .inr (.inr (.inr (.inr (fun i => some (u (8 + i) 0))))))) :: (kb_Sheet K (u 8 0) (u 8) ++ (kb_Sheet K (u 9 0) (u 9) ++ (kb_Sheet K (u 10 0) (u 10) ++ (kb_Sheet K (u 11 0) (u 11) ++ kb_Model K q' v)))))) := by
  unfold kb_P kb_Country
  simp only [List.append_assoc, List.cons_append, List.nil_append]
set_option maxHeartbeats 8000000 in
set_option maxRecDepth 100000 in
theorem z_dst (K : am_K3) (q : Nat) (u : Nat → Nat → Nat) (q' : Nat) (v : Nat → Nat) (t b L : Nat) (xs : Nat → Int32) : am_wl (zad q u q' v t b) K (z0 L xs) = (q, .inr (5, [.ref (u 1 0), .ref (u 2 0), .ref (u 3 0), .ref (u 5 0), .ref (u 6 0), .ref (u 7 0), .ref (u 0 7), .int 1, .int 0])) :: (u 0 7, .inl (K.2.2, 4, .inr (.inr (.inr (.inr (fun i => some ((zad q u q' v t b) (8 + i) 0))))))) :: ((kb_Wants K (u 1 0) (u 1) ++ ([(u 2 0, .inr (0, [.int 3, .int 0, .ref ((u 2) 3), .ref ((u 2) 4), .ref ((u 2) 5), .ref ((u 4) 0)])), ((u 2) 3, .inl (K.1, 6, .inl (upd (upd (upd (upd (upd (upd (fun _ => 0) 0 9) 1 9) 2 9) 3 9) 4 9) 5 9))), ((u 2) 4, .inl (K.1, 6, .inl (upd (upd (upd (upd (upd (upd (fun _ => 0) 0 50) 1 50) 2 50) 3 50) 4 50) 5 50))), ((u 2) 5, .inl (K.1, 10, .inl (fun _ => 0)))] ++ (kb_Notes K (u 3 0) (u 3) ++ (kb_Notes K (u 4 0) (u 4) ++ (kb_Course K (u 5 0) (u 1 0) (u 2 0) (u 5) ++ (kb_Course K (u 6 0) (u 1 0) (u 2 0) (u 6) ++ kb_Course K (u 7 0) (u 1 0) (u 2 0) (u 7))))))) ++ (kb_Sheet K (u 8 0) (u 8) ++ (kb_Sheet K (u 9 0) (u 9) ++ (kb_Sheet K (u 10 0) (u 10) ++ (kb_Sheet K (u 11 0) (u 11) ++ kb_Model K q' v))))) := by
  rw [am_wl_eq]
  rfl
theorem z_world {D : va_G} {K : am_K3} {A : Nat → Prop} {H : Heap} (q : Nat) (u : Nat → Nat → Nat) (q' : Nat) (v : Nat → Nat) (t b L : Nat) (xs : Nat → Int32) (hP : va_P D vwCl (kb_P K q u ++ kb_Model K q' v) H) (hD : va_D A (kb_P K q u ++ kb_Model K q' v)) : va_P D vwCl (am_wl (zad q u q' v t b) K (z0 L xs)) H ∧ va_D A (am_wl (zad q u q' v t b) K (z0 L xs)) := by
  have hf : ∀ i, i < 4 → (fun i => some (u (8 + i) 0)) i = (fun i => some (zad q u q' v t b (8 + i) 0)) i := by
    intro i hi
    rcases (show i = 0 ∨ i = 1 ∨ i = 2 ∨ i = 3 by omega) with rfl | rfl | rfl | rfl <;> rfl
  rw [z_src] at hP hD
  rw [← List.cons_append] at hP hD
  obtain ⟨hP1, hD1⟩ := cz_mid hP hD hf
  rw [List.cons_append] at hP1 hD1
  rw [z_dst]
  exact ⟨P_perm (perm_blk _ _ _ _ _ _ _ _) hP1, D_perm (perm_blk _ _ _ _ _ _ _ _) hD1⟩
