/-! ===== the law from its entry ===== -/
theorem dz_law_0 : decode code 0 = .ok (.new 7, 3) := by decide +kernel
theorem dz_law_3 : decode code 3 = .ok (.dup, 1) := by decide +kernel
theorem dz_law_4 : decode code 4 = .ok (.invokespecial 9, 3) := by decide +kernel
theorem dz_law_7 : decode code 7 = .ok (.astore_n 1, 1) := by decide +kernel
theorem dz_law_8 : decode code 8 = .ok (.new 10, 3) := by decide +kernel
theorem dz_law_11 : decode code 11 = .ok (.dup, 1) := by decide +kernel
theorem dz_law_12 : decode code 12 = .ok (.invokespecial 12, 3) := by decide +kernel
theorem dz_law_15 : decode code 15 = .ok (.astore_n 2, 1) := by decide +kernel
theorem dz_law_16 : decode code 16 = .ok (.iconst 0, 1) := by decide +kernel
theorem dz_law_17 : decode code 17 = .ok (.istore_n 3, 1) := by decide +kernel
theorem cl_law_9 : (if (0 : Nat) = 0 then Jvm.Cond.methodLink R_law 9 mm_P.1 else .methodLinkNest R_law 9 mm_P.1 "PromisesKept") ∈ lw_tbl := List.mem_of_getElem? (i := 78) (by decide +kernel)
theorem cl_law_12 : (if (0 : Nat) = 0 then Jvm.Cond.methodLink R_law 12 mm_Model.1 else .methodLinkNest R_law 12 mm_Model.1 "PromisesKept") ∈ lw_tbl := List.mem_of_getElem? (i := 772) (by decide +kernel)
theorem cw_law_7 : Jvm.Cond.classLink R_law 7 RX5 ∈ lw_tbl := List.mem_of_getElem? (i := 76) (by decide +kernel)
theorem cw_law_10 : Jvm.Cond.classLink R_law 10 RX6 ∈ lw_tbl := List.mem_of_getElem? (i := 770) (by decide +kernel)
theorem cz_ao : Cond.arrayOver (.object "PromisesKept$Sheet") ∈ lw_tbl := List.mem_of_getElem? (i := 240) (by decide +kernel)
theorem cz_ls : Cond.laysStatic "PromisesKept" "DAYS_OF_DIGEST" "[I" ∈ lw_tbl := List.mem_of_getElem? (i := 755) (by decide +kernel)
theorem cz_is0 : Cond.instantiable RX0 6 ∈ lw_tbl := List.mem_of_getElem? (i := 133) (by decide +kernel)
theorem cz_is1 : Cond.instantiable RX1 14 ∈ lw_tbl := List.mem_of_getElem? (i := 188) (by decide +kernel)
theorem cz_is2 : Cond.instantiable RX2 4 ∈ lw_tbl := List.mem_of_getElem? (i := 139) (by decide +kernel)
theorem cz_is3 : Cond.instantiable RX3 4 ∈ lw_tbl := List.mem_of_getElem? (i := 241) (by decide +kernel)
theorem cz_is4 : Cond.instantiable RX4 9 ∈ lw_tbl := List.mem_of_getElem? (i := 85) (by decide +kernel)
theorem cz_is5 : Cond.instantiable RX5 9 ∈ lw_tbl := List.mem_of_getElem? (i := 77) (by decide +kernel)
theorem cz_is6 : Cond.instantiable RX6 31 ∈ lw_tbl := List.mem_of_getElem? (i := 771) (by decide +kernel)
theorem cz_in5 : Cond.initialized RX5 ∈ lw_tbl := List.mem_of_getElem? (i := 66) (by decide +kernel)
theorem cz_in6 : Cond.initialized RX6 ∈ lw_tbl := List.mem_of_getElem? (i := 72) (by decide +kernel)
/-- what is known of the classes -/
theorem z_K {s : State} {args : Array Value} (hts : ∀ w ∈ lw_tbl, w.before args s = true) : ∃ (D : va_G) (K : am_K3), va_K D vwCl (am_tyl K) s := by
  have hT : ∀ w ∈ lw_tbl, goodWord w = true → w ∈ lw_tbl := fun w h _ => h
  obtain ⟨c0, i0, k0⟩ := u_known (C := RX0) (T := TX0) (N := 6) (n := 6) hts (cz_in hT (ci := 0) rfl) (hts _ cz_is0)
  obtain ⟨c1, i1, k1⟩ := u_known (C := RX1) (T := TX1) (N := 14) (n := 14) hts (cz_in hT (ci := 1) rfl) (hts _ cz_is1)
  obtain ⟨c2, i2, k2⟩ := u_known (C := RX2) (T := TX2) (N := 4) (n := 4) hts (cz_in hT (ci := 2) rfl) (hts _ cz_is2)
  obtain ⟨c3, i3, k3⟩ := u_known (C := RX3) (T := TX3) (N := 4) (n := 4) hts (cz_in hT (ci := 3) rfl) (hts _ cz_is3)
  obtain ⟨c4, i4, k4⟩ := u_known (C := RX4) (T := TX4) (N := 9) (n := 9) hts (cz_in hT (ci := 4) rfl) (hts _ cz_is4)
  obtain ⟨c5, i5, k5⟩ := u_known (C := RX5) (T := TX5) (N := 9) (n := 9) hts (cz_in hT (ci := 5) rfl) (hts _ cz_is5)
  obtain ⟨c6, i6, k6⟩ := u_known (C := RX6) (T := TX6) (N := 31) (n := 31) hts (cz_in hT (ci := 6) rfl) (hts _ cz_is6)
  obtain ⟨cI, kI, pI, f1, f2, f3⟩ := Cond.arrayClass_spec (hts _ cz_ii)
  obtain ⟨cZ, kZ, pZ, g1, g2, g3⟩ := Cond.arrayClass_spec (hts _ cz_iz)
  obtain ⟨pS, cS, kS, s1, -, s3, s4, s5⟩ := Cond.arrayOver_spec (hts _ cz_ao)
  refine ⟨(fun k => match k with | 0 => c0 | 1 => c1 | 2 => c2 | 3 => c3 | 4 => c4 | 5 => c5 | _ => c6, fun k => match k with | 0 => i0 | 1 => i1 | 2 => i2 | 3 => i3 | 4 => i4 | 5 => i5 | _ => i6), (cI, cZ, cS), ?_, ?_⟩
  · intro k q hq
    match k, hq with
    | 0, hq => cases hq; exact k0
    | 1, hq => cases hq; exact k1
    | 2, hq => cases hq; exact k2
    | 3, hq => cases hq; exact k3
    | 4, hq => cases hq; exact k4
    | 5, hq => cases hq; exact k5
    | 6, hq => cases hq; exact k6
    | k + 7, hq => simp [vwCl] at hq
  · intro k q hq
    match k, hq with
    | 0, hq => cases hq; exact ⟨fun n z => ⟨fun k h => (by cases h), kI, f2, pI, f3⟩, f1⟩
    | 1, hq => cases hq; exact ⟨fun n z => ⟨fun k h => (by cases h), kZ, g2, pZ, g3⟩, g1⟩
    | 2, hq => cases hq; exact ⟨fun n z => ⟨fun k h => (by cases h), kS, s3, pS, s4⟩, kS, pS, s3, s4, s1, s5⟩
    | k + 3, hq => simp [am_tyl] at hq
/-- the days of the digest -/
theorem z_days {s : State} {args : Array Value} (hts : ∀ w ∈ lw_tbl, w.before args s = true) (hgv : (Jvm.Cond.and given_1 narrow_1).before args s = true) : ∃ t : Nat, va_X t 3 z13 s s.heap ∧ t < s.heap.size ∧ va_Z "PromisesKept" "DAYS_OF_DIGEST" "[I" (.ref t) (fun q : Nat => s.heap.size ≤ q) s s.heap := by
  have hs := flat_of_before _ hgv
  have harr : (Cond.arrayOf (.static "PromisesKept" "DAYS_OF_DIGEST" "[I") .int).before args s = true := hs _ (by decide +kernel)
  have hlen : (Cond.eq (.length (.static "PromisesKept" "DAYS_OF_DIGEST" "[I")) (.int 3)).before args s = true := hs _ (by decide +kernel)
  have h0 : (Cond.eq (.elem (.static "PromisesKept" "DAYS_OF_DIGEST" "[I") (.int 0)) (.int 0)).before args s = true := hs _ (by decide +kernel)
  have h1 : (Cond.eq (.elem (.static "PromisesKept" "DAYS_OF_DIGEST" "[I") (.int 1)) (.int 10)).before args s = true := hs _ (by decide +kernel)
  have h2 : (Cond.eq (.elem (.static "PromisesKept" "DAYS_OF_DIGEST" "[I") (.int 2)) (.int 30)).before args s = true := hs _ (by decide +kernel)
  have hv := va_eqt hlen
  have hAn : ∀ a : Nat, a < s.heap.size → ¬ (fun q : Nat => s.heap.size ≤ q) a := fun a h => Nat.not_le.mpr h
  obtain ⟨t, ht, cell, c1, c2, c3, c4, c5, c6, c7⟩ := va_Tof (N := 3) (f := fun j => .int (z13 j)) (A := fun q : Nat => s.heap.size ≤ q) (by decide) harr hv (fun j hj => by
    rcases (show j = 0 ∨ j = 1 ∨ j = 2 by omega) with rfl | rfl | rfl
    · exact va_eqt h0
    · exact va_eqt h1
    · exact va_eqt h2) hAn
  refine ⟨t, ⟨cell, c1, c2, c3, ?_, c6⟩, (Array.getElem?_eq_some_iff.mp c1).1, va_Zref (hts _ cz_ls) (hts _ cz_in5) ht hAn⟩
  obtain ⟨a, cell2, e1, e2, e3⟩ := Term.length_spec hv
  cases ht.symm.trans e1
  obtain ⟨e4, -, -, -⟩ := State.arrayAt?_spec e2
  cases c1.symm.trans e4
  have hsz : cell.slots.size < 2 ^ 31 := by
    simp only [Term.eval, Option.bind_eq_bind] at hv
    have ht' := ht
    simp only [Term.eval, Option.bind_eq_bind] at ht'
    rw [ht'] at hv
    simp only [Option.bind_some, e2] at hv
    by_cases hlt : cell.slots.size < 2147483648
    · exact hlt
    · simp [hlt] at hv
  have e6 : (Int32.ofNat cell.slots.size).toInt = (cell.slots.size : Int) := nI_toInt hsz
  have e7 : Int32.ofNat cell.slots.size = Int32.ofNat 3 := c5
  rw [e7] at e6
  have e8 : (Int32.ofNat 3).toInt = 3 := by decide
  omega
set_option maxHeartbeats 4000000 in
set_option maxRecDepth 100000 in
theorem whole_start {p : Program} {e : Env} {s : State} {m : MethodId} {below : List Frame} {meth : Method} {c : Code} (l : Launch) {b L : Nat} {xs : Nat → Int32} (hL : L ≤ 384) (C0 : lw_At p s m meth c b L xs) : W p l e room_1 s m #[Value.ref b] below meth c s.heap [] 0 0 (lw_Z below #[Value.ref b] s) (entryFrame m ([Value.ref b] : List Value).toArray 4) := by
  obtain ⟨hx, hb, hr, hml, hown, hts, hX, hbl, hlocks, hgv⟩ := id C0
  have hT : ∀ w ∈ lw_tbl, goodWord w = true → w ∈ lw_tbl := fun w h _ => h
  have hA : ∀ q : Nat, s.heap.size ≤ q → (fun q : Nat => s.heap.size ≤ q) q := fun _ h => h
  have hbA : ¬ (fun q : Nat => s.heap.size ≤ q) b := Nat.not_le.mpr hbl
  obtain ⟨D, K, hK⟩ := z_K hts
  obtain ⟨t, hX13, ht13, hZ⟩ := z_days hts hgv
  have hN : cz_N s := ⟨va_AO.of (hts _ cz_ao), fun w hw h1 => va_Nw.of (am_nw_tab h1) (hts w hw)⟩
  have hS : va_S (fun q : Nat => s.heap.size ≤ q) s.heap s.heap [] := va_S.rf
  have hP : va_P D vwCl [] s.heap := fun k q h => by simp at h
  have hD : va_D (fun q : Nat => s.heap.size ≤ q) [] := ⟨fun i j p q h => by simp at h, fun k q h => by simp at h⟩
  have hl := lv_entry ([.ref b]) (n := 4) (Nat.le_of_ble_eq_true rfl)
  rw [lg_entry_eq]
  generalize (lg_sl ([.ref b]) ++ List.replicate (4 - (lg_sl ([.ref b])).length) Slot.unset).toArray = ls at hl ⊢
  have hl : lv_has ls 4 [(0, .ref b)] := hl
  generalize hAe : (fun q : Nat => s.heap.size ≤ q) = A at hA hbA hZ hS hD
  refine va_new (ci := 5) (fs := [.null, .null, .null, .null, .null, .null, .null, .int 0, .int 0]) (C := RX5) (T := TX5) (N := 9) hx hb hts (cz_in hT (ci := 5) rfl) tyX5 tyX5_ok hown (hts _ cw_law_7) (hts _ cz_is5) (hts _ cz_in5) hK hP hD hS hA rfl cz_df_P (Nat.le_of_ble_eq_true rfl) (Nat.le_of_ble_eq_true rfl) dz_law_0 (fun q0 H hP hD hS => ?_)
  refine W.widen (k := 1) (n := 9) (Nat.le_refl _) (Nat.le_refl _) ?_
  refine lv_dup hx hb dz_law_3 rfl ?_
  refine cz_call (As := []) (rest := [.ref q0]) hx hb hml hown hts hT hK hN (cz_P l D K q0) cz_cw_P cz_ini_P cz_ins_P rfl rfl cz_ds_P 0 cl_law_9 ⟨Nat.le_of_ble_eq_true rfl, Nat.le_of_ble_eq_true rfl⟩ ⟨Nat.le_of_ble_eq_true rfl, Nat.le_of_ble_eq_true rfl⟩ hP hD hS hA hl.1 (Nat.le_of_ble_eq_true rfl) dz_law_4 rfl (fun u H locs hP hD hS => ?_)
  refine W.widen (k := 47) (n := 612) (Nat.le_refl _) (Nat.le_refl _) ?_
  have hP : va_P D vwCl (kb_P K q0 u) H := hP
  have hD : va_D A (kb_P K q0 u) := hD
  refine lv_astore_n (lv' := [(1, .ref q0), (0, .ref b)]) hx hb dz_law_7 rfl hl (by decide) rfl (fun ls hl => ?_)
  refine va_new (ci := 6) (fs := [.null, .int 0, .int 0, .null, .int 0, .int 0, .null, .null, .null, .int 0, .null, .null, .null, .null, .null, .null, .null, .null, .null, .null, .int 0, .null, .null, .null, .null, .null, .null, .null, .null, .null, .int 0]) (C := RX6) (T := TX6) (N := 31) hx hb hts (cz_in hT (ci := 6) rfl) tyX6 tyX6_ok hown (hts _ cw_law_10) (hts _ cz_is6) (hts _ cz_in6) hK hP hD hS hA rfl cz_df_Model (Nat.le_of_ble_eq_true rfl) (Nat.le_of_ble_eq_true rfl) dz_law_8 (fun q8 H hP hD hS => ?_)
  refine W.widen (k := 48) (n := 643) (Nat.le_refl _) (Nat.le_refl _) ?_
  refine lv_dup hx hb dz_law_11 rfl ?_
  refine cz_call (As := []) (rest := [.ref q8]) hx hb hml hown hts hT hK hN (cz_Model l D K q8) cz_cw_Model cz_ini_Model cz_ins_Model rfl rfl cz_ds_Model 0 cl_law_12 ⟨Nat.le_of_ble_eq_true rfl, Nat.le_of_ble_eq_true rfl⟩ ⟨Nat.le_of_ble_eq_true rfl, Nat.le_of_ble_eq_true rfl⟩ hP hD hS hA hl.1 (Nat.le_of_ble_eq_true rfl) dz_law_12 rfl (fun v H locs hP hD hS => ?_)
  refine W.widen (k := 72) (n := 1350) (Nat.le_refl _) (Nat.le_refl _) ?_
  refine lv_astore_n (lv' := [(2, .ref q8), (1, .ref q0), (0, .ref b)]) hx hb dz_law_15 rfl hl (by decide) rfl (fun ls hl => ?_)
  refine lv_iconst (v := 0) hx hb dz_law_16 (by decide) ?_
  refine lv_istore_n (lv' := [(3, .int 0), (2, .ref q8), (1, .ref q0), (0, .ref b)]) hx hb dz_law_17 rfl hl (by decide) rfl (fun ls hl => ?_)
  obtain ⟨hPw, hDw⟩ := z_world q0 u q8 v t b L xs hP hD
  obtain ⟨g', hev⟩ := lw_lp 0 L 0 (L : Int) (z0 L xs) b0 (by omega) (by omega) (by omega) (ii_nat L) (z_CI L xs)
  obtain ⟨n, hn⟩ := (am_ev_iff _ _ _ _ _ _ _).mp hev
  have hRO : am_RO (zad q0 u q8 v t b) A (z0 L xs) s s.heap := ⟨⟨hX13, ht13, by rw [← hAe]; exact Nat.not_le.mpr ht13⟩, ⟨L, hX, hbl, hbA, rfl, by omega⟩, hZ, fun w hw h1 => va_Nw.of (am_nw_tab h1) (hts w hw)⟩
  have hl9 : lv_has ls 4 (am_lo (zad q0 u q8 v t b) (LL 0)) := lv_sub hl [3, 2, 1, 0] rfl
  refine am_inner (Ts := lw_tbl) (k := 900) (mm := (x, code, 4, some .boolean, am_own_law, true, 1)) (d := 11) (nL := 4) (on := RL) (r := some (.inl (iI 1))) (gz := g') hx rfl hb hml rfl hown hts hT hK (Nat.le_of_ble_eq_true rfl) (Nat.le_of_ble_eq_true rfl) (Nat.le_of_ble_eq_true rfl) (Nat.le_of_ble_eq_true rfl) ?_ ?_ n 18 (LL 0) [] (z0 L xs) H locs ls hn rfl hl9 hPw hDw hS hRO
  · intro d' e9
    cases e9
    exact am_sound l _ D K A 10
  · intro i pc ls H locs hd hrt hP hS
    have e1 : iI 1 = 1 := by decide
    rcases hrt with ⟨rfl, x1, hx1, hq⟩ | ⟨rfl, x1, hx1, -⟩ | ⟨rfl, x1, n1, hx1, -⟩ | ⟨rfl, hx1, -⟩
    · show W p l e room_1 s m #[Value.ref b] below meth c H locs 72 1350 (lw_Z below #[Value.ref b] s) (F0 m pc ls [.int (iI 1)])
      rw [e1]
      refine va_forget (fun q hq => by have := hS.2.2 q hq; rw [← hAe] at this; exact this) ?_
      refine W.widen (k := 600000) (n := 7302250) (Nat.le_of_ble_eq_true rfl) (Nat.le_of_ble_eq_true rfl) ?_
      exact lw_ret hx hb hr hlocks hd
    · cases hx1
    · cases hx1
    · cases hx1
