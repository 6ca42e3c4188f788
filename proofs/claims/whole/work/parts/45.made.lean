/-! ===== the constructors, walked (wip/gen/ctor.py) ===== -/
abbrev cX0_init : ByteArray := prog_2_method_1_code
def yX0_init : MethodName := ⟨RX0, "<init>", "()V"⟩
def mm_Country : am_MI := (yX0_init, cX0_init, 1, none, 0, false, 0)
theorem dz_Country_0 : decode cX0_init 0 = .ok (.aload_n 0, 1) := by decide +kernel
theorem dz_Country_1 : decode cX0_init 1 = .ok (.invokespecial 3, 3) := by decide +kernel
theorem dz_Country_4 : decode cX0_init 4 = .ok (.aload_n 0, 1) := by decide +kernel
theorem dz_Country_5 : decode cX0_init 5 = .ok (.iconst 3, 1) := by decide +kernel
theorem dz_Country_6 : decode cX0_init 6 = .ok (.putfield 9, 3) := by decide +kernel
theorem dz_Country_9 : decode cX0_init 9 = .ok (.aload_n 0, 1) := by decide +kernel
theorem dz_Country_10 : decode cX0_init 10 = .ok (.iconst 0, 1) := by decide +kernel
theorem dz_Country_11 : decode cX0_init 11 = .ok (.putfield 15, 3) := by decide +kernel
theorem dz_Country_14 : decode cX0_init 14 = .ok (.aload_n 0, 1) := by decide +kernel
theorem dz_Country_15 : decode cX0_init 15 = .ok (.bipush 6, 2) := by decide +kernel
theorem dz_Country_17 : decode cX0_init 17 = .ok (.newarray .int, 2) := by decide +kernel
theorem dz_Country_19 : decode cX0_init 19 = .ok (.dup, 1) := by decide +kernel
theorem dz_Country_20 : decode cX0_init 20 = .ok (.iconst 0, 1) := by decide +kernel
theorem dz_Country_21 : decode cX0_init 21 = .ok (.bipush 9, 2) := by decide +kernel
theorem dz_Country_23 : decode cX0_init 23 = .ok (.iastore, 1) := by decide +kernel
theorem dz_Country_24 : decode cX0_init 24 = .ok (.dup, 1) := by decide +kernel
theorem dz_Country_25 : decode cX0_init 25 = .ok (.iconst 1, 1) := by decide +kernel
theorem dz_Country_26 : decode cX0_init 26 = .ok (.bipush 9, 2) := by decide +kernel
theorem dz_Country_28 : decode cX0_init 28 = .ok (.iastore, 1) := by decide +kernel
theorem dz_Country_29 : decode cX0_init 29 = .ok (.dup, 1) := by decide +kernel
theorem dz_Country_30 : decode cX0_init 30 = .ok (.iconst 2, 1) := by decide +kernel
theorem dz_Country_31 : decode cX0_init 31 = .ok (.bipush 9, 2) := by decide +kernel
theorem dz_Country_33 : decode cX0_init 33 = .ok (.iastore, 1) := by decide +kernel
theorem dz_Country_34 : decode cX0_init 34 = .ok (.dup, 1) := by decide +kernel
theorem dz_Country_35 : decode cX0_init 35 = .ok (.iconst 3, 1) := by decide +kernel
theorem dz_Country_36 : decode cX0_init 36 = .ok (.bipush 9, 2) := by decide +kernel
theorem dz_Country_38 : decode cX0_init 38 = .ok (.iastore, 1) := by decide +kernel
theorem dz_Country_39 : decode cX0_init 39 = .ok (.dup, 1) := by decide +kernel
theorem dz_Country_40 : decode cX0_init 40 = .ok (.iconst 4, 1) := by decide +kernel
theorem dz_Country_41 : decode cX0_init 41 = .ok (.bipush 9, 2) := by decide +kernel
theorem dz_Country_43 : decode cX0_init 43 = .ok (.iastore, 1) := by decide +kernel
theorem dz_Country_44 : decode cX0_init 44 = .ok (.dup, 1) := by decide +kernel
theorem dz_Country_45 : decode cX0_init 45 = .ok (.iconst 5, 1) := by decide +kernel
theorem dz_Country_46 : decode cX0_init 46 = .ok (.bipush 9, 2) := by decide +kernel
theorem dz_Country_48 : decode cX0_init 48 = .ok (.iastore, 1) := by decide +kernel
theorem dz_Country_49 : decode cX0_init 49 = .ok (.putfield 18, 3) := by decide +kernel
theorem dz_Country_52 : decode cX0_init 52 = .ok (.aload_n 0, 1) := by decide +kernel
theorem dz_Country_53 : decode cX0_init 53 = .ok (.bipush 6, 2) := by decide +kernel
theorem dz_Country_55 : decode cX0_init 55 = .ok (.newarray .int, 2) := by decide +kernel
theorem dz_Country_57 : decode cX0_init 57 = .ok (.dup, 1) := by decide +kernel
theorem dz_Country_58 : decode cX0_init 58 = .ok (.iconst 0, 1) := by decide +kernel
theorem dz_Country_59 : decode cX0_init 59 = .ok (.bipush 50, 2) := by decide +kernel
theorem dz_Country_61 : decode cX0_init 61 = .ok (.iastore, 1) := by decide +kernel
theorem dz_Country_62 : decode cX0_init 62 = .ok (.dup, 1) := by decide +kernel
theorem dz_Country_63 : decode cX0_init 63 = .ok (.iconst 1, 1) := by decide +kernel
theorem dz_Country_64 : decode cX0_init 64 = .ok (.bipush 50, 2) := by decide +kernel
theorem dz_Country_66 : decode cX0_init 66 = .ok (.iastore, 1) := by decide +kernel
theorem dz_Country_67 : decode cX0_init 67 = .ok (.dup, 1) := by decide +kernel
theorem dz_Country_68 : decode cX0_init 68 = .ok (.iconst 2, 1) := by decide +kernel
theorem dz_Country_69 : decode cX0_init 69 = .ok (.bipush 50, 2) := by decide +kernel
theorem dz_Country_71 : decode cX0_init 71 = .ok (.iastore, 1) := by decide +kernel
theorem dz_Country_72 : decode cX0_init 72 = .ok (.dup, 1) := by decide +kernel
theorem dz_Country_73 : decode cX0_init 73 = .ok (.iconst 3, 1) := by decide +kernel
theorem dz_Country_74 : decode cX0_init 74 = .ok (.bipush 50, 2) := by decide +kernel
theorem dz_Country_76 : decode cX0_init 76 = .ok (.iastore, 1) := by decide +kernel
theorem dz_Country_77 : decode cX0_init 77 = .ok (.dup, 1) := by decide +kernel
theorem dz_Country_78 : decode cX0_init 78 = .ok (.iconst 4, 1) := by decide +kernel
theorem dz_Country_79 : decode cX0_init 79 = .ok (.bipush 50, 2) := by decide +kernel
theorem dz_Country_81 : decode cX0_init 81 = .ok (.iastore, 1) := by decide +kernel
theorem dz_Country_82 : decode cX0_init 82 = .ok (.dup, 1) := by decide +kernel
theorem dz_Country_83 : decode cX0_init 83 = .ok (.iconst 5, 1) := by decide +kernel
theorem dz_Country_84 : decode cX0_init 84 = .ok (.bipush 50, 2) := by decide +kernel
theorem dz_Country_86 : decode cX0_init 86 = .ok (.iastore, 1) := by decide +kernel
theorem dz_Country_87 : decode cX0_init 87 = .ok (.putfield 22, 3) := by decide +kernel
theorem dz_Country_90 : decode cX0_init 90 = .ok (.aload_n 0, 1) := by decide +kernel
theorem dz_Country_91 : decode cX0_init 91 = .ok (.bipush 10, 2) := by decide +kernel
theorem dz_Country_93 : decode cX0_init 93 = .ok (.newarray .int, 2) := by decide +kernel
theorem dz_Country_95 : decode cX0_init 95 = .ok (.putfield 25, 3) := by decide +kernel
theorem dz_Country_98 : decode cX0_init 98 = .ok (.aload_n 0, 1) := by decide +kernel
theorem dz_Country_99 : decode cX0_init 99 = .ok (.new 28, 3) := by decide +kernel
theorem dz_Country_102 : decode cX0_init 102 = .ok (.dup, 1) := by decide +kernel
theorem dz_Country_103 : decode cX0_init 103 = .ok (.invokespecial 30, 3) := by decide +kernel
theorem dz_Country_106 : decode cX0_init 106 = .ok (.putfield 31, 3) := by decide +kernel
theorem dz_Country_109 : decode cX0_init 109 = .ok (.return_, 1) := by decide +kernel
theorem cz_cw_Country : am_cw mm_Country ∈ lw_tbl := List.mem_of_getElem? (i := 136) (by decide +kernel)
theorem cz_ini_Country : Cond.initialized mm_Country.1.cls ∈ lw_tbl := List.mem_of_getElem? (i := 68) (by decide +kernel)
theorem cz_ins_Country : Cond.instanceMethod mm_Country.1 ∈ lw_tbl := List.mem_of_getElem? (i := 135) (by decide +kernel)
theorem cz_ds_Country : mm_Country.1.cls ≠ "java/lang/invoke/MethodHandle" ∧ mm_Country.1.cls ≠ "java/lang/invoke/VarHandle" ∧ (parseMethodDescriptor mm_Country.1.desc).map (fun d => d.parameters.length) = some 0 := by decide +kernel
theorem cz_df_Country : ∀ j, j < 6 → defaultValue (tyX0 j) = vp_V [.int 0, .int 0, .null, .null, .null, .null] j := by decide +kernel
def kb_Country (K : am_K3) (q : Nat) (u : (Nat → Nat) × (Nat → Nat)) : va_W := [(q, .inr (0, [.int 3, .int 0, .ref (u.1 3), .ref (u.1 4), .ref (u.1 5), .ref (u.2 0)])), (u.1 3, .inl (K.1, 6, .inl (upd (upd (upd (upd (upd (upd (fun _ => 0) 0 9) 1 9) 2 9) 3 9) 4 9) 5 9))), (u.1 4, .inl (K.1, 6, .inl (upd (upd (upd (upd (upd (upd (fun _ => 0) 0 50) 1 50) 2 50) 3 50) 4 50) 5 50))), (u.1 5, .inl (K.1, 10, .inl (fun _ => 0)))] ++ kb_Notes K (u.2 0) u.2
theorem cl_Country_30 : (if (1 : Nat) = 0 then Jvm.Cond.methodLink RX0 30 mm_Notes.1 else .methodLinkNest RX0 30 mm_Notes.1 "PromisesKept") ∈ lw_tbl := List.mem_of_getElem? (i := 140) (by decide +kernel)
set_option maxHeartbeats 4000000 in
set_option maxRecDepth 100000 in
theorem cz_Country (l : Launch) (D : va_G) (K : am_K3) (h0 : Nat) : cz_C l D K mm_Country { frames := 2, cells := 7, slots := 50, locals := 40 } [.ref h0] (h0, .inr (0, [.int 0, .int 0, .null, .null, .null, .null])) (kb_Country K h0) := by
  refine cz_of (by decide) rfl rfl (Nat.le_of_ble_eq_true rfl) ?_
  intro p e s m below meth c A ls hx hb hr hts hown hlocks hin hml hA hP hK hD hN hl
  have hb : c.code = cX0_init := hb
  have hml : c.maxLocals = 1 := hml
  have hown : s.vm.findClass RX0 = some m.cls := hown
  have hT : ∀ w ∈ lw_tbl, goodWord w = true → w ∈ am_ws mm_Country := fun w h1 h2 => List.mem_cons_of_mem _ (am_gw_in h1 h2)
  have hS : va_S A s.heap s.heap [] := va_S.rf
  have hl : lv_has ls 1 [(0, .ref h0)] := hl
  have hP : va_P D vwCl [(h0, .inr (0, [.int 0, .int 0, .null, .null, .null, .null]))] s.heap := hP
  refine lv_aload_n hx hb dz_Country_0 rfl (lv_at hl 0 rfl) ?_
  refine W.objInit hx hb hown (hts (.methodLink RX0 3 Lib.objectInit) (hT _ cw_137 rfl)) (hts (.instanceMethod Lib.objectInit) (hT _ cw_82 rfl)) (hts (.code Lib.objectInit ⟨#[0xb1]⟩ 1 none) (hT _ cw_obj rfl)) rfl (by rw [hml]; exact hl.1) rfl dz_Country_1 (Nat.le_of_ble_eq_true rfl) (Nat.le_of_ble_eq_true rfl) ?_
  refine W.eq (g2 := F0 m 4 ls []) rfl ?_
  refine lv_aload_n hx hb dz_Country_4 rfl (lv_at hl 0 rfl) ?_
  refine lv_iconst (v := 3) hx hb dz_Country_5 (by decide) ?_
  refine va_put (D := D) (ci := 0) (v := .int 3) (ty := .int) (C := RX0) (T := TX0) (N := 6) hx hb hts (cz_in hT (ci := 0) rfl) tyX0 tyX0_ok nmX0 hown hK hP hD hS 0 rfl rfl 0 (by decide) (hts (.fieldLink RX0 9 "PromisesKept$Country" "slots" "I") (hT _ cw_159 rfl)) (fun _ h9 => h9) rfl (by decide +kernel) (by first | rfl | decide) (by first | rfl | decide) (Nat.le_of_ble_eq_true rfl) dz_Country_6 (fun H locs hP hD hS => ?_)
  have hP : va_P D vwCl ((h0, .inr (0, [.int 3, .int 0, .null, .null, .null, .null])) :: []) H := hP
  have hD : va_D A ((h0, .inr (0, [.int 3, .int 0, .null, .null, .null, .null])) :: []) := hD
  refine lv_aload_n hx hb dz_Country_9 rfl (lv_at hl 0 rfl) ?_
  refine lv_iconst (v := 0) hx hb dz_Country_10 (by decide) ?_
  refine va_put (D := D) (ci := 0) (v := .int 0) (ty := .int) (C := RX0) (T := TX0) (N := 6) hx hb hts (cz_in hT (ci := 0) rfl) tyX0 tyX0_ok nmX0 hown hK hP hD hS 0 rfl rfl 1 (by decide) (hts (.fieldLink RX0 15 "PromisesKept$Country" "law" "I") (hT _ cw_161 rfl)) (fun _ h9 => h9) rfl (by decide +kernel) (by first | rfl | decide) (by first | rfl | decide) (Nat.le_of_ble_eq_true rfl) dz_Country_11 (fun H locs hP hD hS => ?_)
  have hP : va_P D vwCl ((h0, .inr (0, [.int 3, .int 0, .null, .null, .null, .null])) :: []) H := hP
  have hD : va_D A ((h0, .inr (0, [.int 3, .int 0, .null, .null, .null, .null])) :: []) := hD
  refine lv_aload_n hx hb dz_Country_14 rfl (lv_at hl 0 rfl) ?_
  refine lv_bipush (v := 6) hx hb dz_Country_15 (by decide) ?_
  refine cz_newi (N' := 6) hx hb hts hT hK hP hD hS hA (by decide) (by decide) (by decide) (Nat.le_of_ble_eq_true rfl) (Nat.le_of_ble_eq_true rfl) dz_Country_17 (fun q17 H hP hD hS => ?_)
  refine W.widen (k := 1) (n := 6) (Nat.le_refl _) (Nat.le_refl _) ?_
  have hP : va_P D vwCl ((h0, .inr (0, [.int 3, .int 0, .null, .null, .null, .null])) :: [(q17, .inl (K.1, 6, .inl (fun _ => 0)))]) H := hP
  have hD : va_D A ((h0, .inr (0, [.int 3, .int 0, .null, .null, .null, .null])) :: [(q17, .inl (K.1, 6, .inl (fun _ => 0)))]) := hD
  refine lv_dup hx hb dz_Country_19 rfl ?_
  refine lv_iconst (v := 0) hx hb dz_Country_20 (by decide) ?_
  refine lv_bipush (v := 9) hx hb dz_Country_21 (by decide) ?_
  refine va_iast hx hb hK hP hD hS 1 0 rfl rfl (i := 0) (x := 9) (by unfold vp_in; decide) dz_Country_23 (fun H locs hP hD hS => ?_)
  have hP : va_P D vwCl ((h0, .inr (0, [.int 3, .int 0, .null, .null, .null, .null])) :: [(q17, .inl (K.1, 6, .inl (upd (fun _ => 0) 0 9)))]) H := hP
  have hD : va_D A ((h0, .inr (0, [.int 3, .int 0, .null, .null, .null, .null])) :: [(q17, .inl (K.1, 6, .inl (upd (fun _ => 0) 0 9)))]) := hD
  refine lv_dup hx hb dz_Country_24 rfl ?_
  refine lv_iconst (v := 1) hx hb dz_Country_25 (by decide) ?_
  refine lv_bipush (v := 9) hx hb dz_Country_26 (by decide) ?_
  refine va_iast hx hb hK hP hD hS 1 0 rfl rfl (i := 1) (x := 9) (by unfold vp_in; decide) dz_Country_28 (fun H locs hP hD hS => ?_)
  have hP : va_P D vwCl ((h0, .inr (0, [.int 3, .int 0, .null, .null, .null, .null])) :: [(q17, .inl (K.1, 6, .inl (upd (upd (fun _ => 0) 0 9) 1 9)))]) H := hP
  have hD : va_D A ((h0, .inr (0, [.int 3, .int 0, .null, .null, .null, .null])) :: [(q17, .inl (K.1, 6, .inl (upd (upd (fun _ => 0) 0 9) 1 9)))]) := hD
  refine lv_dup hx hb dz_Country_29 rfl ?_
  refine lv_iconst (v := 2) hx hb dz_Country_30 (by decide) ?_
  refine lv_bipush (v := 9) hx hb dz_Country_31 (by decide) ?_
  refine va_iast hx hb hK hP hD hS 1 0 rfl rfl (i := 2) (x := 9) (by unfold vp_in; decide) dz_Country_33 (fun H locs hP hD hS => ?_)
  have hP : va_P D vwCl ((h0, .inr (0, [.int 3, .int 0, .null, .null, .null, .null])) :: [(q17, .inl (K.1, 6, .inl (upd (upd (upd (fun _ => 0) 0 9) 1 9) 2 9)))]) H := hP
  have hD : va_D A ((h0, .inr (0, [.int 3, .int 0, .null, .null, .null, .null])) :: [(q17, .inl (K.1, 6, .inl (upd (upd (upd (fun _ => 0) 0 9) 1 9) 2 9)))]) := hD
  refine lv_dup hx hb dz_Country_34 rfl ?_
  refine lv_iconst (v := 3) hx hb dz_Country_35 (by decide) ?_
  refine lv_bipush (v := 9) hx hb dz_Country_36 (by decide) ?_
  refine va_iast hx hb hK hP hD hS 1 0 rfl rfl (i := 3) (x := 9) (by unfold vp_in; decide) dz_Country_38 (fun H locs hP hD hS => ?_)
  have hP : va_P D vwCl ((h0, .inr (0, [.int 3, .int 0, .null, .null, .null, .null])) :: [(q17, .inl (K.1, 6, .inl (upd (upd (upd (upd (fun _ => 0) 0 9) 1 9) 2 9) 3 9)))]) H := hP
  have hD : va_D A ((h0, .inr (0, [.int 3, .int 0, .null, .null, .null, .null])) :: [(q17, .inl (K.1, 6, .inl (upd (upd (upd (upd (fun _ => 0) 0 9) 1 9) 2 9) 3 9)))]) := hD
  refine lv_dup hx hb dz_Country_39 rfl ?_
  refine lv_iconst (v := 4) hx hb dz_Country_40 (by decide) ?_
  refine lv_bipush (v := 9) hx hb dz_Country_41 (by decide) ?_
  refine va_iast hx hb hK hP hD hS 1 0 rfl rfl (i := 4) (x := 9) (by unfold vp_in; decide) dz_Country_43 (fun H locs hP hD hS => ?_)
  have hP : va_P D vwCl ((h0, .inr (0, [.int 3, .int 0, .null, .null, .null, .null])) :: [(q17, .inl (K.1, 6, .inl (upd (upd (upd (upd (upd (fun _ => 0) 0 9) 1 9) 2 9) 3 9) 4 9)))]) H := hP
  have hD : va_D A ((h0, .inr (0, [.int 3, .int 0, .null, .null, .null, .null])) :: [(q17, .inl (K.1, 6, .inl (upd (upd (upd (upd (upd (fun _ => 0) 0 9) 1 9) 2 9) 3 9) 4 9)))]) := hD
  refine lv_dup hx hb dz_Country_44 rfl ?_
  refine lv_iconst (v := 5) hx hb dz_Country_45 (by decide) ?_
  refine lv_bipush (v := 9) hx hb dz_Country_46 (by decide) ?_
  refine va_iast hx hb hK hP hD hS 1 0 rfl rfl (i := 5) (x := 9) (by unfold vp_in; decide) dz_Country_48 (fun H locs hP hD hS => ?_)
  have hP : va_P D vwCl ((h0, .inr (0, [.int 3, .int 0, .null, .null, .null, .null])) :: [(q17, .inl (K.1, 6, .inl (upd (upd (upd (upd (upd (upd (fun _ => 0) 0 9) 1 9) 2 9) 3 9) 4 9) 5 9)))]) H := hP
  have hD : va_D A ((h0, .inr (0, [.int 3, .int 0, .null, .null, .null, .null])) :: [(q17, .inl (K.1, 6, .inl (upd (upd (upd (upd (upd (upd (fun _ => 0) 0 9) 1 9) 2 9) 3 9) 4 9) 5 9)))]) := hD
  refine va_putF (D := D) (ci := 0) (v := .ref q17) (ty := .array .int) (C := RX0) (T := TX0) (N := 6) hx hb hts (cz_in hT (ci := 0) rfl) tyX0 tyX0_ok nmX0 hown hK hP hD hS 0 rfl rfl 2 (by decide) (hts (.fieldLink RX0 18 "PromisesKept$Country" "meansAtFirst" "[I") (hT _ cw_163 rfl)) (fun _ h9 => h9) rfl hin rfl (by decide +kernel) (by first | rfl | decide) (by first | rfl | decide) (Nat.le_of_ble_eq_true rfl) dz_Country_49 (fun H locs hP hD hS => ?_)
  have hP : va_P D vwCl ((h0, .inr (0, [.int 3, .int 0, .ref q17, .null, .null, .null])) :: [(q17, .inl (K.1, 6, .inl (upd (upd (upd (upd (upd (upd (fun _ => 0) 0 9) 1 9) 2 9) 3 9) 4 9) 5 9)))]) H := hP
  have hD : va_D A ((h0, .inr (0, [.int 3, .int 0, .ref q17, .null, .null, .null])) :: [(q17, .inl (K.1, 6, .inl (upd (upd (upd (upd (upd (upd (fun _ => 0) 0 9) 1 9) 2 9) 3 9) 4 9) 5 9)))]) := hD
  refine lv_aload_n hx hb dz_Country_52 rfl (lv_at hl 0 rfl) ?_
  refine lv_bipush (v := 6) hx hb dz_Country_53 (by decide) ?_
  refine cz_newi (N' := 6) hx hb hts hT hK hP hD hS hA (by decide) (by decide) (by decide) (Nat.le_of_ble_eq_true rfl) (Nat.le_of_ble_eq_true rfl) dz_Country_55 (fun q55 H hP hD hS => ?_)
  refine W.widen (k := 2) (n := 12) (Nat.le_refl _) (Nat.le_refl _) ?_
  have hP : va_P D vwCl ((h0, .inr (0, [.int 3, .int 0, .ref q17, .null, .null, .null])) :: [(q17, .inl (K.1, 6, .inl (upd (upd (upd (upd (upd (upd (fun _ => 0) 0 9) 1 9) 2 9) 3 9) 4 9) 5 9))), (q55, .inl (K.1, 6, .inl (fun _ => 0)))]) H := hP
  have hD : va_D A ((h0, .inr (0, [.int 3, .int 0, .ref q17, .null, .null, .null])) :: [(q17, .inl (K.1, 6, .inl (upd (upd (upd (upd (upd (upd (fun _ => 0) 0 9) 1 9) 2 9) 3 9) 4 9) 5 9))), (q55, .inl (K.1, 6, .inl (fun _ => 0)))]) := hD
  refine lv_dup hx hb dz_Country_57 rfl ?_
  refine lv_iconst (v := 0) hx hb dz_Country_58 (by decide) ?_
  refine lv_bipush (v := 50) hx hb dz_Country_59 (by decide) ?_
  refine va_iast hx hb hK hP hD hS 2 0 rfl rfl (i := 0) (x := 50) (by unfold vp_in; decide) dz_Country_61 (fun H locs hP hD hS => ?_)
  have hP : va_P D vwCl ((h0, .inr (0, [.int 3, .int 0, .ref q17, .null, .null, .null])) :: [(q17, .inl (K.1, 6, .inl (upd (upd (upd (upd (upd (upd (fun _ => 0) 0 9) 1 9) 2 9) 3 9) 4 9) 5 9))), (q55, .inl (K.1, 6, .inl (upd (fun _ => 0) 0 50)))]) H := hP
  have hD : va_D A ((h0, .inr (0, [.int 3, .int 0, .ref q17, .null, .null, .null])) :: [(q17, .inl (K.1, 6, .inl (upd (upd (upd (upd (upd (upd (fun _ => 0) 0 9) 1 9) 2 9) 3 9) 4 9) 5 9))), (q55, .inl (K.1, 6, .inl (upd (fun _ => 0) 0 50)))]) := hD
  refine lv_dup hx hb dz_Country_62 rfl ?_
  refine lv_iconst (v := 1) hx hb dz_Country_63 (by decide) ?_
  refine lv_bipush (v := 50) hx hb dz_Country_64 (by decide) ?_
  refine va_iast hx hb hK hP hD hS 2 0 rfl rfl (i := 1) (x := 50) (by unfold vp_in; decide) dz_Country_66 (fun H locs hP hD hS => ?_)
  have hP : va_P D vwCl ((h0, .inr (0, [.int 3, .int 0, .ref q17, .null, .null, .null])) :: [(q17, .inl (K.1, 6, .inl (upd (upd (upd (upd (upd (upd (fun _ => 0) 0 9) 1 9) 2 9) 3 9) 4 9) 5 9))), (q55, .inl (K.1, 6, .inl (upd (upd (fun _ => 0) 0 50) 1 50)))]) H := hP
  have hD : va_D A ((h0, .inr (0, [.int 3, .int 0, .ref q17, .null, .null, .null])) :: [(q17, .inl (K.1, 6, .inl (upd (upd (upd (upd (upd (upd (fun _ => 0) 0 9) 1 9) 2 9) 3 9) 4 9) 5 9))), (q55, .inl (K.1, 6, .inl (upd (upd (fun _ => 0) 0 50) 1 50)))]) := hD
  refine lv_dup hx hb dz_Country_67 rfl ?_
  refine lv_iconst (v := 2) hx hb dz_Country_68 (by decide) ?_
  refine lv_bipush (v := 50) hx hb dz_Country_69 (by decide) ?_
  refine va_iast hx hb hK hP hD hS 2 0 rfl rfl (i := 2) (x := 50) (by unfold vp_in; decide) dz_Country_71 (fun H locs hP hD hS => ?_)
  have hP : va_P D vwCl ((h0, .inr (0, [.int 3, .int 0, .ref q17, .null, .null, .null])) :: [(q17, .inl (K.1, 6, .inl (upd (upd (upd (upd (upd (upd (fun _ => 0) 0 9) 1 9) 2 9) 3 9) 4 9) 5 9))), (q55, .inl (K.1, 6, .inl (upd (upd (upd (fun _ => 0) 0 50) 1 50) 2 50)))]) H := hP
  have hD : va_D A ((h0, .inr (0, [.int 3, .int 0, .ref q17, .null, .null, .null])) :: [(q17, .inl (K.1, 6, .inl (upd (upd (upd (upd (upd (upd (fun _ => 0) 0 9) 1 9) 2 9) 3 9) 4 9) 5 9))), (q55, .inl (K.1, 6, .inl (upd (upd (upd (fun _ => 0) 0 50) 1 50) 2 50)))]) := hD
  refine lv_dup hx hb dz_Country_72 rfl ?_
  refine lv_iconst (v := 3) hx hb dz_Country_73 (by decide) ?_
  refine lv_bipush (v := 50) hx hb dz_Country_74 (by decide) ?_
  refine va_iast hx hb hK hP hD hS 2 0 rfl rfl (i := 3) (x := 50) (by unfold vp_in; decide) dz_Country_76 (fun H locs hP hD hS => ?_)
  have hP : va_P D vwCl ((h0, .inr (0, [.int 3, .int 0, .ref q17, .null, .null, .null])) :: [(q17, .inl (K.1, 6, .inl (upd (upd (upd (upd (upd (upd (fun _ => 0) 0 9) 1 9) 2 9) 3 9) 4 9) 5 9))), (q55, .inl (K.1, 6, .inl (upd (upd (upd (upd (fun _ => 0) 0 50) 1 50) 2 50) 3 50)))]) H := hP
  have hD : va_D A ((h0, .inr (0, [.int 3, .int 0, .ref q17, .null, .null, .null])) :: [(q17, .inl (K.1, 6, .inl (upd (upd (upd (upd (upd (upd (fun _ => 0) 0 9) 1 9) 2 9) 3 9) 4 9) 5 9))), (q55, .inl (K.1, 6, .inl (upd (upd (upd (upd (fun _ => 0) 0 50) 1 50) 2 50) 3 50)))]) := hD
  refine lv_dup hx hb dz_Country_77 rfl ?_
  refine lv_iconst (v := 4) hx hb dz_Country_78 (by decide) ?_
  refine lv_bipush (v := 50) hx hb dz_Country_79 (by decide) ?_
  refine va_iast hx hb hK hP hD hS 2 0 rfl rfl (i := 4) (x := 50) (by unfold vp_in; decide) dz_Country_81 (fun H locs hP hD hS => ?_)
  have hP : va_P D vwCl ((h0, .inr (0, [.int 3, .int 0, .ref q17, .null, .null, .null])) :: [(q17, .inl (K.1, 6, .inl (upd (upd (upd (upd (upd (upd (fun _ => 0) 0 9) 1 9) 2 9) 3 9) 4 9) 5 9))), (q55, .inl (K.1, 6, .inl (upd (upd (upd (upd (upd (fun _ => 0) 0 50) 1 50) 2 50) 3 50) 4 50)))]) H := hP
  have hD : va_D A ((h0, .inr (0, [.int 3, .int 0, .ref q17, .null, .null, .null])) :: [(q17, .inl (K.1, 6, .inl (upd (upd (upd (upd (upd (upd (fun _ => 0) 0 9) 1 9) 2 9) 3 9) 4 9) 5 9))), (q55, .inl (K.1, 6, .inl (upd (upd (upd (upd (upd (fun _ => 0) 0 50) 1 50) 2 50) 3 50) 4 50)))]) := hD
  refine lv_dup hx hb dz_Country_82 rfl ?_
  refine lv_iconst (v := 5) hx hb dz_Country_83 (by decide) ?_
  refine lv_bipush (v := 50) hx hb dz_Country_84 (by decide) ?_
  refine va_iast hx hb hK hP hD hS 2 0 rfl rfl (i := 5) (x := 50) (by unfold vp_in; decide) dz_Country_86 (fun H locs hP hD hS => ?_)
  have hP : va_P D vwCl ((h0, .inr (0, [.int 3, .int 0, .ref q17, .null, .null, .null])) :: [(q17, .inl (K.1, 6, .inl (upd (upd (upd (upd (upd (upd (fun _ => 0) 0 9) 1 9) 2 9) 3 9) 4 9) 5 9))), (q55, .inl (K.1, 6, .inl (upd (upd (upd (upd (upd (upd (fun _ => 0) 0 50) 1 50) 2 50) 3 50) 4 50) 5 50)))]) H := hP
  have hD : va_D A ((h0, .inr (0, [.int 3, .int 0, .ref q17, .null, .null, .null])) :: [(q17, .inl (K.1, 6, .inl (upd (upd (upd (upd (upd (upd (fun _ => 0) 0 9) 1 9) 2 9) 3 9) 4 9) 5 9))), (q55, .inl (K.1, 6, .inl (upd (upd (upd (upd (upd (upd (fun _ => 0) 0 50) 1 50) 2 50) 3 50) 4 50) 5 50)))]) := hD
  refine va_putF (D := D) (ci := 0) (v := .ref q55) (ty := .array .int) (C := RX0) (T := TX0) (N := 6) hx hb hts (cz_in hT (ci := 0) rfl) tyX0 tyX0_ok nmX0 hown hK hP hD hS 0 rfl rfl 3 (by decide) (hts (.fieldLink RX0 22 "PromisesKept$Country" "trustAtFirst" "[I") (hT _ cw_165 rfl)) (fun _ h9 => h9) rfl hin rfl (by decide +kernel) (by first | rfl | decide) (by first | rfl | decide) (Nat.le_of_ble_eq_true rfl) dz_Country_87 (fun H locs hP hD hS => ?_)
  have hP : va_P D vwCl ((h0, .inr (0, [.int 3, .int 0, .ref q17, .ref q55, .null, .null])) :: [(q17, .inl (K.1, 6, .inl (upd (upd (upd (upd (upd (upd (fun _ => 0) 0 9) 1 9) 2 9) 3 9) 4 9) 5 9))), (q55, .inl (K.1, 6, .inl (upd (upd (upd (upd (upd (upd (fun _ => 0) 0 50) 1 50) 2 50) 3 50) 4 50) 5 50)))]) H := hP
  have hD : va_D A ((h0, .inr (0, [.int 3, .int 0, .ref q17, .ref q55, .null, .null])) :: [(q17, .inl (K.1, 6, .inl (upd (upd (upd (upd (upd (upd (fun _ => 0) 0 9) 1 9) 2 9) 3 9) 4 9) 5 9))), (q55, .inl (K.1, 6, .inl (upd (upd (upd (upd (upd (upd (fun _ => 0) 0 50) 1 50) 2 50) 3 50) 4 50) 5 50)))]) := hD
  refine lv_aload_n hx hb dz_Country_90 rfl (lv_at hl 0 rfl) ?_
  refine lv_bipush (v := 10) hx hb dz_Country_91 (by decide) ?_
  refine cz_newi (N' := 10) hx hb hts hT hK hP hD hS hA (by decide) (by decide) (by decide) (Nat.le_of_ble_eq_true rfl) (Nat.le_of_ble_eq_true rfl) dz_Country_93 (fun q93 H hP hD hS => ?_)
  refine W.widen (k := 3) (n := 22) (Nat.le_refl _) (Nat.le_refl _) ?_
  have hP : va_P D vwCl ((h0, .inr (0, [.int 3, .int 0, .ref q17, .ref q55, .null, .null])) :: [(q17, .inl (K.1, 6, .inl (upd (upd (upd (upd (upd (upd (fun _ => 0) 0 9) 1 9) 2 9) 3 9) 4 9) 5 9))), (q55, .inl (K.1, 6, .inl (upd (upd (upd (upd (upd (upd (fun _ => 0) 0 50) 1 50) 2 50) 3 50) 4 50) 5 50))), (q93, .inl (K.1, 10, .inl (fun _ => 0)))]) H := hP
  have hD : va_D A ((h0, .inr (0, [.int 3, .int 0, .ref q17, .ref q55, .null, .null])) :: [(q17, .inl (K.1, 6, .inl (upd (upd (upd (upd (upd (upd (fun _ => 0) 0 9) 1 9) 2 9) 3 9) 4 9) 5 9))), (q55, .inl (K.1, 6, .inl (upd (upd (upd (upd (upd (upd (fun _ => 0) 0 50) 1 50) 2 50) 3 50) 4 50) 5 50))), (q93, .inl (K.1, 10, .inl (fun _ => 0)))]) := hD
  refine va_putF (D := D) (ci := 0) (v := .ref q93) (ty := .array .int) (C := RX0) (T := TX0) (N := 6) hx hb hts (cz_in hT (ci := 0) rfl) tyX0 tyX0_ok nmX0 hown hK hP hD hS 0 rfl rfl 4 (by decide) (hts (.fieldLink RX0 25 "PromisesKept$Country" "ahead" "[I") (hT _ cw_167 rfl)) (fun _ h9 => h9) rfl hin rfl (by decide +kernel) (by first | rfl | decide) (by first | rfl | decide) (Nat.le_of_ble_eq_true rfl) dz_Country_95 (fun H locs hP hD hS => ?_)
  have hP : va_P D vwCl ((h0, .inr (0, [.int 3, .int 0, .ref q17, .ref q55, .ref q93, .null])) :: [(q17, .inl (K.1, 6, .inl (upd (upd (upd (upd (upd (upd (fun _ => 0) 0 9) 1 9) 2 9) 3 9) 4 9) 5 9))), (q55, .inl (K.1, 6, .inl (upd (upd (upd (upd (upd (upd (fun _ => 0) 0 50) 1 50) 2 50) 3 50) 4 50) 5 50))), (q93, .inl (K.1, 10, .inl (fun _ => 0)))]) H := hP
  have hD : va_D A ((h0, .inr (0, [.int 3, .int 0, .ref q17, .ref q55, .ref q93, .null])) :: [(q17, .inl (K.1, 6, .inl (upd (upd (upd (upd (upd (upd (fun _ => 0) 0 9) 1 9) 2 9) 3 9) 4 9) 5 9))), (q55, .inl (K.1, 6, .inl (upd (upd (upd (upd (upd (upd (fun _ => 0) 0 50) 1 50) 2 50) 3 50) 4 50) 5 50))), (q93, .inl (K.1, 10, .inl (fun _ => 0)))]) := hD
  refine lv_aload_n hx hb dz_Country_98 rfl (lv_at hl 0 rfl) ?_
  refine va_new (ci := 2) (fs := [.null, .null, .null, .int 0]) (C := RX2) (T := TX2) (N := 4) hx hb hts (cz_in hT (ci := 2) rfl) tyX2 tyX2_ok hown (hts (.classLink RX0 28 RX2) (hT _ cw_138 rfl)) (hts (.instantiable RX2 4) (hT _ cw_139 rfl)) (hts (.initialized RX2) (hT _ cw_69 rfl)) hK hP hD hS hA rfl (cz_df_Notes) (Nat.le_of_ble_eq_true rfl) (Nat.le_of_ble_eq_true rfl) dz_Country_99 (fun q99_0 H hP hD hS => ?_)
  refine W.widen (k := 4) (n := 26) (Nat.le_refl _) (Nat.le_refl _) ?_
  refine lv_dup hx hb dz_Country_102 rfl ?_
  refine cz_call (As := []) (rest := [.ref q99_0, .ref h0]) hx hb hml hown hts hT hK hN (cz_Notes l D K q99_0) cz_cw_Notes cz_ini_Notes cz_ins_Notes rfl rfl cz_ds_Notes 1 cl_Country_30 ⟨Nat.le_of_ble_eq_true rfl, Nat.le_of_ble_eq_true rfl⟩ ⟨Nat.le_of_ble_eq_true rfl, Nat.le_of_ble_eq_true rfl⟩ hP hD hS hA hl.1 (Nat.le_of_ble_eq_true rfl) dz_Country_103 rfl (fun u99_0 H locs hP hD hS => ?_)
  refine W.widen (k := 7) (n := 50) (Nat.le_refl _) (Nat.le_refl _) ?_
  have hP : va_P D vwCl ((h0, .inr (0, [.int 3, .int 0, .ref q17, .ref q55, .ref q93, .null])) :: ([(q17, .inl (K.1, 6, .inl (upd (upd (upd (upd (upd (upd (fun _ => 0) 0 9) 1 9) 2 9) 3 9) 4 9) 5 9))), (q55, .inl (K.1, 6, .inl (upd (upd (upd (upd (upd (upd (fun _ => 0) 0 50) 1 50) 2 50) 3 50) 4 50) 5 50))), (q93, .inl (K.1, 10, .inl (fun _ => 0)))] ++ kb_Notes K q99_0 u99_0)) H := hP
  have hD : va_D A ((h0, .inr (0, [.int 3, .int 0, .ref q17, .ref q55, .ref q93, .null])) :: ([(q17, .inl (K.1, 6, .inl (upd (upd (upd (upd (upd (upd (fun _ => 0) 0 9) 1 9) 2 9) 3 9) 4 9) 5 9))), (q55, .inl (K.1, 6, .inl (upd (upd (upd (upd (upd (upd (fun _ => 0) 0 50) 1 50) 2 50) 3 50) 4 50) 5 50))), (q93, .inl (K.1, 10, .inl (fun _ => 0)))] ++ kb_Notes K q99_0 u99_0)) := hD
  refine va_putF (D := D) (ci := 0) (v := .ref q99_0) (ty := .object "PromisesKept$Notes") (C := RX0) (T := TX0) (N := 6) hx hb hts (cz_in hT (ci := 0) rfl) tyX0 tyX0_ok nmX0 hown hK hP hD hS 0 rfl rfl 5 (by decide) (hts (.fieldLink RX0 31 "PromisesKept$Country" "forgivings" "LPromisesKept$Notes;") (hT _ cw_169 rfl)) (fun _ h9 => h9) rfl hin rfl (by decide +kernel) (by first | rfl | decide) (by first | rfl | decide) (Nat.le_of_ble_eq_true rfl) dz_Country_106 (fun H locs hP hD hS => ?_)
  have hP : va_P D vwCl ((h0, .inr (0, [.int 3, .int 0, .ref q17, .ref q55, .ref q93, .ref q99_0])) :: ([(q17, .inl (K.1, 6, .inl (upd (upd (upd (upd (upd (upd (fun _ => 0) 0 9) 1 9) 2 9) 3 9) 4 9) 5 9))), (q55, .inl (K.1, 6, .inl (upd (upd (upd (upd (upd (upd (fun _ => 0) 0 50) 1 50) 2 50) 3 50) 4 50) 5 50))), (q93, .inl (K.1, 10, .inl (fun _ => 0)))] ++ kb_Notes K q99_0 u99_0)) H := hP
  have hD : va_D A ((h0, .inr (0, [.int 3, .int 0, .ref q17, .ref q55, .ref q93, .ref q99_0])) :: ([(q17, .inl (K.1, 6, .inl (upd (upd (upd (upd (upd (upd (fun _ => 0) 0 9) 1 9) 2 9) 3 9) 4 9) 5 9))), (q55, .inl (K.1, 6, .inl (upd (upd (upd (upd (upd (upd (fun _ => 0) 0 50) 1 50) 2 50) 3 50) 4 50) 5 50))), (q93, .inl (K.1, 10, .inl (fun _ => 0)))] ++ kb_Notes K q99_0 u99_0)) := hD
  exact W.vret hx hb hr (fun t ht hW => ⟨⟨((fun j => match j with | 3 => q17 | 4 => q55 | _ => q93), (fun j => match j with | 0 => q99_0 | j + 1 => u99_0 (j + 1))), rfl, trivial, by rw [ht]; exact hP, hD⟩, hS.F ht⟩) hS.2.2 dz_Country_109
abbrev cX5_init : ByteArray := prog_1_method_1_code
def yX5_init : MethodName := ⟨RX5, "<init>", "()V"⟩
def mm_P : am_MI := (yX5_init, cX5_init, 2, none, 5, false, 0)
theorem dz_P_0 : decode cX5_init 0 = .ok (.aload_n 0, 1) := by decide +kernel
theorem dz_P_1 : decode cX5_init 1 = .ok (.invokespecial 3, 3) := by decide +kernel
theorem dz_P_4 : decode cX5_init 4 = .ok (.aload_n 0, 1) := by decide +kernel
theorem dz_P_5 : decode cX5_init 5 = .ok (.new 9, 3) := by decide +kernel
theorem dz_P_8 : decode cX5_init 8 = .ok (.dup, 1) := by decide +kernel
theorem dz_P_9 : decode cX5_init 9 = .ok (.invokespecial 11, 3) := by decide +kernel
theorem dz_P_12 : decode cX5_init 12 = .ok (.putfield 12, 3) := by decide +kernel
theorem dz_P_15 : decode cX5_init 15 = .ok (.aload_n 0, 1) := by decide +kernel
theorem dz_P_16 : decode cX5_init 16 = .ok (.new 16, 3) := by decide +kernel
theorem dz_P_19 : decode cX5_init 19 = .ok (.dup, 1) := by decide +kernel
theorem dz_P_20 : decode cX5_init 20 = .ok (.invokespecial 18, 3) := by decide +kernel
theorem dz_P_23 : decode cX5_init 23 = .ok (.putfield 19, 3) := by decide +kernel
theorem dz_P_26 : decode cX5_init 26 = .ok (.aload_n 0, 1) := by decide +kernel
theorem dz_P_27 : decode cX5_init 27 = .ok (.new 23, 3) := by decide +kernel
theorem dz_P_30 : decode cX5_init 30 = .ok (.dup, 1) := by decide +kernel
theorem dz_P_31 : decode cX5_init 31 = .ok (.invokespecial 25, 3) := by decide +kernel
theorem dz_P_34 : decode cX5_init 34 = .ok (.putfield 26, 3) := by decide +kernel
theorem dz_P_37 : decode cX5_init 37 = .ok (.aload_n 0, 1) := by decide +kernel
theorem dz_P_38 : decode cX5_init 38 = .ok (.new 30, 3) := by decide +kernel
theorem dz_P_41 : decode cX5_init 41 = .ok (.dup, 1) := by decide +kernel
theorem dz_P_42 : decode cX5_init 42 = .ok (.aload_n 0, 1) := by decide +kernel
theorem dz_P_43 : decode cX5_init 43 = .ok (.getfield 12, 3) := by decide +kernel
theorem dz_P_46 : decode cX5_init 46 = .ok (.aload_n 0, 1) := by decide +kernel
theorem dz_P_47 : decode cX5_init 47 = .ok (.getfield 19, 3) := by decide +kernel
theorem dz_P_50 : decode cX5_init 50 = .ok (.invokespecial 32, 3) := by decide +kernel
theorem dz_P_53 : decode cX5_init 53 = .ok (.putfield 35, 3) := by decide +kernel
theorem dz_P_56 : decode cX5_init 56 = .ok (.aload_n 0, 1) := by decide +kernel
theorem dz_P_57 : decode cX5_init 57 = .ok (.new 30, 3) := by decide +kernel
theorem dz_P_60 : decode cX5_init 60 = .ok (.dup, 1) := by decide +kernel
theorem dz_P_61 : decode cX5_init 61 = .ok (.aload_n 0, 1) := by decide +kernel
theorem dz_P_62 : decode cX5_init 62 = .ok (.getfield 12, 3) := by decide +kernel
theorem dz_P_65 : decode cX5_init 65 = .ok (.aload_n 0, 1) := by decide +kernel
theorem dz_P_66 : decode cX5_init 66 = .ok (.getfield 19, 3) := by decide +kernel
theorem dz_P_69 : decode cX5_init 69 = .ok (.invokespecial 32, 3) := by decide +kernel
theorem dz_P_72 : decode cX5_init 72 = .ok (.putfield 39, 3) := by decide +kernel
theorem dz_P_75 : decode cX5_init 75 = .ok (.aload_n 0, 1) := by decide +kernel
theorem dz_P_76 : decode cX5_init 76 = .ok (.new 30, 3) := by decide +kernel
theorem dz_P_79 : decode cX5_init 79 = .ok (.dup, 1) := by decide +kernel
theorem dz_P_80 : decode cX5_init 80 = .ok (.aload_n 0, 1) := by decide +kernel
theorem dz_P_81 : decode cX5_init 81 = .ok (.getfield 12, 3) := by decide +kernel
theorem dz_P_84 : decode cX5_init 84 = .ok (.aload_n 0, 1) := by decide +kernel
theorem dz_P_85 : decode cX5_init 85 = .ok (.getfield 19, 3) := by decide +kernel
theorem dz_P_88 : decode cX5_init 88 = .ok (.invokespecial 32, 3) := by decide +kernel
theorem dz_P_91 : decode cX5_init 91 = .ok (.putfield 42, 3) := by decide +kernel
theorem dz_P_94 : decode cX5_init 94 = .ok (.aload_n 0, 1) := by decide +kernel
theorem dz_P_95 : decode cX5_init 95 = .ok (.iconst 4, 1) := by decide +kernel
theorem dz_P_96 : decode cX5_init 96 = .ok (.anewarray 45, 3) := by decide +kernel
theorem dz_P_99 : decode cX5_init 99 = .ok (.putfield 47, 3) := by decide +kernel
theorem dz_P_102 : decode cX5_init 102 = .ok (.aload_n 0, 1) := by decide +kernel
theorem dz_P_103 : decode cX5_init 103 = .ok (.iconst 1, 1) := by decide +kernel
theorem dz_P_104 : decode cX5_init 104 = .ok (.putfield 51, 3) := by decide +kernel
theorem dz_P_107 : decode cX5_init 107 = .ok (.aload_n 0, 1) := by decide +kernel
theorem dz_P_108 : decode cX5_init 108 = .ok (.iconst 0, 1) := by decide +kernel
theorem dz_P_109 : decode cX5_init 109 = .ok (.putfield 55, 3) := by decide +kernel
theorem dz_P_112 : decode cX5_init 112 = .ok (.iconst 0, 1) := by decide +kernel
theorem dz_P_113 : decode cX5_init 113 = .ok (.istore_n 1, 1) := by decide +kernel
theorem dz_P_114 : decode cX5_init 114 = .ok (.iload_n 1, 1) := by decide +kernel
theorem dz_P_115 : decode cX5_init 115 = .ok (.aload_n 0, 1) := by decide +kernel
theorem dz_P_116 : decode cX5_init 116 = .ok (.getfield 47, 3) := by decide +kernel
theorem dz_P_119 : decode cX5_init 119 = .ok (.arraylength, 1) := by decide +kernel
theorem dz_P_120 : decode cX5_init 120 = .ok (.if_icmp .ge 22, 3) := by decide +kernel
theorem dz_P_123 : decode cX5_init 123 = .ok (.aload_n 0, 1) := by decide +kernel
theorem dz_P_124 : decode cX5_init 124 = .ok (.getfield 47, 3) := by decide +kernel
theorem dz_P_127 : decode cX5_init 127 = .ok (.iload_n 1, 1) := by decide +kernel
theorem dz_P_128 : decode cX5_init 128 = .ok (.new 45, 3) := by decide +kernel
theorem dz_P_131 : decode cX5_init 131 = .ok (.dup, 1) := by decide +kernel
theorem dz_P_132 : decode cX5_init 132 = .ok (.invokespecial 59, 3) := by decide +kernel
theorem dz_P_135 : decode cX5_init 135 = .ok (.aastore, 1) := by decide +kernel
theorem dz_P_136 : decode cX5_init 136 = .ok (.iinc 1 1, 3) := by decide +kernel
theorem dz_P_139 : decode cX5_init 139 = .ok (.goto (-25), 3) := by decide +kernel
theorem dz_P_142 : decode cX5_init 142 = .ok (.return_, 1) := by decide +kernel
theorem cz_cw_P : am_cw mm_P ∈ lw_tbl := List.mem_of_getElem? (i := 80) (by decide +kernel)
theorem cz_ini_P : Cond.initialized mm_P.1.cls ∈ lw_tbl := List.mem_of_getElem? (i := 66) (by decide +kernel)
theorem cz_ins_P : Cond.instanceMethod mm_P.1 ∈ lw_tbl := List.mem_of_getElem? (i := 79) (by decide +kernel)
theorem cz_ds_P : mm_P.1.cls ≠ "java/lang/invoke/MethodHandle" ∧ mm_P.1.cls ≠ "java/lang/invoke/VarHandle" ∧ (parseMethodDescriptor mm_P.1.desc).map (fun d => d.parameters.length) = some 0 := by decide +kernel
def kb_P (K : am_K3) (q : Nat) (u : Nat → Nat → Nat) : va_W := (q, .inr (5, [.ref (u 1 0), .ref (u 2 0), .ref (u 3 0), .ref (u 5 0), .ref (u 6 0), .ref (u 7 0), .ref (u 0 7), .int 1, .int 0])) :: (((((((((((kb_Wants K (u 1 0) (u 1) ++ kb_Country K (u 2 0) (u 2, u 4)) ++ kb_Notes K (u 3 0) (u 3)) ++ kb_Course K (u 5 0) (u 1 0) (u 2 0) (u 5)) ++ kb_Course K (u 6 0) (u 1 0) (u 2 0) (u 6)) ++ kb_Course K (u 7 0) (u 1 0) (u 2 0) (u 7)) ++ [(u 0 7, .inl (K.2.2, 4, .inr (.inr (.inr (.inr (fun i => some (u (8 + i) 0)))))))]) ++ kb_Sheet K (u 8 0) (u 8)) ++ kb_Sheet K (u 9 0) (u 9)) ++ kb_Sheet K (u 10 0) (u 10)) ++ kb_Sheet K (u 11 0) (u 11)))
theorem cl_P_11 : (if (1 : Nat) = 0 then Jvm.Cond.methodLink RX5 11 mm_Wants.1 else .methodLinkNest RX5 11 mm_Wants.1 "PromisesKept") ∈ lw_tbl := List.mem_of_getElem? (i := 86) (by decide +kernel)
theorem cl_P_18 : (if (1 : Nat) = 0 then Jvm.Cond.methodLink RX5 18 mm_Country.1 else .methodLinkNest RX5 18 mm_Country.1 "PromisesKept") ∈ lw_tbl := List.mem_of_getElem? (i := 134) (by decide +kernel)
theorem cl_P_25 : (if (1 : Nat) = 0 then Jvm.Cond.methodLink RX5 25 mm_Notes.1 else .methodLinkNest RX5 25 mm_Notes.1 "PromisesKept") ∈ lw_tbl := List.mem_of_getElem? (i := 186) (by decide +kernel)
theorem cl_P_32 : (if (0 : Nat) = 0 then Jvm.Cond.methodLink RX5 32 mm_Course.1 else .methodLinkNest RX5 32 mm_Course.1 "PromisesKept") ∈ lw_tbl := List.mem_of_getElem? (i := 189) (by decide +kernel)
theorem cl_P_59 : (if (1 : Nat) = 0 then Jvm.Cond.methodLink RX5 59 mm_Sheet.1 else .methodLinkNest RX5 59 mm_Sheet.1 "PromisesKept") ∈ lw_tbl := List.mem_of_getElem? (i := 242) (by decide +kernel)
set_option maxHeartbeats 4000000 in
set_option maxRecDepth 100000 in
theorem cz_P (l : Launch) (D : va_G) (K : am_K3) (h0 : Nat) : cz_C l D K mm_P { frames := 3, cells := 46, slots := 603, locals := 60 } [.ref h0] (h0, .inr (5, [.null, .null, .null, .null, .null, .null, .null, .int 0, .int 0])) (kb_P K h0) := by
  refine cz_of (by decide) rfl rfl (Nat.le_of_ble_eq_true rfl) ?_
  intro p e s m below meth c A ls hx hb hr hts hown hlocks hin hml hA hP hK hD hN hl
  have hb : c.code = cX5_init := hb
  have hml : c.maxLocals = 2 := hml
  have hown : s.vm.findClass RX5 = some m.cls := hown
  have hT : ∀ w ∈ lw_tbl, goodWord w = true → w ∈ am_ws mm_P := fun w h1 h2 => List.mem_cons_of_mem _ (am_gw_in h1 h2)
  have hS : va_S A s.heap s.heap [] := va_S.rf
  have hl : lv_has ls 2 [(0, .ref h0)] := hl
  have hP : va_P D vwCl [(h0, .inr (5, [.null, .null, .null, .null, .null, .null, .null, .int 0, .int 0]))] s.heap := hP
  refine lv_aload_n hx hb dz_P_0 rfl (lv_at hl 0 rfl) ?_
  refine W.objInit hx hb hown (hts (.methodLink RX5 3 Lib.objectInit) (hT _ cw_81 rfl)) (hts (.instanceMethod Lib.objectInit) (hT _ cw_82 rfl)) (hts (.code Lib.objectInit ⟨#[0xb1]⟩ 1 none) (hT _ cw_obj rfl)) rfl (by rw [hml]; exact hl.1) rfl dz_P_1 (Nat.le_of_ble_eq_true rfl) (Nat.le_of_ble_eq_true rfl) ?_
  refine W.eq (g2 := F0 m 4 ls []) rfl ?_
  refine lv_aload_n hx hb dz_P_4 rfl (lv_at hl 0 rfl) ?_
  refine va_new (ci := 4) (fs := [.null, .null, .null, .null, .null, .null, .int 0, .int 0, .int 0]) (C := RX4) (T := TX4) (N := 9) hx hb hts (cz_in hT (ci := 4) rfl) tyX4 tyX4_ok hown (hts (.classLink RX5 9 RX4) (hT _ cw_84 rfl)) (hts (.instantiable RX4 9) (hT _ cw_85 rfl)) (hts (.initialized RX4) (hT _ cw_67 rfl)) hK hP hD hS hA rfl (cz_df_Wants) (Nat.le_of_ble_eq_true rfl) (Nat.le_of_ble_eq_true rfl) dz_P_5 (fun q5_0 H hP hD hS => ?_)
  refine W.widen (k := 1) (n := 9) (Nat.le_refl _) (Nat.le_refl _) ?_
  refine lv_dup hx hb dz_P_8 rfl ?_
  refine cz_call (As := []) (rest := [.ref q5_0, .ref h0]) hx hb hml hown hts hT hK hN (cz_Wants l D K q5_0) cz_cw_Wants cz_ini_Wants cz_ins_Wants rfl rfl cz_ds_Wants 1 cl_P_11 ⟨Nat.le_of_ble_eq_true rfl, Nat.le_of_ble_eq_true rfl⟩ ⟨Nat.le_of_ble_eq_true rfl, Nat.le_of_ble_eq_true rfl⟩ hP hD hS hA hl.1 (Nat.le_of_ble_eq_true rfl) dz_P_9 rfl (fun u5_0 H locs hP hD hS => ?_)
  refine W.widen (k := 7) (n := 139) (Nat.le_refl _) (Nat.le_refl _) ?_
  have hP : va_P D vwCl ((h0, .inr (5, [.null, .null, .null, .null, .null, .null, .null, .int 0, .int 0])) :: kb_Wants K q5_0 u5_0) H := hP
  have hD : va_D A ((h0, .inr (5, [.null, .null, .null, .null, .null, .null, .null, .int 0, .int 0])) :: kb_Wants K q5_0 u5_0) := hD
  refine va_putF (D := D) (ci := 5) (v := .ref q5_0) (ty := .object "PromisesKept$Wants") (C := RX5) (T := TX5) (N := 9) hx hb hts (cz_in hT (ci := 5) rfl) tyX5 tyX5_ok nmX5 hown hK hP hD hS 0 rfl rfl 0 (by decide) (hts (.fieldLink RX5 12 "PromisesKept" "wants" "LPromisesKept$Wants;") (hT _ cw_262 rfl)) (fun _ h9 => h9) rfl hin rfl (by decide +kernel) (by first | rfl | decide) (by first | rfl | decide) (Nat.le_of_ble_eq_true rfl) dz_P_12 (fun H locs hP hD hS => ?_)
  have hP : va_P D vwCl ((h0, .inr (5, [.ref q5_0, .null, .null, .null, .null, .null, .null, .int 0, .int 0])) :: kb_Wants K q5_0 u5_0) H := hP
  have hD : va_D A ((h0, .inr (5, [.ref q5_0, .null, .null, .null, .null, .null, .null, .int 0, .int 0])) :: kb_Wants K q5_0 u5_0) := hD
  refine lv_aload_n hx hb dz_P_15 rfl (lv_at hl 0 rfl) ?_
  refine va_new (ci := 0) (fs := [.int 0, .int 0, .null, .null, .null, .null]) (C := RX0) (T := TX0) (N := 6) hx hb hts (cz_in hT (ci := 0) rfl) tyX0 tyX0_ok hown (hts (.classLink RX5 16 RX0) (hT _ cw_132 rfl)) (hts (.instantiable RX0 6) (hT _ cw_133 rfl)) (hts (.initialized RX0) (hT _ cw_68 rfl)) hK hP hD hS hA rfl (cz_df_Country) (Nat.le_of_ble_eq_true rfl) (Nat.le_of_ble_eq_true rfl) dz_P_16 (fun q16_1 H hP hD hS => ?_)
  refine W.widen (k := 8) (n := 145) (Nat.le_refl _) (Nat.le_refl _) ?_
  refine lv_dup hx hb dz_P_19 rfl ?_
  refine cz_call (As := []) (rest := [.ref q16_1, .ref h0]) hx hb hml hown hts hT hK hN (cz_Country l D K q16_1) cz_cw_Country cz_ini_Country cz_ins_Country rfl rfl cz_ds_Country 1 cl_P_18 ⟨Nat.le_of_ble_eq_true rfl, Nat.le_of_ble_eq_true rfl⟩ ⟨Nat.le_of_ble_eq_true rfl, Nat.le_of_ble_eq_true rfl⟩ hP hD hS hA hl.1 (Nat.le_of_ble_eq_true rfl) dz_P_20 rfl (fun u16_1 H locs hP hD hS => ?_)
  refine W.widen (k := 15) (n := 195) (Nat.le_refl _) (Nat.le_refl _) ?_
  have hP : va_P D vwCl ((h0, .inr (5, [.ref q5_0, .null, .null, .null, .null, .null, .null, .int 0, .int 0])) :: (kb_Wants K q5_0 u5_0 ++ kb_Country K q16_1 u16_1)) H := hP
  have hD : va_D A ((h0, .inr (5, [.ref q5_0, .null, .null, .null, .null, .null, .null, .int 0, .int 0])) :: (kb_Wants K q5_0 u5_0 ++ kb_Country K q16_1 u16_1)) := hD
  refine va_putF (D := D) (ci := 5) (v := .ref q16_1) (ty := .object "PromisesKept$Country") (C := RX5) (T := TX5) (N := 9) hx hb hts (cz_in hT (ci := 5) rfl) tyX5 tyX5_ok nmX5 hown hK hP hD hS 0 rfl rfl 1 (by decide) (hts (.fieldLink RX5 19 "PromisesKept" "country" "LPromisesKept$Country;") (hT _ cw_263 rfl)) (fun _ h9 => h9) rfl hin rfl (by decide +kernel) (by first | rfl | decide) (by first | rfl | decide) (Nat.le_of_ble_eq_true rfl) dz_P_23 (fun H locs hP hD hS => ?_)
  have hP : va_P D vwCl ((h0, .inr (5, [.ref q5_0, .ref q16_1, .null, .null, .null, .null, .null, .int 0, .int 0])) :: (kb_Wants K q5_0 u5_0 ++ kb_Country K q16_1 u16_1)) H := hP
  have hD : va_D A ((h0, .inr (5, [.ref q5_0, .ref q16_1, .null, .null, .null, .null, .null, .int 0, .int 0])) :: (kb_Wants K q5_0 u5_0 ++ kb_Country K q16_1 u16_1)) := hD
  refine lv_aload_n hx hb dz_P_26 rfl (lv_at hl 0 rfl) ?_
  refine va_new (ci := 2) (fs := [.null, .null, .null, .int 0]) (C := RX2) (T := TX2) (N := 4) hx hb hts (cz_in hT (ci := 2) rfl) tyX2 tyX2_ok hown (hts (.classLink RX5 23 RX2) (hT _ cw_185 rfl)) (hts (.instantiable RX2 4) (hT _ cw_139 rfl)) (hts (.initialized RX2) (hT _ cw_69 rfl)) hK hP hD hS hA rfl (cz_df_Notes) (Nat.le_of_ble_eq_true rfl) (Nat.le_of_ble_eq_true rfl) dz_P_27 (fun q27_2 H hP hD hS => ?_)
  refine W.widen (k := 16) (n := 199) (Nat.le_refl _) (Nat.le_refl _) ?_
  refine lv_dup hx hb dz_P_30 rfl ?_
  refine cz_call (As := []) (rest := [.ref q27_2, .ref h0]) hx hb hml hown hts hT hK hN (cz_Notes l D K q27_2) cz_cw_Notes cz_ini_Notes cz_ins_Notes rfl rfl cz_ds_Notes 1 cl_P_25 ⟨Nat.le_of_ble_eq_true rfl, Nat.le_of_ble_eq_true rfl⟩ ⟨Nat.le_of_ble_eq_true rfl, Nat.le_of_ble_eq_true rfl⟩ hP hD hS hA hl.1 (Nat.le_of_ble_eq_true rfl) dz_P_31 rfl (fun u27_2 H locs hP hD hS => ?_)
  refine W.widen (k := 19) (n := 223) (Nat.le_refl _) (Nat.le_refl _) ?_
  have hP : va_P D vwCl ((h0, .inr (5, [.ref q5_0, .ref q16_1, .null, .null, .null, .null, .null, .int 0, .int 0])) :: ((kb_Wants K q5_0 u5_0 ++ kb_Country K q16_1 u16_1) ++ kb_Notes K q27_2 u27_2)) H := hP
  have hD : va_D A ((h0, .inr (5, [.ref q5_0, .ref q16_1, .null, .null, .null, .null, .null, .int 0, .int 0])) :: ((kb_Wants K q5_0 u5_0 ++ kb_Country K q16_1 u16_1) ++ kb_Notes K q27_2 u27_2)) := hD
  refine va_putF (D := D) (ci := 5) (v := .ref q27_2) (ty := .object "PromisesKept$Notes") (C := RX5) (T := TX5) (N := 9) hx hb hts (cz_in hT (ci := 5) rfl) tyX5 tyX5_ok nmX5 hown hK hP hD hS 0 rfl rfl 2 (by decide) (hts (.fieldLink RX5 26 "PromisesKept" "sights" "LPromisesKept$Notes;") (hT _ cw_264 rfl)) (fun _ h9 => h9) rfl hin rfl (by decide +kernel) (by first | rfl | decide) (by first | rfl | decide) (Nat.le_of_ble_eq_true rfl) dz_P_34 (fun H locs hP hD hS => ?_)
  have hP : va_P D vwCl ((h0, .inr (5, [.ref q5_0, .ref q16_1, .ref q27_2, .null, .null, .null, .null, .int 0, .int 0])) :: ((kb_Wants K q5_0 u5_0 ++ kb_Country K q16_1 u16_1) ++ kb_Notes K q27_2 u27_2)) H := hP
  have hD : va_D A ((h0, .inr (5, [.ref q5_0, .ref q16_1, .ref q27_2, .null, .null, .null, .null, .int 0, .int 0])) :: ((kb_Wants K q5_0 u5_0 ++ kb_Country K q16_1 u16_1) ++ kb_Notes K q27_2 u27_2)) := hD
  refine lv_aload_n hx hb dz_P_37 rfl (lv_at hl 0 rfl) ?_
  refine va_new (ci := 1) (fs := [.null, .null, .null, .null, .null, .null, .null, .int 0, .int 0, .int 0, .int 0, .int 0, .int 0, .int 0]) (C := RX1) (T := TX1) (N := 14) hx hb hts (cz_in hT (ci := 1) rfl) tyX1 tyX1_ok hown (hts (.classLink RX5 30 RX1) (hT _ cw_187 rfl)) (hts (.instantiable RX1 14) (hT _ cw_188 rfl)) (hts (.initialized RX1) (hT _ cw_70 rfl)) hK hP hD hS hA rfl (cz_df_Course) (Nat.le_of_ble_eq_true rfl) (Nat.le_of_ble_eq_true rfl) dz_P_38 (fun q38_3 H hP hD hS => ?_)
  refine W.widen (k := 20) (n := 237) (Nat.le_refl _) (Nat.le_refl _) ?_
  refine lv_dup hx hb dz_P_41 rfl ?_
  refine lv_aload_n hx hb dz_P_42 rfl (lv_at hl 0 rfl) ?_
  refine va_get (D := D) (ci := 5) (v := .ref q5_0) (C := RX5) (T := TX5) (N := 9) hx hb hts (cz_in hT (ci := 5) rfl) hown hK hP 0 rfl rfl 0 (by decide) (hts (.fieldLink RX5 12 "PromisesKept" "wants" "LPromisesKept$Wants;") (hT _ cw_262 rfl)) (fun _ h9 => h9) rfl dz_P_43 ?_
  refine lv_aload_n hx hb dz_P_46 rfl (lv_at hl 0 rfl) ?_
  refine va_get (D := D) (ci := 5) (v := .ref q16_1) (C := RX5) (T := TX5) (N := 9) hx hb hts (cz_in hT (ci := 5) rfl) hown hK hP 0 rfl rfl 1 (by decide) (hts (.fieldLink RX5 19 "PromisesKept" "country" "LPromisesKept$Country;") (hT _ cw_263 rfl)) (fun _ h9 => h9) rfl dz_P_47 ?_
  refine cz_call (As := [.ref q5_0, .ref q16_1]) (rest := [.ref q38_3, .ref h0]) hx hb hml hown hts hT hK hN (cz_Course l D K q38_3 q5_0 q16_1) cz_cw_Course cz_ini_Course cz_ins_Course rfl rfl cz_ds_Course 0 cl_P_32 ⟨Nat.le_of_ble_eq_true rfl, Nat.le_of_ble_eq_true rfl⟩ ⟨Nat.le_of_ble_eq_true rfl, Nat.le_of_ble_eq_true rfl⟩ hP hD hS hA hl.1 (Nat.le_of_ble_eq_true rfl) dz_P_50 rfl (fun u38_3 H locs hP hD hS => ?_)
  refine W.widen (k := 25) (n := 279) (Nat.le_refl _) (Nat.le_refl _) ?_
  have hP : va_P D vwCl ((h0, .inr (5, [.ref q5_0, .ref q16_1, .ref q27_2, .null, .null, .null, .null, .int 0, .int 0])) :: (((kb_Wants K q5_0 u5_0 ++ kb_Country K q16_1 u16_1) ++ kb_Notes K q27_2 u27_2) ++ kb_Course K q38_3 q5_0 q16_1 u38_3)) H := hP
  have hD : va_D A ((h0, .inr (5, [.ref q5_0, .ref q16_1, .ref q27_2, .null, .null, .null, .null, .int 0, .int 0])) :: (((kb_Wants K q5_0 u5_0 ++ kb_Country K q16_1 u16_1) ++ kb_Notes K q27_2 u27_2) ++ kb_Course K q38_3 q5_0 q16_1 u38_3)) := hD
  refine va_putF (D := D) (ci := 5) (v := .ref q38_3) (ty := .object "PromisesKept$Course") (C := RX5) (T := TX5) (N := 9) hx hb hts (cz_in hT (ci := 5) rfl) tyX5 tyX5_ok nmX5 hown hK hP hD hS 0 rfl rfl 3 (by decide) (hts (.fieldLink RX5 35 "PromisesKept" "now" "LPromisesKept$Course;") (hT _ cw_265 rfl)) (fun _ h9 => h9) rfl hin rfl (by decide +kernel) (by first | rfl | decide) (by first | rfl | decide) (Nat.le_of_ble_eq_true rfl) dz_P_53 (fun H locs hP hD hS => ?_)
  have hP : va_P D vwCl ((h0, .inr (5, [.ref q5_0, .ref q16_1, .ref q27_2, .ref q38_3, .null, .null, .null, .int 0, .int 0])) :: (((kb_Wants K q5_0 u5_0 ++ kb_Country K q16_1 u16_1) ++ kb_Notes K q27_2 u27_2) ++ kb_Course K q38_3 q5_0 q16_1 u38_3)) H := hP
  have hD : va_D A ((h0, .inr (5, [.ref q5_0, .ref q16_1, .ref q27_2, .ref q38_3, .null, .null, .null, .int 0, .int 0])) :: (((kb_Wants K q5_0 u5_0 ++ kb_Country K q16_1 u16_1) ++ kb_Notes K q27_2 u27_2) ++ kb_Course K q38_3 q5_0 q16_1 u38_3)) := hD
  refine lv_aload_n hx hb dz_P_56 rfl (lv_at hl 0 rfl) ?_
  refine va_new (ci := 1) (fs := [.null, .null, .null, .null, .null, .null, .null, .int 0, .int 0, .int 0, .int 0, .int 0, .int 0, .int 0]) (C := RX1) (T := TX1) (N := 14) hx hb hts (cz_in hT (ci := 1) rfl) tyX1 tyX1_ok hown (hts (.classLink RX5 30 RX1) (hT _ cw_187 rfl)) (hts (.instantiable RX1 14) (hT _ cw_188 rfl)) (hts (.initialized RX1) (hT _ cw_70 rfl)) hK hP hD hS hA rfl (cz_df_Course) (Nat.le_of_ble_eq_true rfl) (Nat.le_of_ble_eq_true rfl) dz_P_57 (fun q57_4 H hP hD hS => ?_)
  refine W.widen (k := 26) (n := 293) (Nat.le_refl _) (Nat.le_refl _) ?_
  refine lv_dup hx hb dz_P_60 rfl ?_
  refine lv_aload_n hx hb dz_P_61 rfl (lv_at hl 0 rfl) ?_
  refine va_get (D := D) (ci := 5) (v := .ref q5_0) (C := RX5) (T := TX5) (N := 9) hx hb hts (cz_in hT (ci := 5) rfl) hown hK hP 0 rfl rfl 0 (by decide) (hts (.fieldLink RX5 12 "PromisesKept" "wants" "LPromisesKept$Wants;") (hT _ cw_262 rfl)) (fun _ h9 => h9) rfl dz_P_62 ?_
  refine lv_aload_n hx hb dz_P_65 rfl (lv_at hl 0 rfl) ?_
  refine va_get (D := D) (ci := 5) (v := .ref q16_1) (C := RX5) (T := TX5) (N := 9) hx hb hts (cz_in hT (ci := 5) rfl) hown hK hP 0 rfl rfl 1 (by decide) (hts (.fieldLink RX5 19 "PromisesKept" "country" "LPromisesKept$Country;") (hT _ cw_263 rfl)) (fun _ h9 => h9) rfl dz_P_66 ?_
  refine cz_call (As := [.ref q5_0, .ref q16_1]) (rest := [.ref q57_4, .ref h0]) hx hb hml hown hts hT hK hN (cz_Course l D K q57_4 q5_0 q16_1) cz_cw_Course cz_ini_Course cz_ins_Course rfl rfl cz_ds_Course 0 cl_P_32 ⟨Nat.le_of_ble_eq_true rfl, Nat.le_of_ble_eq_true rfl⟩ ⟨Nat.le_of_ble_eq_true rfl, Nat.le_of_ble_eq_true rfl⟩ hP hD hS hA hl.1 (Nat.le_of_ble_eq_true rfl) dz_P_69 rfl (fun u57_4 H locs hP hD hS => ?_)
  refine W.widen (k := 31) (n := 335) (Nat.le_refl _) (Nat.le_refl _) ?_
  have hP : va_P D vwCl ((h0, .inr (5, [.ref q5_0, .ref q16_1, .ref q27_2, .ref q38_3, .null, .null, .null, .int 0, .int 0])) :: ((((kb_Wants K q5_0 u5_0 ++ kb_Country K q16_1 u16_1) ++ kb_Notes K q27_2 u27_2) ++ kb_Course K q38_3 q5_0 q16_1 u38_3) ++ kb_Course K q57_4 q5_0 q16_1 u57_4)) H := hP
  have hD : va_D A ((h0, .inr (5, [.ref q5_0, .ref q16_1, .ref q27_2, .ref q38_3, .null, .null, .null, .int 0, .int 0])) :: ((((kb_Wants K q5_0 u5_0 ++ kb_Country K q16_1 u16_1) ++ kb_Notes K q27_2 u27_2) ++ kb_Course K q38_3 q5_0 q16_1 u38_3) ++ kb_Course K q57_4 q5_0 q16_1 u57_4)) := hD
  refine va_putF (D := D) (ci := 5) (v := .ref q57_4) (ty := .object "PromisesKept$Course") (C := RX5) (T := TX5) (N := 9) hx hb hts (cz_in hT (ci := 5) rfl) tyX5 tyX5_ok nmX5 hown hK hP hD hS 0 rfl rfl 4 (by decide) (hts (.fieldLink RX5 39 "PromisesKept" "supposed" "LPromisesKept$Course;") (hT _ cw_266 rfl)) (fun _ h9 => h9) rfl hin rfl (by decide +kernel) (by first | rfl | decide) (by first | rfl | decide) (Nat.le_of_ble_eq_true rfl) dz_P_72 (fun H locs hP hD hS => ?_)
  have hP : va_P D vwCl ((h0, .inr (5, [.ref q5_0, .ref q16_1, .ref q27_2, .ref q38_3, .ref q57_4, .null, .null, .int 0, .int 0])) :: ((((kb_Wants K q5_0 u5_0 ++ kb_Country K q16_1 u16_1) ++ kb_Notes K q27_2 u27_2) ++ kb_Course K q38_3 q5_0 q16_1 u38_3) ++ kb_Course K q57_4 q5_0 q16_1 u57_4)) H := hP
  have hD : va_D A ((h0, .inr (5, [.ref q5_0, .ref q16_1, .ref q27_2, .ref q38_3, .ref q57_4, .null, .null, .int 0, .int 0])) :: ((((kb_Wants K q5_0 u5_0 ++ kb_Country K q16_1 u16_1) ++ kb_Notes K q27_2 u27_2) ++ kb_Course K q38_3 q5_0 q16_1 u38_3) ++ kb_Course K q57_4 q5_0 q16_1 u57_4)) := hD
  refine lv_aload_n hx hb dz_P_75 rfl (lv_at hl 0 rfl) ?_
  refine va_new (ci := 1) (fs := [.null, .null, .null, .null, .null, .null, .null, .int 0, .int 0, .int 0, .int 0, .int 0, .int 0, .int 0]) (C := RX1) (T := TX1) (N := 14) hx hb hts (cz_in hT (ci := 1) rfl) tyX1 tyX1_ok hown (hts (.classLink RX5 30 RX1) (hT _ cw_187 rfl)) (hts (.instantiable RX1 14) (hT _ cw_188 rfl)) (hts (.initialized RX1) (hT _ cw_70 rfl)) hK hP hD hS hA rfl (cz_df_Course) (Nat.le_of_ble_eq_true rfl) (Nat.le_of_ble_eq_true rfl) dz_P_76 (fun q76_5 H hP hD hS => ?_)
  refine W.widen (k := 32) (n := 349) (Nat.le_refl _) (Nat.le_refl _) ?_
  refine lv_dup hx hb dz_P_79 rfl ?_
  refine lv_aload_n hx hb dz_P_80 rfl (lv_at hl 0 rfl) ?_
  refine va_get (D := D) (ci := 5) (v := .ref q5_0) (C := RX5) (T := TX5) (N := 9) hx hb hts (cz_in hT (ci := 5) rfl) hown hK hP 0 rfl rfl 0 (by decide) (hts (.fieldLink RX5 12 "PromisesKept" "wants" "LPromisesKept$Wants;") (hT _ cw_262 rfl)) (fun _ h9 => h9) rfl dz_P_81 ?_
  refine lv_aload_n hx hb dz_P_84 rfl (lv_at hl 0 rfl) ?_
  refine va_get (D := D) (ci := 5) (v := .ref q16_1) (C := RX5) (T := TX5) (N := 9) hx hb hts (cz_in hT (ci := 5) rfl) hown hK hP 0 rfl rfl 1 (by decide) (hts (.fieldLink RX5 19 "PromisesKept" "country" "LPromisesKept$Country;") (hT _ cw_263 rfl)) (fun _ h9 => h9) rfl dz_P_85 ?_
  refine cz_call (As := [.ref q5_0, .ref q16_1]) (rest := [.ref q76_5, .ref h0]) hx hb hml hown hts hT hK hN (cz_Course l D K q76_5 q5_0 q16_1) cz_cw_Course cz_ini_Course cz_ins_Course rfl rfl cz_ds_Course 0 cl_P_32 ⟨Nat.le_of_ble_eq_true rfl, Nat.le_of_ble_eq_true rfl⟩ ⟨Nat.le_of_ble_eq_true rfl, Nat.le_of_ble_eq_true rfl⟩ hP hD hS hA hl.1 (Nat.le_of_ble_eq_true rfl) dz_P_88 rfl (fun u76_5 H locs hP hD hS => ?_)
  refine W.widen (k := 37) (n := 391) (Nat.le_refl _) (Nat.le_refl _) ?_
  have hP : va_P D vwCl ((h0, .inr (5, [.ref q5_0, .ref q16_1, .ref q27_2, .ref q38_3, .ref q57_4, .null, .null, .int 0, .int 0])) :: (((((kb_Wants K q5_0 u5_0 ++ kb_Country K q16_1 u16_1) ++ kb_Notes K q27_2 u27_2) ++ kb_Course K q38_3 q5_0 q16_1 u38_3) ++ kb_Course K q57_4 q5_0 q16_1 u57_4) ++ kb_Course K q76_5 q5_0 q16_1 u76_5)) H := hP
  have hD : va_D A ((h0, .inr (5, [.ref q5_0, .ref q16_1, .ref q27_2, .ref q38_3, .ref q57_4, .null, .null, .int 0, .int 0])) :: (((((kb_Wants K q5_0 u5_0 ++ kb_Country K q16_1 u16_1) ++ kb_Notes K q27_2 u27_2) ++ kb_Course K q38_3 q5_0 q16_1 u38_3) ++ kb_Course K q57_4 q5_0 q16_1 u57_4) ++ kb_Course K q76_5 q5_0 q16_1 u76_5)) := hD
  refine va_putF (D := D) (ci := 5) (v := .ref q76_5) (ty := .object "PromisesKept$Course") (C := RX5) (T := TX5) (N := 9) hx hb hts (cz_in hT (ci := 5) rfl) tyX5 tyX5_ok nmX5 hown hK hP hD hS 0 rfl rfl 5 (by decide) (hts (.fieldLink RX5 42 "PromisesKept" "compared" "LPromisesKept$Course;") (hT _ cw_267 rfl)) (fun _ h9 => h9) rfl hin rfl (by decide +kernel) (by first | rfl | decide) (by first | rfl | decide) (Nat.le_of_ble_eq_true rfl) dz_P_91 (fun H locs hP hD hS => ?_)
  have hP : va_P D vwCl ((h0, .inr (5, [.ref q5_0, .ref q16_1, .ref q27_2, .ref q38_3, .ref q57_4, .ref q76_5, .null, .int 0, .int 0])) :: (((((kb_Wants K q5_0 u5_0 ++ kb_Country K q16_1 u16_1) ++ kb_Notes K q27_2 u27_2) ++ kb_Course K q38_3 q5_0 q16_1 u38_3) ++ kb_Course K q57_4 q5_0 q16_1 u57_4) ++ kb_Course K q76_5 q5_0 q16_1 u76_5)) H := hP
  have hD : va_D A ((h0, .inr (5, [.ref q5_0, .ref q16_1, .ref q27_2, .ref q38_3, .ref q57_4, .ref q76_5, .null, .int 0, .int 0])) :: (((((kb_Wants K q5_0 u5_0 ++ kb_Country K q16_1 u16_1) ++ kb_Notes K q27_2 u27_2) ++ kb_Course K q38_3 q5_0 q16_1 u38_3) ++ kb_Course K q57_4 q5_0 q16_1 u57_4) ++ kb_Course K q76_5 q5_0 q16_1 u76_5)) := hD
  refine lv_aload_n hx hb dz_P_94 rfl (lv_at hl 0 rfl) ?_
  refine lv_iconst (v := 4) hx hb dz_P_95 (by decide) ?_
  refine cz_newq (N' := 4) hx hb hown (hts _ (hT _ cw_239 rfl)) hN hK hP hD hS hA (by decide) (by decide) (by decide) (Nat.le_of_ble_eq_true rfl) (Nat.le_of_ble_eq_true rfl) dz_P_96 (fun q96 H hP hD hS => ?_)
  refine W.widen (k := 38) (n := 395) (Nat.le_refl _) (Nat.le_refl _) ?_
  have hP : va_P D vwCl ((h0, .inr (5, [.ref q5_0, .ref q16_1, .ref q27_2, .ref q38_3, .ref q57_4, .ref q76_5, .null, .int 0, .int 0])) :: ((((((kb_Wants K q5_0 u5_0 ++ kb_Country K q16_1 u16_1) ++ kb_Notes K q27_2 u27_2) ++ kb_Course K q38_3 q5_0 q16_1 u38_3) ++ kb_Course K q57_4 q5_0 q16_1 u57_4) ++ kb_Course K q76_5 q5_0 q16_1 u76_5) ++ [(q96, .inl (K.2.2, 4, .inr (.inr (.inr (.inr (fun _ => none))))))])) H := hP
  have hD : va_D A ((h0, .inr (5, [.ref q5_0, .ref q16_1, .ref q27_2, .ref q38_3, .ref q57_4, .ref q76_5, .null, .int 0, .int 0])) :: ((((((kb_Wants K q5_0 u5_0 ++ kb_Country K q16_1 u16_1) ++ kb_Notes K q27_2 u27_2) ++ kb_Course K q38_3 q5_0 q16_1 u38_3) ++ kb_Course K q57_4 q5_0 q16_1 u57_4) ++ kb_Course K q76_5 q5_0 q16_1 u76_5) ++ [(q96, .inl (K.2.2, 4, .inr (.inr (.inr (.inr (fun _ => none))))))])) := hD
  refine va_putF (D := D) (ci := 5) (v := .ref q96) (ty := .array (.object "PromisesKept$Sheet")) (C := RX5) (T := TX5) (N := 9) hx hb hts (cz_in hT (ci := 5) rfl) tyX5 tyX5_ok nmX5 hown hK hP hD hS 0 rfl rfl 6 (by decide) (hts (.fieldLink RX5 47 "PromisesKept" "sheets" "[LPromisesKept$Sheet;") (hT _ cw_268 rfl)) (fun _ h9 => h9) rfl hin rfl (by decide +kernel) (by first | rfl | decide) (by first | rfl | decide) (Nat.le_of_ble_eq_true rfl) dz_P_99 (fun H locs hP hD hS => ?_)
  have hP : va_P D vwCl ((h0, .inr (5, [.ref q5_0, .ref q16_1, .ref q27_2, .ref q38_3, .ref q57_4, .ref q76_5, .ref q96, .int 0, .int 0])) :: ((((((kb_Wants K q5_0 u5_0 ++ kb_Country K q16_1 u16_1) ++ kb_Notes K q27_2 u27_2) ++ kb_Course K q38_3 q5_0 q16_1 u38_3) ++ kb_Course K q57_4 q5_0 q16_1 u57_4) ++ kb_Course K q76_5 q5_0 q16_1 u76_5) ++ [(q96, .inl (K.2.2, 4, .inr (.inr (.inr (.inr (fun _ => none))))))])) H := hP
  have hD : va_D A ((h0, .inr (5, [.ref q5_0, .ref q16_1, .ref q27_2, .ref q38_3, .ref q57_4, .ref q76_5, .ref q96, .int 0, .int 0])) :: ((((((kb_Wants K q5_0 u5_0 ++ kb_Country K q16_1 u16_1) ++ kb_Notes K q27_2 u27_2) ++ kb_Course K q38_3 q5_0 q16_1 u38_3) ++ kb_Course K q57_4 q5_0 q16_1 u57_4) ++ kb_Course K q76_5 q5_0 q16_1 u76_5) ++ [(q96, .inl (K.2.2, 4, .inr (.inr (.inr (.inr (fun _ => none))))))])) := hD
  refine lv_aload_n hx hb dz_P_102 rfl (lv_at hl 0 rfl) ?_
  refine lv_iconst (v := 1) hx hb dz_P_103 (by decide) ?_
  refine va_put (D := D) (ci := 5) (v := .int 1) (ty := .boolean) (C := RX5) (T := TX5) (N := 9) hx hb hts (cz_in hT (ci := 5) rfl) tyX5 tyX5_ok nmX5 hown hK hP hD hS 0 rfl rfl 7 (by decide) (hts (.fieldLink RX5 51 "PromisesKept" "stale" "Z") (hT _ cw_269 rfl)) (fun _ h9 => h9) rfl (by decide +kernel) (by first | rfl | decide) (by first | rfl | decide) (Nat.le_of_ble_eq_true rfl) dz_P_104 (fun H locs hP hD hS => ?_)
  have hP : va_P D vwCl ((h0, .inr (5, [.ref q5_0, .ref q16_1, .ref q27_2, .ref q38_3, .ref q57_4, .ref q76_5, .ref q96, .int 1, .int 0])) :: ((((((kb_Wants K q5_0 u5_0 ++ kb_Country K q16_1 u16_1) ++ kb_Notes K q27_2 u27_2) ++ kb_Course K q38_3 q5_0 q16_1 u38_3) ++ kb_Course K q57_4 q5_0 q16_1 u57_4) ++ kb_Course K q76_5 q5_0 q16_1 u76_5) ++ [(q96, .inl (K.2.2, 4, .inr (.inr (.inr (.inr (fun _ => none))))))])) H := hP
  have hD : va_D A ((h0, .inr (5, [.ref q5_0, .ref q16_1, .ref q27_2, .ref q38_3, .ref q57_4, .ref q76_5, .ref q96, .int 1, .int 0])) :: ((((((kb_Wants K q5_0 u5_0 ++ kb_Country K q16_1 u16_1) ++ kb_Notes K q27_2 u27_2) ++ kb_Course K q38_3 q5_0 q16_1 u38_3) ++ kb_Course K q57_4 q5_0 q16_1 u57_4) ++ kb_Course K q76_5 q5_0 q16_1 u76_5) ++ [(q96, .inl (K.2.2, 4, .inr (.inr (.inr (.inr (fun _ => none))))))])) := hD
  refine lv_aload_n hx hb dz_P_107 rfl (lv_at hl 0 rfl) ?_
  refine lv_iconst (v := 0) hx hb dz_P_108 (by decide) ?_
  refine va_put (D := D) (ci := 5) (v := .int 0) (ty := .int) (C := RX5) (T := TX5) (N := 9) hx hb hts (cz_in hT (ci := 5) rfl) tyX5 tyX5_ok nmX5 hown hK hP hD hS 0 rfl rfl 8 (by decide) (hts (.fieldLink RX5 55 "PromisesKept" "finding" "I") (hT _ cw_270 rfl)) (fun _ h9 => h9) rfl (by decide +kernel) (by first | rfl | decide) (by first | rfl | decide) (Nat.le_of_ble_eq_true rfl) dz_P_109 (fun H locs hP hD hS => ?_)
  have hP : va_P D vwCl ((h0, .inr (5, [.ref q5_0, .ref q16_1, .ref q27_2, .ref q38_3, .ref q57_4, .ref q76_5, .ref q96, .int 1, .int 0])) :: ((((((kb_Wants K q5_0 u5_0 ++ kb_Country K q16_1 u16_1) ++ kb_Notes K q27_2 u27_2) ++ kb_Course K q38_3 q5_0 q16_1 u38_3) ++ kb_Course K q57_4 q5_0 q16_1 u57_4) ++ kb_Course K q76_5 q5_0 q16_1 u76_5) ++ [(q96, .inl (K.2.2, 4, .inr (.inr (.inr (.inr (fun _ => none))))))])) H := hP
  have hD : va_D A ((h0, .inr (5, [.ref q5_0, .ref q16_1, .ref q27_2, .ref q38_3, .ref q57_4, .ref q76_5, .ref q96, .int 1, .int 0])) :: ((((((kb_Wants K q5_0 u5_0 ++ kb_Country K q16_1 u16_1) ++ kb_Notes K q27_2 u27_2) ++ kb_Course K q38_3 q5_0 q16_1 u38_3) ++ kb_Course K q57_4 q5_0 q16_1 u57_4) ++ kb_Course K q76_5 q5_0 q16_1 u76_5) ++ [(q96, .inl (K.2.2, 4, .inr (.inr (.inr (.inr (fun _ => none))))))])) := hD
  refine lv_iconst (v := 0) hx hb dz_P_112 (by decide) ?_
  refine lv_istore_n (lv' := [(1, .int 0), (0, .ref h0)]) hx hb dz_P_113 rfl hl (by decide) rfl (fun ls hl => ?_)
  refine lv_iload_n hx hb dz_P_114 rfl (lv_at hl 0 rfl) ?_
  refine lv_aload_n hx hb dz_P_115 rfl (lv_at hl 1 rfl) ?_
  refine va_get (D := D) (ci := 5) (v := .ref q96) (C := RX5) (T := TX5) (N := 9) hx hb hts (cz_in hT (ci := 5) rfl) hown hK hP 0 rfl rfl 6 (by decide) (hts (.fieldLink RX5 47 "PromisesKept" "sheets" "[LPromisesKept$Sheet;") (hT _ cw_268 rfl)) (fun _ h9 => h9) rfl dz_P_116 ?_
  refine va_alen hx hb hK hP 38 2 rfl rfl (v := 4) rfl dz_P_119 ?_
  refine lv_icmp_ge (tgt := 142) hx hb dz_P_120 (by decide) (fun h => absurd h (by decide)) (fun _ => ?_)
  refine lv_aload_n hx hb dz_P_123 rfl (lv_at hl 1 rfl) ?_
  refine va_get (D := D) (ci := 5) (v := .ref q96) (C := RX5) (T := TX5) (N := 9) hx hb hts (cz_in hT (ci := 5) rfl) hown hK hP 0 rfl rfl 6 (by decide) (hts (.fieldLink RX5 47 "PromisesKept" "sheets" "[LPromisesKept$Sheet;") (hT _ cw_268 rfl)) (fun _ h9 => h9) rfl dz_P_124 ?_
  refine lv_iload_n hx hb dz_P_127 rfl (lv_at hl 0 rfl) ?_
  refine va_new (ci := 3) (fs := [.null, .int 0, .int 0, .int 0]) (C := RX3) (T := TX3) (N := 4) hx hb hts (cz_in hT (ci := 3) rfl) tyX3 tyX3_ok hown (hts (.classLink RX5 45 RX3) (hT _ cw_239 rfl)) (hts (.instantiable RX3 4) (hT _ cw_241 rfl)) (hts (.initialized RX3) (hT _ cw_71 rfl)) hK hP hD hS hA rfl (cz_df_Sheet) (Nat.le_of_ble_eq_true rfl) (Nat.le_of_ble_eq_true rfl) dz_P_128 (fun q128_6 H hP hD hS => ?_)
  refine W.widen (k := 39) (n := 399) (Nat.le_refl _) (Nat.le_refl _) ?_
  refine lv_dup hx hb dz_P_131 rfl ?_
  refine cz_call (As := []) (rest := [.ref q128_6, .int 0, .ref q96]) hx hb hml hown hts hT hK hN (cz_Sheet l D K q128_6) cz_cw_Sheet cz_ini_Sheet cz_ins_Sheet rfl rfl cz_ds_Sheet 1 cl_P_59 ⟨Nat.le_of_ble_eq_true rfl, Nat.le_of_ble_eq_true rfl⟩ ⟨Nat.le_of_ble_eq_true rfl, Nat.le_of_ble_eq_true rfl⟩ hP hD hS hA hl.1 (Nat.le_of_ble_eq_true rfl) dz_P_132 rfl (fun u128_6 H locs hP hD hS => ?_)
  refine W.widen (k := 40) (n := 447) (Nat.le_refl _) (Nat.le_refl _) ?_
  have hP : va_P D vwCl ((h0, .inr (5, [.ref q5_0, .ref q16_1, .ref q27_2, .ref q38_3, .ref q57_4, .ref q76_5, .ref q96, .int 1, .int 0])) :: (((((((kb_Wants K q5_0 u5_0 ++ kb_Country K q16_1 u16_1) ++ kb_Notes K q27_2 u27_2) ++ kb_Course K q38_3 q5_0 q16_1 u38_3) ++ kb_Course K q57_4 q5_0 q16_1 u57_4) ++ kb_Course K q76_5 q5_0 q16_1 u76_5) ++ [(q96, .inl (K.2.2, 4, .inr (.inr (.inr (.inr (fun _ => none))))))]) ++ kb_Sheet K q128_6 u128_6)) H := hP
  have hD : va_D A ((h0, .inr (5, [.ref q5_0, .ref q16_1, .ref q27_2, .ref q38_3, .ref q57_4, .ref q76_5, .ref q96, .int 1, .int 0])) :: (((((((kb_Wants K q5_0 u5_0 ++ kb_Country K q16_1 u16_1) ++ kb_Notes K q27_2 u27_2) ++ kb_Course K q38_3 q5_0 q16_1 u38_3) ++ kb_Course K q57_4 q5_0 q16_1 u57_4) ++ kb_Course K q76_5 q5_0 q16_1 u76_5) ++ [(q96, .inl (K.2.2, 4, .inr (.inr (.inr (.inr (fun _ => none))))))]) ++ kb_Sheet K q128_6 u128_6)) := hD
  refine va_astq hx hb hK hP hD hS 38 2 39 3 rfl rfl rfl rfl (i := 0) (by unfold vp_in; decide) dz_P_135 (fun H locs hP hD hS => ?_)
  have hP : va_P D vwCl ((h0, .inr (5, [.ref q5_0, .ref q16_1, .ref q27_2, .ref q38_3, .ref q57_4, .ref q76_5, .ref q96, .int 1, .int 0])) :: (((((((kb_Wants K q5_0 u5_0 ++ kb_Country K q16_1 u16_1) ++ kb_Notes K q27_2 u27_2) ++ kb_Course K q38_3 q5_0 q16_1 u38_3) ++ kb_Course K q57_4 q5_0 q16_1 u57_4) ++ kb_Course K q76_5 q5_0 q16_1 u76_5) ++ [(q96, .inl (K.2.2, 4, .inr (.inr (.inr (.inr (va_up (fun _ => none) 0 (some q128_6)))))))]) ++ kb_Sheet K q128_6 u128_6)) H := hP
  have hD : va_D A ((h0, .inr (5, [.ref q5_0, .ref q16_1, .ref q27_2, .ref q38_3, .ref q57_4, .ref q76_5, .ref q96, .int 1, .int 0])) :: (((((((kb_Wants K q5_0 u5_0 ++ kb_Country K q16_1 u16_1) ++ kb_Notes K q27_2 u27_2) ++ kb_Course K q38_3 q5_0 q16_1 u38_3) ++ kb_Course K q57_4 q5_0 q16_1 u57_4) ++ kb_Course K q76_5 q5_0 q16_1 u76_5) ++ [(q96, .inl (K.2.2, 4, .inr (.inr (.inr (.inr (va_up (fun _ => none) 0 (some q128_6)))))))]) ++ kb_Sheet K q128_6 u128_6)) := hD
  refine lv_iinc (v := 1) (lv' := [(1, .int 1), (0, .ref h0)]) hx hb dz_P_136 hl (k := 0) rfl (by decide) (by decide) rfl (fun ls hl => ?_)
  refine lv_goto (tgt := 114) hx hb dz_P_139 (by decide) ?_
  refine lv_iload_n hx hb dz_P_114 rfl (lv_at hl 0 rfl) ?_
  refine lv_aload_n hx hb dz_P_115 rfl (lv_at hl 1 rfl) ?_
  refine va_get (D := D) (ci := 5) (v := .ref q96) (C := RX5) (T := TX5) (N := 9) hx hb hts (cz_in hT (ci := 5) rfl) hown hK hP 0 rfl rfl 6 (by decide) (hts (.fieldLink RX5 47 "PromisesKept" "sheets" "[LPromisesKept$Sheet;") (hT _ cw_268 rfl)) (fun _ h9 => h9) rfl dz_P_116 ?_
  refine va_alen hx hb hK hP 38 2 rfl rfl (v := 4) rfl dz_P_119 ?_
  refine lv_icmp_ge (tgt := 142) hx hb dz_P_120 (by decide) (fun h => absurd h (by decide)) (fun _ => ?_)
  refine lv_aload_n hx hb dz_P_123 rfl (lv_at hl 1 rfl) ?_
  refine va_get (D := D) (ci := 5) (v := .ref q96) (C := RX5) (T := TX5) (N := 9) hx hb hts (cz_in hT (ci := 5) rfl) hown hK hP 0 rfl rfl 6 (by decide) (hts (.fieldLink RX5 47 "PromisesKept" "sheets" "[LPromisesKept$Sheet;") (hT _ cw_268 rfl)) (fun _ h9 => h9) rfl dz_P_124 ?_
  refine lv_iload_n hx hb dz_P_127 rfl (lv_at hl 0 rfl) ?_
  refine va_new (ci := 3) (fs := [.null, .int 0, .int 0, .int 0]) (C := RX3) (T := TX3) (N := 4) hx hb hts (cz_in hT (ci := 3) rfl) tyX3 tyX3_ok hown (hts (.classLink RX5 45 RX3) (hT _ cw_239 rfl)) (hts (.instantiable RX3 4) (hT _ cw_241 rfl)) (hts (.initialized RX3) (hT _ cw_71 rfl)) hK hP hD hS hA rfl (cz_df_Sheet) (Nat.le_of_ble_eq_true rfl) (Nat.le_of_ble_eq_true rfl) dz_P_128 (fun q128_7 H hP hD hS => ?_)
  refine W.widen (k := 41) (n := 451) (Nat.le_refl _) (Nat.le_refl _) ?_
  refine lv_dup hx hb dz_P_131 rfl ?_
  refine cz_call (As := []) (rest := [.ref q128_7, .int 1, .ref q96]) hx hb hml hown hts hT hK hN (cz_Sheet l D K q128_7) cz_cw_Sheet cz_ini_Sheet cz_ins_Sheet rfl rfl cz_ds_Sheet 1 cl_P_59 ⟨Nat.le_of_ble_eq_true rfl, Nat.le_of_ble_eq_true rfl⟩ ⟨Nat.le_of_ble_eq_true rfl, Nat.le_of_ble_eq_true rfl⟩ hP hD hS hA hl.1 (Nat.le_of_ble_eq_true rfl) dz_P_132 rfl (fun u128_7 H locs hP hD hS => ?_)
  refine W.widen (k := 42) (n := 499) (Nat.le_refl _) (Nat.le_refl _) ?_
  have hP : va_P D vwCl ((h0, .inr (5, [.ref q5_0, .ref q16_1, .ref q27_2, .ref q38_3, .ref q57_4, .ref q76_5, .ref q96, .int 1, .int 0])) :: ((((((((kb_Wants K q5_0 u5_0 ++ kb_Country K q16_1 u16_1) ++ kb_Notes K q27_2 u27_2) ++ kb_Course K q38_3 q5_0 q16_1 u38_3) ++ kb_Course K q57_4 q5_0 q16_1 u57_4) ++ kb_Course K q76_5 q5_0 q16_1 u76_5) ++ [(q96, .inl (K.2.2, 4, .inr (.inr (.inr (.inr (va_up (fun _ => none) 0 (some q128_6)))))))]) ++ kb_Sheet K q128_6 u128_6) ++ kb_Sheet K q128_7 u128_7)) H := hP
  have hD : va_D A ((h0, .inr (5, [.ref q5_0, .ref q16_1, .ref q27_2, .ref q38_3, .ref q57_4, .ref q76_5, .ref q96, .int 1, .int 0])) :: ((((((((kb_Wants K q5_0 u5_0 ++ kb_Country K q16_1 u16_1) ++ kb_Notes K q27_2 u27_2) ++ kb_Course K q38_3 q5_0 q16_1 u38_3) ++ kb_Course K q57_4 q5_0 q16_1 u57_4) ++ kb_Course K q76_5 q5_0 q16_1 u76_5) ++ [(q96, .inl (K.2.2, 4, .inr (.inr (.inr (.inr (va_up (fun _ => none) 0 (some q128_6)))))))]) ++ kb_Sheet K q128_6 u128_6) ++ kb_Sheet K q128_7 u128_7)) := hD
  refine va_astq hx hb hK hP hD hS 38 2 41 3 rfl rfl rfl rfl (i := 1) (by unfold vp_in; decide) dz_P_135 (fun H locs hP hD hS => ?_)
  have hP : va_P D vwCl ((h0, .inr (5, [.ref q5_0, .ref q16_1, .ref q27_2, .ref q38_3, .ref q57_4, .ref q76_5, .ref q96, .int 1, .int 0])) :: ((((((((kb_Wants K q5_0 u5_0 ++ kb_Country K q16_1 u16_1) ++ kb_Notes K q27_2 u27_2) ++ kb_Course K q38_3 q5_0 q16_1 u38_3) ++ kb_Course K q57_4 q5_0 q16_1 u57_4) ++ kb_Course K q76_5 q5_0 q16_1 u76_5) ++ [(q96, .inl (K.2.2, 4, .inr (.inr (.inr (.inr (va_up (va_up (fun _ => none) 0 (some q128_6)) 1 (some q128_7)))))))]) ++ kb_Sheet K q128_6 u128_6) ++ kb_Sheet K q128_7 u128_7)) H := hP
  have hD : va_D A ((h0, .inr (5, [.ref q5_0, .ref q16_1, .ref q27_2, .ref q38_3, .ref q57_4, .ref q76_5, .ref q96, .int 1, .int 0])) :: ((((((((kb_Wants K q5_0 u5_0 ++ kb_Country K q16_1 u16_1) ++ kb_Notes K q27_2 u27_2) ++ kb_Course K q38_3 q5_0 q16_1 u38_3) ++ kb_Course K q57_4 q5_0 q16_1 u57_4) ++ kb_Course K q76_5 q5_0 q16_1 u76_5) ++ [(q96, .inl (K.2.2, 4, .inr (.inr (.inr (.inr (va_up (va_up (fun _ => none) 0 (some q128_6)) 1 (some q128_7)))))))]) ++ kb_Sheet K q128_6 u128_6) ++ kb_Sheet K q128_7 u128_7)) := hD
  refine lv_iinc (v := 2) (lv' := [(1, .int 2), (0, .ref h0)]) hx hb dz_P_136 hl (k := 0) rfl (by decide) (by decide) rfl (fun ls hl => ?_)
  refine lv_goto (tgt := 114) hx hb dz_P_139 (by decide) ?_
  refine lv_iload_n hx hb dz_P_114 rfl (lv_at hl 0 rfl) ?_
  refine lv_aload_n hx hb dz_P_115 rfl (lv_at hl 1 rfl) ?_
  refine va_get (D := D) (ci := 5) (v := .ref q96) (C := RX5) (T := TX5) (N := 9) hx hb hts (cz_in hT (ci := 5) rfl) hown hK hP 0 rfl rfl 6 (by decide) (hts (.fieldLink RX5 47 "PromisesKept" "sheets" "[LPromisesKept$Sheet;") (hT _ cw_268 rfl)) (fun _ h9 => h9) rfl dz_P_116 ?_
  refine va_alen hx hb hK hP 38 2 rfl rfl (v := 4) rfl dz_P_119 ?_
  refine lv_icmp_ge (tgt := 142) hx hb dz_P_120 (by decide) (fun h => absurd h (by decide)) (fun _ => ?_)
  refine lv_aload_n hx hb dz_P_123 rfl (lv_at hl 1 rfl) ?_
  refine va_get (D := D) (ci := 5) (v := .ref q96) (C := RX5) (T := TX5) (N := 9) hx hb hts (cz_in hT (ci := 5) rfl) hown hK hP 0 rfl rfl 6 (by decide) (hts (.fieldLink RX5 47 "PromisesKept" "sheets" "[LPromisesKept$Sheet;") (hT _ cw_268 rfl)) (fun _ h9 => h9) rfl dz_P_124 ?_
  refine lv_iload_n hx hb dz_P_127 rfl (lv_at hl 0 rfl) ?_
  refine va_new (ci := 3) (fs := [.null, .int 0, .int 0, .int 0]) (C := RX3) (T := TX3) (N := 4) hx hb hts (cz_in hT (ci := 3) rfl) tyX3 tyX3_ok hown (hts (.classLink RX5 45 RX3) (hT _ cw_239 rfl)) (hts (.instantiable RX3 4) (hT _ cw_241 rfl)) (hts (.initialized RX3) (hT _ cw_71 rfl)) hK hP hD hS hA rfl (cz_df_Sheet) (Nat.le_of_ble_eq_true rfl) (Nat.le_of_ble_eq_true rfl) dz_P_128 (fun q128_8 H hP hD hS => ?_)
  refine W.widen (k := 43) (n := 503) (Nat.le_refl _) (Nat.le_refl _) ?_
  refine lv_dup hx hb dz_P_131 rfl ?_
  refine cz_call (As := []) (rest := [.ref q128_8, .int 2, .ref q96]) hx hb hml hown hts hT hK hN (cz_Sheet l D K q128_8) cz_cw_Sheet cz_ini_Sheet cz_ins_Sheet rfl rfl cz_ds_Sheet 1 cl_P_59 ⟨Nat.le_of_ble_eq_true rfl, Nat.le_of_ble_eq_true rfl⟩ ⟨Nat.le_of_ble_eq_true rfl, Nat.le_of_ble_eq_true rfl⟩ hP hD hS hA hl.1 (Nat.le_of_ble_eq_true rfl) dz_P_132 rfl (fun u128_8 H locs hP hD hS => ?_)
  refine W.widen (k := 44) (n := 551) (Nat.le_refl _) (Nat.le_refl _) ?_
  have hP : va_P D vwCl ((h0, .inr (5, [.ref q5_0, .ref q16_1, .ref q27_2, .ref q38_3, .ref q57_4, .ref q76_5, .ref q96, .int 1, .int 0])) :: (((((((((kb_Wants K q5_0 u5_0 ++ kb_Country K q16_1 u16_1) ++ kb_Notes K q27_2 u27_2) ++ kb_Course K q38_3 q5_0 q16_1 u38_3) ++ kb_Course K q57_4 q5_0 q16_1 u57_4) ++ kb_Course K q76_5 q5_0 q16_1 u76_5) ++ [(q96, .inl (K.2.2, 4, .inr (.inr (.inr (.inr (va_up (va_up (fun _ => none) 0 (some q128_6)) 1 (some q128_7)))))))]) ++ kb_Sheet K q128_6 u128_6) ++ kb_Sheet K q128_7 u128_7) ++ kb_Sheet K q128_8 u128_8)) H := hP
  have hD : va_D A ((h0, .inr (5, [.ref q5_0, .ref q16_1, .ref q27_2, .ref q38_3, .ref q57_4, .ref q76_5, .ref q96, .int 1, .int 0])) :: (((((((((kb_Wants K q5_0 u5_0 ++ kb_Country K q16_1 u16_1) ++ kb_Notes K q27_2 u27_2) ++ kb_Course K q38_3 q5_0 q16_1 u38_3) ++ kb_Course K q57_4 q5_0 q16_1 u57_4) ++ kb_Course K q76_5 q5_0 q16_1 u76_5) ++ [(q96, .inl (K.2.2, 4, .inr (.inr (.inr (.inr (va_up (va_up (fun _ => none) 0 (some q128_6)) 1 (some q128_7)))))))]) ++ kb_Sheet K q128_6 u128_6) ++ kb_Sheet K q128_7 u128_7) ++ kb_Sheet K q128_8 u128_8)) := hD
  refine va_astq hx hb hK hP hD hS 38 2 43 3 rfl rfl rfl rfl (i := 2) (by unfold vp_in; decide) dz_P_135 (fun H locs hP hD hS => ?_)
  have hP : va_P D vwCl ((h0, .inr (5, [.ref q5_0, .ref q16_1, .ref q27_2, .ref q38_3, .ref q57_4, .ref q76_5, .ref q96, .int 1, .int 0])) :: (((((((((kb_Wants K q5_0 u5_0 ++ kb_Country K q16_1 u16_1) ++ kb_Notes K q27_2 u27_2) ++ kb_Course K q38_3 q5_0 q16_1 u38_3) ++ kb_Course K q57_4 q5_0 q16_1 u57_4) ++ kb_Course K q76_5 q5_0 q16_1 u76_5) ++ [(q96, .inl (K.2.2, 4, .inr (.inr (.inr (.inr (va_up (va_up (va_up (fun _ => none) 0 (some q128_6)) 1 (some q128_7)) 2 (some q128_8)))))))]) ++ kb_Sheet K q128_6 u128_6) ++ kb_Sheet K q128_7 u128_7) ++ kb_Sheet K q128_8 u128_8)) H := hP
  have hD : va_D A ((h0, .inr (5, [.ref q5_0, .ref q16_1, .ref q27_2, .ref q38_3, .ref q57_4, .ref q76_5, .ref q96, .int 1, .int 0])) :: (((((((((kb_Wants K q5_0 u5_0 ++ kb_Country K q16_1 u16_1) ++ kb_Notes K q27_2 u27_2) ++ kb_Course K q38_3 q5_0 q16_1 u38_3) ++ kb_Course K q57_4 q5_0 q16_1 u57_4) ++ kb_Course K q76_5 q5_0 q16_1 u76_5) ++ [(q96, .inl (K.2.2, 4, .inr (.inr (.inr (.inr (va_up (va_up (va_up (fun _ => none) 0 (some q128_6)) 1 (some q128_7)) 2 (some q128_8)))))))]) ++ kb_Sheet K q128_6 u128_6) ++ kb_Sheet K q128_7 u128_7) ++ kb_Sheet K q128_8 u128_8)) := hD
  refine lv_iinc (v := 3) (lv' := [(1, .int 3), (0, .ref h0)]) hx hb dz_P_136 hl (k := 0) rfl (by decide) (by decide) rfl (fun ls hl => ?_)
  refine lv_goto (tgt := 114) hx hb dz_P_139 (by decide) ?_
  refine lv_iload_n hx hb dz_P_114 rfl (lv_at hl 0 rfl) ?_
  refine lv_aload_n hx hb dz_P_115 rfl (lv_at hl 1 rfl) ?_
  refine va_get (D := D) (ci := 5) (v := .ref q96) (C := RX5) (T := TX5) (N := 9) hx hb hts (cz_in hT (ci := 5) rfl) hown hK hP 0 rfl rfl 6 (by decide) (hts (.fieldLink RX5 47 "PromisesKept" "sheets" "[LPromisesKept$Sheet;") (hT _ cw_268 rfl)) (fun _ h9 => h9) rfl dz_P_116 ?_
  refine va_alen hx hb hK hP 38 2 rfl rfl (v := 4) rfl dz_P_119 ?_
  refine lv_icmp_ge (tgt := 142) hx hb dz_P_120 (by decide) (fun h => absurd h (by decide)) (fun _ => ?_)
  refine lv_aload_n hx hb dz_P_123 rfl (lv_at hl 1 rfl) ?_
  refine va_get (D := D) (ci := 5) (v := .ref q96) (C := RX5) (T := TX5) (N := 9) hx hb hts (cz_in hT (ci := 5) rfl) hown hK hP 0 rfl rfl 6 (by decide) (hts (.fieldLink RX5 47 "PromisesKept" "sheets" "[LPromisesKept$Sheet;") (hT _ cw_268 rfl)) (fun _ h9 => h9) rfl dz_P_124 ?_
  refine lv_iload_n hx hb dz_P_127 rfl (lv_at hl 0 rfl) ?_
  refine va_new (ci := 3) (fs := [.null, .int 0, .int 0, .int 0]) (C := RX3) (T := TX3) (N := 4) hx hb hts (cz_in hT (ci := 3) rfl) tyX3 tyX3_ok hown (hts (.classLink RX5 45 RX3) (hT _ cw_239 rfl)) (hts (.instantiable RX3 4) (hT _ cw_241 rfl)) (hts (.initialized RX3) (hT _ cw_71 rfl)) hK hP hD hS hA rfl (cz_df_Sheet) (Nat.le_of_ble_eq_true rfl) (Nat.le_of_ble_eq_true rfl) dz_P_128 (fun q128_9 H hP hD hS => ?_)
  refine W.widen (k := 45) (n := 555) (Nat.le_refl _) (Nat.le_refl _) ?_
  refine lv_dup hx hb dz_P_131 rfl ?_
  refine cz_call (As := []) (rest := [.ref q128_9, .int 3, .ref q96]) hx hb hml hown hts hT hK hN (cz_Sheet l D K q128_9) cz_cw_Sheet cz_ini_Sheet cz_ins_Sheet rfl rfl cz_ds_Sheet 1 cl_P_59 ⟨Nat.le_of_ble_eq_true rfl, Nat.le_of_ble_eq_true rfl⟩ ⟨Nat.le_of_ble_eq_true rfl, Nat.le_of_ble_eq_true rfl⟩ hP hD hS hA hl.1 (Nat.le_of_ble_eq_true rfl) dz_P_132 rfl (fun u128_9 H locs hP hD hS => ?_)
  refine W.widen (k := 46) (n := 603) (Nat.le_refl _) (Nat.le_refl _) ?_
  have hP : va_P D vwCl ((h0, .inr (5, [.ref q5_0, .ref q16_1, .ref q27_2, .ref q38_3, .ref q57_4, .ref q76_5, .ref q96, .int 1, .int 0])) :: ((((((((((kb_Wants K q5_0 u5_0 ++ kb_Country K q16_1 u16_1) ++ kb_Notes K q27_2 u27_2) ++ kb_Course K q38_3 q5_0 q16_1 u38_3) ++ kb_Course K q57_4 q5_0 q16_1 u57_4) ++ kb_Course K q76_5 q5_0 q16_1 u76_5) ++ [(q96, .inl (K.2.2, 4, .inr (.inr (.inr (.inr (va_up (va_up (va_up (fun _ => none) 0 (some q128_6)) 1 (some q128_7)) 2 (some q128_8)))))))]) ++ kb_Sheet K q128_6 u128_6) ++ kb_Sheet K q128_7 u128_7) ++ kb_Sheet K q128_8 u128_8) ++ kb_Sheet K q128_9 u128_9)) H := hP
  have hD : va_D A ((h0, .inr (5, [.ref q5_0, .ref q16_1, .ref q27_2, .ref q38_3, .ref q57_4, .ref q76_5, .ref q96, .int 1, .int 0])) :: ((((((((((kb_Wants K q5_0 u5_0 ++ kb_Country K q16_1 u16_1) ++ kb_Notes K q27_2 u27_2) ++ kb_Course K q38_3 q5_0 q16_1 u38_3) ++ kb_Course K q57_4 q5_0 q16_1 u57_4) ++ kb_Course K q76_5 q5_0 q16_1 u76_5) ++ [(q96, .inl (K.2.2, 4, .inr (.inr (.inr (.inr (va_up (va_up (va_up (fun _ => none) 0 (some q128_6)) 1 (some q128_7)) 2 (some q128_8)))))))]) ++ kb_Sheet K q128_6 u128_6) ++ kb_Sheet K q128_7 u128_7) ++ kb_Sheet K q128_8 u128_8) ++ kb_Sheet K q128_9 u128_9)) := hD
  refine va_astq hx hb hK hP hD hS 38 2 45 3 rfl rfl rfl rfl (i := 3) (by unfold vp_in; decide) dz_P_135 (fun H locs hP hD hS => ?_)
  have hP : va_P D vwCl ((h0, .inr (5, [.ref q5_0, .ref q16_1, .ref q27_2, .ref q38_3, .ref q57_4, .ref q76_5, .ref q96, .int 1, .int 0])) :: ((((((((((kb_Wants K q5_0 u5_0 ++ kb_Country K q16_1 u16_1) ++ kb_Notes K q27_2 u27_2) ++ kb_Course K q38_3 q5_0 q16_1 u38_3) ++ kb_Course K q57_4 q5_0 q16_1 u57_4) ++ kb_Course K q76_5 q5_0 q16_1 u76_5) ++ [(q96, .inl (K.2.2, 4, .inr (.inr (.inr (.inr (va_up (va_up (va_up (va_up (fun _ => none) 0 (some q128_6)) 1 (some q128_7)) 2 (some q128_8)) 3 (some q128_9)))))))]) ++ kb_Sheet K q128_6 u128_6) ++ kb_Sheet K q128_7 u128_7) ++ kb_Sheet K q128_8 u128_8) ++ kb_Sheet K q128_9 u128_9)) H := hP
  have hD : va_D A ((h0, .inr (5, [.ref q5_0, .ref q16_1, .ref q27_2, .ref q38_3, .ref q57_4, .ref q76_5, .ref q96, .int 1, .int 0])) :: ((((((((((kb_Wants K q5_0 u5_0 ++ kb_Country K q16_1 u16_1) ++ kb_Notes K q27_2 u27_2) ++ kb_Course K q38_3 q5_0 q16_1 u38_3) ++ kb_Course K q57_4 q5_0 q16_1 u57_4) ++ kb_Course K q76_5 q5_0 q16_1 u76_5) ++ [(q96, .inl (K.2.2, 4, .inr (.inr (.inr (.inr (va_up (va_up (va_up (va_up (fun _ => none) 0 (some q128_6)) 1 (some q128_7)) 2 (some q128_8)) 3 (some q128_9)))))))]) ++ kb_Sheet K q128_6 u128_6) ++ kb_Sheet K q128_7 u128_7) ++ kb_Sheet K q128_8 u128_8) ++ kb_Sheet K q128_9 u128_9)) := hD
  refine lv_iinc (v := 4) (lv' := [(1, .int 4), (0, .ref h0)]) hx hb dz_P_136 hl (k := 0) rfl (by decide) (by decide) rfl (fun ls hl => ?_)
  refine lv_goto (tgt := 114) hx hb dz_P_139 (by decide) ?_
  refine lv_iload_n hx hb dz_P_114 rfl (lv_at hl 0 rfl) ?_
  refine lv_aload_n hx hb dz_P_115 rfl (lv_at hl 1 rfl) ?_
  refine va_get (D := D) (ci := 5) (v := .ref q96) (C := RX5) (T := TX5) (N := 9) hx hb hts (cz_in hT (ci := 5) rfl) hown hK hP 0 rfl rfl 6 (by decide) (hts (.fieldLink RX5 47 "PromisesKept" "sheets" "[LPromisesKept$Sheet;") (hT _ cw_268 rfl)) (fun _ h9 => h9) rfl dz_P_116 ?_
  refine va_alen hx hb hK hP 38 2 rfl rfl (v := 4) rfl dz_P_119 ?_
  refine lv_icmp_ge (tgt := 142) hx hb dz_P_120 (by decide) (fun _ => ?_) (fun h => absurd (by decide) h)
  obtain ⟨uu, e1, e2, e3, e4, e5, e6, e7, e8, e9, e10, e11, e0⟩ : ∃ uu : Nat → Nat → Nat, uu 1 = (fun j => match j with | 0 => q5_0 | j + 1 => u5_0 (j + 1)) ∧ uu 2 = (fun j => match j with | 0 => q16_1 | j + 1 => u16_1.1 (j + 1)) ∧ uu 3 = (fun j => match j with | 0 => q27_2 | j + 1 => u27_2 (j + 1)) ∧ uu 4 = u16_1.2 ∧ uu 5 = (fun j => match j with | 0 => q38_3 | j + 1 => u38_3 (j + 1)) ∧ uu 6 = (fun j => match j with | 0 => q57_4 | j + 1 => u57_4 (j + 1)) ∧ uu 7 = (fun j => match j with | 0 => q76_5 | j + 1 => u76_5 (j + 1)) ∧ uu 8 = (fun j => match j with | 0 => q128_6 | j + 1 => u128_6 (j + 1)) ∧ uu 9 = (fun j => match j with | 0 => q128_7 | j + 1 => u128_7 (j + 1)) ∧ uu 10 = (fun j => match j with | 0 => q128_8 | j + 1 => u128_8 (j + 1)) ∧ uu 11 = (fun j => match j with | 0 => q128_9 | j + 1 => u128_9 (j + 1)) ∧ uu 0 7 = q96 := ⟨fun o => match o with | 0 => (fun _ => q96) | 1 => (fun j => match j with | 0 => q5_0 | j + 1 => u5_0 (j + 1)) | 2 => (fun j => match j with | 0 => q16_1 | j + 1 => u16_1.1 (j + 1)) | 3 => (fun j => match j with | 0 => q27_2 | j + 1 => u27_2 (j + 1)) | 4 => u16_1.2 | 5 => (fun j => match j with | 0 => q38_3 | j + 1 => u38_3 (j + 1)) | 6 => (fun j => match j with | 0 => q57_4 | j + 1 => u57_4 (j + 1)) | 7 => (fun j => match j with | 0 => q76_5 | j + 1 => u76_5 (j + 1)) | 8 => (fun j => match j with | 0 => q128_6 | j + 1 => u128_6 (j + 1)) | 9 => (fun j => match j with | 0 => q128_7 | j + 1 => u128_7 (j + 1)) | 10 => (fun j => match j with | 0 => q128_8 | j + 1 => u128_8 (j + 1)) | _ => (fun j => match j with | 0 => q128_9 | j + 1 => u128_9 (j + 1)), rfl, rfl, rfl, rfl, rfl, rfl, rfl, rfl, rfl, rfl, rfl, rfl⟩
  have hf : ∀ i, i < 4 → (va_up (va_up (va_up (va_up (fun _ => none) 0 (some q128_6)) 1 (some q128_7)) 2 (some q128_8)) 3 (some q128_9)) i = some (uu (8 + i) 0) := by
    intro i hi
    rcases (show i = 0 ∨ i = 1 ∨ i = 2 ∨ i = 3 by omega) with rfl | rfl | rfl | rfl
    · rw [show uu (8 + 0) = uu 8 from rfl, e8]; rfl
    · rw [show uu (8 + 1) = uu 9 from rfl, e9]; rfl
    · rw [show uu (8 + 2) = uu 10 from rfl, e10]; rfl
    · rw [show uu (8 + 3) = uu 11 from rfl, e11]; rfl
  have hP := cz_same (k := 38) (f' := fun i => some (uu (8 + i) 0)) hP rfl hf
  have hD := hD.set (p := 38) (e := .inl (K.2.2, 4, .inr (.inr (.inr (.inr (fun i => some (uu (8 + i) 0))))))) (show _ = some (q96, _) from rfl)
  have hP : va_P D vwCl ((h0, .inr (5, [.ref q5_0, .ref q16_1, .ref q27_2, .ref q38_3, .ref q57_4, .ref q76_5, .ref q96, .int 1, .int 0])) :: ((((((((((kb_Wants K q5_0 u5_0 ++ kb_Country K q16_1 u16_1) ++ kb_Notes K q27_2 u27_2) ++ kb_Course K q38_3 q5_0 q16_1 u38_3) ++ kb_Course K q57_4 q5_0 q16_1 u57_4) ++ kb_Course K q76_5 q5_0 q16_1 u76_5) ++ [(q96, .inl (K.2.2, 4, .inr (.inr (.inr (.inr (fun i => some (uu (8 + i) 0)))))))]) ++ kb_Sheet K q128_6 u128_6) ++ kb_Sheet K q128_7 u128_7) ++ kb_Sheet K q128_8 u128_8) ++ kb_Sheet K q128_9 u128_9)) H := hP
  have hD : va_D A ((h0, .inr (5, [.ref q5_0, .ref q16_1, .ref q27_2, .ref q38_3, .ref q57_4, .ref q76_5, .ref q96, .int 1, .int 0])) :: ((((((((((kb_Wants K q5_0 u5_0 ++ kb_Country K q16_1 u16_1) ++ kb_Notes K q27_2 u27_2) ++ kb_Course K q38_3 q5_0 q16_1 u38_3) ++ kb_Course K q57_4 q5_0 q16_1 u57_4) ++ kb_Course K q76_5 q5_0 q16_1 u76_5) ++ [(q96, .inl (K.2.2, 4, .inr (.inr (.inr (.inr (fun i => some (uu (8 + i) 0)))))))]) ++ kb_Sheet K q128_6 u128_6) ++ kb_Sheet K q128_7 u128_7) ++ kb_Sheet K q128_8 u128_8) ++ kb_Sheet K q128_9 u128_9)) := hD
  have eW : kb_P K h0 uu = ((h0, .inr (5, [.ref q5_0, .ref q16_1, .ref q27_2, .ref q38_3, .ref q57_4, .ref q76_5, .ref q96, .int 1, .int 0])) :: ((((((((((kb_Wants K q5_0 u5_0 ++ kb_Country K q16_1 u16_1) ++ kb_Notes K q27_2 u27_2) ++ kb_Course K q38_3 q5_0 q16_1 u38_3) ++ kb_Course K q57_4 q5_0 q16_1 u57_4) ++ kb_Course K q76_5 q5_0 q16_1 u76_5) ++ [(q96, .inl (K.2.2, 4, .inr (.inr (.inr (.inr (fun i => some (uu (8 + i) 0)))))))]) ++ kb_Sheet K q128_6 u128_6) ++ kb_Sheet K q128_7 u128_7) ++ kb_Sheet K q128_8 u128_8) ++ kb_Sheet K q128_9 u128_9)) := by
    unfold kb_P
    rw [e1, e2, e3, e4, e5, e6, e7, e8, e9, e10, e11, e0]
    rfl
  rw [← eW] at hP hD
  exact W.vret hx hb hr (fun t ht hW => ⟨⟨uu, rfl, trivial, by rw [ht]; exact hP, hD⟩, hS.F ht⟩) hS.2.2 dz_P_142
