set_option maxHeartbeats 4000000 in
theorem am_sound_step (l : Launch) (ad : Nat → Nat → Nat) (D : va_G) (K : am_K3) (A : Nat → Prop) (d : Nat) (IH : ∀ d', d = d' + 1 → ∀ y as g r g', am_cl d y as g = some (r, g') → ∀ mm, am_mts[y]? = some mm → Met l mm.1 (am_ws mm) (am_rm d') (am_Pc ad D K A as g) (am_Qc ad D K A r g') 0 0 A)
    (y : Nat) (as : List AV) (g : SG) (r : Option AV) (g' : SG) (h : am_cl (d + 1) y as g = some (r, g')) (mm : am_MI) (hy : am_mts[y]? = some mm) : Met l mm.1 (am_ws mm) (am_rm d) (am_Pc ad D K A as g) (am_Qc ad D K A r g') 0 0 A := by
  obtain ⟨d0, e0, hok, hev⟩ := am_cl_inv hy h
  cases e0
  obtain ⟨n, hn⟩ := (am_ev_iff _ _ _ _ _ _ _).mp hev
  obtain ⟨hcw, pp, hmk⟩ := am_mk_all mm (List.mem_of_getElem? hy)
  unfold am_mok at hmk
  simp only [Bool.and_eq_true, decide_eq_true_eq] at hmk
  obtain ⟨k1, k2, k3, k4, k5, k6, k7, k8⟩ := hmk
  have hmi : am_mi y = some mm := by
    have hl := Nat.lt_of_lt_of_le (List.getElem?_eq_some_iff.mp hy).1 am_mts_lt
    unfold am_mi
    rw [if_neg (by omega)]; exact hy
  have hfl : (am_fl as).length ≤ mm.2.2.1 := by
    unfold am_ok at hok
    simp only [Bool.and_eq_true, decide_eq_true_eq] at hok
    exact hok.1
  refine Met.ofW (cc := mm.2.1) (maxL := mm.2.2.1) (ret := mm.2.2.2.1) k7 rfl ?_
  intro p e s m args below meth c s₁ B hml hv
  obtain ⟨rfl, hP, hK, hD, hRO⟩ := hv
  have hx := B.exec
  have hb := B.bytes
  have hr := B.returns
  have hts := atoms_spec (ws := am_ws mm) B.pre
  have hown : s.vm.findClass mm.1.cls = some m.cls := findClass_of_methodNamed B.named
  have hlocks := B.notSynchronized
  have hl := lv_entry (as.map (am_cv ad)) (n := mm.2.2.1) (by rw [(am_lo_entry ad as 0).1]; exact hfl)
  rw [lg_entry_eq]
  generalize (lg_sl (as.map (am_cv ad)) ++ List.replicate (mm.2.2.1 - (lg_sl (as.map (am_cv ad))).length) Slot.unset).toArray = ls at hl ⊢
  refine am_inner (Ts := am_ws mm) hx hmi hb hml k1 hown hts (fun w h1 h2 => List.mem_cons_of_mem _ (am_gw_in h1 h2)) hK (Nat.le_refl d) (Nat.le_refl _) (Nat.le_refl 0) (Nat.le_refl 0) IH ?_ n 0 (am_en mm.2.2.1 as) [] g s.heap [] ls hn ?_ (am_lo_en hl) hP hD va_S.rf hRO
  · intro i pc ls H locs hd hrt hP1 hS1
    rcases hrt with ⟨rfl, x, rfl, hq⟩ | ⟨rfl, x, rfl, hq⟩ | ⟨rfl, x, nm, rfl, hq⟩ | ⟨rfl, rfl, hq⟩
    · rcases hq with hq | ⟨hq, hq2⟩
      · rw [hq] at hr
        exact W.iret (v := x) hx hb hr (fun t ht hW => ⟨rfl, by rw [ht]; exact hP1, hS1.F ht⟩) hS1.2.2 hd
      · rw [hq] at hr
        exact W.zret (v := x) hx hb hr (by rcases hq2 with rfl | rfl <;> rfl) (fun t ht hW => ⟨rfl, by rw [ht]; exact hP1, hS1.F ht⟩) hS1.2.2 hd
    · rw [hq] at hr
      exact W.lret (v := x) hx hb hr (fun t ht hW => ⟨rfl, by rw [ht]; exact hP1, hS1.F ht⟩) hS1.2.2 hd
    · rw [hq] at hr
      cases x with
      | none => exact W.aret (v := .null) hx hb hr (Or.inl ⟨nm, rfl⟩) (Or.inl rfl) (fun t ht hW => ⟨rfl, by rw [ht]; exact hP1, hS1.F ht⟩) hS1.2.2 hd
      | some q => exact W.aret (v := .ref (ad q.1 q.2)) hx hb hr (Or.inl ⟨nm, rfl⟩) (Or.inr ⟨_, rfl⟩) (fun t ht hW => ⟨rfl, by rw [ht]; exact hP1, hS1.F ht⟩) hS1.2.2 hd
    · rw [hq] at hr
      exact W.vret hx hb hr (fun t ht hW => ⟨rfl, by rw [ht]; exact hP1, hS1.F ht⟩) hS1.2.2 hd
  · unfold am_en
    rw [List.length_append, List.length_replicate]
    omega
set_option maxHeartbeats 4000000 in
theorem am_sound (l : Launch) (ad : Nat → Nat → Nat) (D : va_G) (K : am_K3) (A : Nat → Prop) : ∀ (d y : Nat) (as : List AV) (g : SG) (r : Option AV) (g' : SG), am_cl (d + 1) y as g = some (r, g') → ∀ mm, am_mts[y]? = some mm → Met l mm.1 (am_ws mm) (am_rm d) (am_Pc ad D K A as g) (am_Qc ad D K A r g') 0 0 A := by
  intro d
  induction d with
  | zero =>
    intro y as g r g' h mm hy
    exact am_sound_step l ad D K A 0 (fun d' e => by cases e) y as g r g' h mm hy
  | succ d ih =>
    intro y as g r g' h mm hy
    exact am_sound_step l ad D K A (d + 1) (fun d' e => by cases e; exact ih) y as g r g' h mm hy
