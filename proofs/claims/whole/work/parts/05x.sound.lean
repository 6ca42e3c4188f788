theorem am_mts_lt : am_mts.length ≤ 900 := by decide +kernel
theorem am_cl_inv {d y : Nat} {as : List AV} {g : SG} {r : Option AV} {g' : SG} {mm : am_MI} (hy : am_mts[y]? = some mm) (h : am_cl d y as g = some (r, g')) : ∃ d', d = d' + 1 ∧ am_ok mm as = true ∧ am_ev (am_cl d') y 0 (am_en mm.2.2.1 as) [] g = some (r, g') := by
  cases d with
  | zero => cases h
  | succ d =>
    have hl := Nat.lt_of_lt_of_le (List.getElem?_eq_some_iff.mp hy).1 am_mts_lt
    rw [am_cl, if_neg (by omega)] at h
    unfold am_mi at h
    rw [if_neg (by omega), hy] at h
    dsimp only at h
    split at h
    · next hk => exact ⟨d, rfl, hk, h⟩
    · cases h
section
variable {p : Program} {l : Launch} {e : Env} {R : Room} {s : State} {m : MethodId} {args : Array Value} {below : List Frame} {meth : Method} {c : Code} {cells slots : Nat} {Q : State → Prop}
variable {ad : Nat → Nat → Nat} {D : va_G} {K : am_K3} {A : Nat → Prop} {Ts : List Cond} {cc : ByteArray} {nL d : Nat} {on : String} {H : Heap} {locs : List Loc} {ls : Array Slot} {pc : Nat} {g g1 : SG} {r1 : Option AV}
theorem am_good (hT : ∀ w ∈ lw_tbl, goodWord w = true → w ∈ Ts) {mm : am_MI} (hm : am_cw mm ∈ lw_tbl) : GoodIn Ts (am_ws mm) := by
  intro w hw
  rcases List.mem_cons.mp hw with rfl | hw
  · exact ⟨hT _ hm rfl, Or.inl rfl⟩
  · obtain ⟨h1, h2⟩ := List.mem_filter.mp hw
    exact ⟨hT _ h1 h2, good_of_word h2⟩
theorem am_callV (hx : p.tables.exec = Jvm.exec) (hb : c.code = cc) (hml : c.maxLocals = nL) (hown : s.vm.findClass on = some m.cls) (hts : ∀ w ∈ Ts, w.before args s = true) (hT : ∀ w ∈ lw_tbl, goodWord w = true → w ∈ Ts)
    (hK : va_K D vwCl (am_tyl K) s) (hRf : d ≤ R.frames) (hRl : 40 * d ≤ R.locals) (hcl : cells ≤ R.cells) (hsl : slots ≤ R.slots)
    (IH : ∀ d', d = d' + 1 → ∀ y as g r g', am_cl d y as g = some (r, g') → ∀ mm, am_mts[y]? = some mm → Met l mm.1 (am_ws mm) (am_rm d') (am_Pc ad D K A as g) (am_Qc ad D K A r g') 0 0 A)
    {y ix b : Nat} {st : List AV} {mm : am_MI} (hy : am_mts[y]? = some mm) (hb1 : b = mm.2.2.2.2.2.2 + 1) (hbl : b ≤ st.length) (hrest : (st.drop b).length ≤ 4) (hcall : am_cl d y (st.take b).reverse g = some (r1, g1)) {nest : Nat}
    (hlk : (if nest = 0 then Jvm.Cond.methodLink on ix mm.1 else .methodLinkNest on ix mm.1 "PromisesKept") ∈ lw_tbl) (hdg : decode cc pc = .ok (.invokevirtual ix, 3)) (hlz : ls.size = nL)
    (hP : va_P D vwCl (am_wl ad K g) H) (hD : va_D A (am_wl ad K g)) (hS : va_S A s.heap H locs) (hRO : am_RO ad A g s s.heap)
    (kk : ∀ (H1 : Heap) (locs1 : List Loc), va_P D vwCl (am_wl ad K g1) H1 → va_S A s.heap H1 locs1 → W p l e R s m args below meth c H1 locs1 cells slots Q (F0 m (pc + 3) ls ((r1.toList ++ st.drop b).map (am_cv ad)))) : W p l e R s m args below meth c H locs cells slots Q (F0 m pc ls (st.map (am_cv ad))) := by
  obtain ⟨d', rfl, hok, -⟩ := am_cl_inv hy hcall
  obtain ⟨hcw, pp, hmk⟩ := am_mk_all mm (List.mem_of_getElem? hy)
  have hM := IH d' rfl y _ g r1 g1 hcall mm hy
  generalize has : (st.take b).reverse = as at hok hM hcall
  have hlen : as.length = b := by rw [← has]; simp; omega
  unfold am_mok at hmk
  simp only [Bool.and_eq_true, decide_eq_true_eq] at hmk
  obtain ⟨k1, k2, k3, k4, k5, k6, k7, k8⟩ := hmk
  unfold am_ok at hok
  simp only [Bool.and_eq_true, decide_eq_true_eq] at hok
  obtain ⟨hfl, hok⟩ := hok
  cases hst : mm.2.2.2.2.2.1 with
  | true =>
    rw [hst] at hok
    simp only [decide_eq_true_eq] at hok
    omega
  | false =>
    rw [hst] at hok k3
    simp only [Bool.and_eq_true, decide_eq_true_eq] at k3
    dsimp only at hok
    split at hok
    · next o r' =>
      simp only [Bool.and_eq_true, decide_eq_true_eq] at hok
      obtain ⟨hco, hrl⟩ := hok
      have hsplit : st = r'.reverse ++ .inr (.inr (some (o, 0))) :: st.drop b := by
        have h1 : st.take b = ((.inr (.inr (some (o, 0))) : AV) :: r').reverse := by rw [← has, List.reverse_reverse]
        have h2 := List.take_append_drop b st
        rw [h1] at h2
        simpa using h2.symm
      have hcls : vwCl[mm.2.2.2.2.1]? = some (mm.1.cls, (vwCl.getD mm.2.2.2.2.1 ("", fun _ => ("", "", "", false), 0)).2) := by
        have h1 : ∀ n : Nat, n < 7 → (vwCl[n]?).map (fun q => q.1) = am_on[n]? := by decide +kernel
        have h2 : mm.2.2.2.2.1 < 7 := by
          have h3 : ∀ q ∈ am_clo, q < 7 := by decide
          exact h3 _ (List.mem_of_getElem? hco)
        have h4 := h1 _ h2
        rw [k1] at h4
        cases hv : vwCl[mm.2.2.2.2.1]? with
        | none => rw [hv] at h4; cases h4
        | some q =>
          rw [hv] at h4
          have h5 : q.1 = mm.1.cls := Option.some.inj h4
          rw [List.getD_eq_getElem?_getD, hv, ← h5]
          rfl
      obtain ⟨i0, hi0⟩ := am_at (am_ce_o hco)
      have hat := am_wl_at ad K g hi0
      rw [am_et_o ad K g hco] at hat
      have hrecv := va_recv hK hP hcls hat
      have hG := am_good (Ts := Ts) hT hcw
      have hpre : PreV s H mm.1.cls (ad o 0) (am_Pc ad D K A (.inr (.inr (some (o, 0))) :: r') g) (r'.map (am_cv ad)) := ⟨am_Pc_blind ad D K A _ g, hrecv, fun U hU hW => ⟨rfl, by rw [hU]; exact hP, va_K.moved hW.alike hK, hD, hRO.go hS hU hW⟩⟩
      have hsg : ∀ sig, parseMethodDescriptor mm.1.desc = some sig → mm.2.2.2.2.2.2 = sig.parameters.length := by
        intro sig h
        rw [h] at k6
        exact (Option.some.inj k6).symm
      have hstk : (F0 m pc ls (st.map (am_cv ad))).stack = (r'.map (am_cv ad)).reverse ++ .ref (ad o 0) :: (st.drop b).map (am_cv ad) := by
        show st.map (am_cv ad) = _
        conv => lhs; rw [hsplit]
        rw [List.map_append, List.map_reverse]; rfl
      have hroom : 2 * (F0 m pc ls (st.map (am_cv ad))).monitorRoom + (((st.drop b).map (am_cv ad)).map fun v => v.category).sum ≤ 8 := by
        have := am_cat_sum ad (st.drop b) hrest
        show 2 * 0 + _ ≤ 8
        omega
      have kk2 : ∀ (H1 : Heap) (locs1 : List Loc), va_P D vwCl (am_wl ad K g1) H1 → va_S A s.heap H1 locs1 → W p l e R s m args below meth c H1 locs1 cells slots Q (F0 m (pc + 3) ls ((r1.map (am_cv ad)).toList ++ (st.drop b).map (am_cv ad))) := by
        intro H1 locs1 h1 h2
        have := kk H1 locs1 h1 h2
        rw [List.map_append] at this
        cases r1 <;> exact this
      have hfr : (am_rm d').frames + 1 ≤ R.frames := hRf
      have hlo : 8 + (mm.2.2.1 + 11) + (am_rm d').locals ≤ R.locals := by
        show 8 + (mm.2.2.1 + 11) + 40 * d' ≤ _
        omega
      by_cases hn : nest = 0
      · rw [if_pos hn] at hlk
        exact am_after (va_runV (As := r'.map (am_cv ad)) (rest := (st.drop b).map (am_cv ad)) ⟨hx, hb, hml, hown, hts⟩ hM ⟨⟨rfl, rfl, hfr, hlo, pay_in hts hG, List.mem_cons_self, hts _ (hT _ hcw rfl), hts _ (hT _ (List.mem_of_getElem? k2) rfl), ⟨k4, k5⟩, hsg, hts _ (hT _ hlk rfl)⟩, hts _ (hT _ (List.mem_of_getElem? k3.1) rfl), hts _ (hT _ (List.mem_of_getElem? k3.2) rfl)⟩ hpre rfl (by rw [List.length_map, hrl]) hlz hstk hroom hdg ⟨hcl, hsl⟩) hS kk2
      · rw [if_neg hn] at hlk
        exact am_after (va_runVN (As := r'.map (am_cv ad)) (rest := (st.drop b).map (am_cv ad)) ⟨hx, hb, hml, hown, hts⟩ hM ⟨⟨⟨rfl, rfl, hfr, hlo, pay_in hts hG, List.mem_cons_self⟩, hts _ (hT _ hcw rfl), hts _ (hT _ (List.mem_of_getElem? k2) rfl), ⟨k4, k5⟩, hsg, va_Nw.use rfl (hRO.2.2.2 _ hlk rfl)⟩, hts _ (hT _ (List.mem_of_getElem? k3.1) rfl), hts _ (hT _ (List.mem_of_getElem? k3.2) rfl)⟩ hpre rfl (by rw [List.length_map, hrl]) hlz hstk hroom hdg ⟨hcl, hsl⟩) hS kk2
    · cases hok
theorem am_callS (hx : p.tables.exec = Jvm.exec) (hb : c.code = cc) (hml : c.maxLocals = nL) (hown : s.vm.findClass on = some m.cls) (hts : ∀ w ∈ Ts, w.before args s = true) (hT : ∀ w ∈ lw_tbl, goodWord w = true → w ∈ Ts)
    (hK : va_K D vwCl (am_tyl K) s) (hRf : d ≤ R.frames) (hRl : 40 * d ≤ R.locals) (hcl : cells ≤ R.cells) (hsl : slots ≤ R.slots)
    (IH : ∀ d', d = d' + 1 → ∀ y as g r g', am_cl d y as g = some (r, g') → ∀ mm, am_mts[y]? = some mm → Met l mm.1 (am_ws mm) (am_rm d') (am_Pc ad D K A as g) (am_Qc ad D K A r g') 0 0 A)
    {y ix b : Nat} {st : List AV} {mm : am_MI} (hy : am_mts[y]? = some mm) (hb1 : b = mm.2.2.2.2.2.2) (hbl : b ≤ st.length) (hrest : (st.drop b).length ≤ 4) (hcall : am_cl d y (st.take b).reverse g = some (r1, g1)) {nest : Nat}
    (hlk : (if nest = 0 then Jvm.Cond.methodLink on ix mm.1 else .methodLinkNest on ix mm.1 "PromisesKept") ∈ lw_tbl) (hdg : decode cc pc = .ok (.invokestatic ix, 3)) (hlz : ls.size = nL)
    (hP : va_P D vwCl (am_wl ad K g) H) (hD : va_D A (am_wl ad K g)) (hS : va_S A s.heap H locs) (hRO : am_RO ad A g s s.heap)
    (kk : ∀ (H1 : Heap) (locs1 : List Loc), va_P D vwCl (am_wl ad K g1) H1 → va_S A s.heap H1 locs1 → W p l e R s m args below meth c H1 locs1 cells slots Q (F0 m (pc + 3) ls ((r1.toList ++ st.drop b).map (am_cv ad)))) : W p l e R s m args below meth c H locs cells slots Q (F0 m pc ls (st.map (am_cv ad))) := by
  obtain ⟨d', rfl, hok, -⟩ := am_cl_inv hy hcall
  obtain ⟨hcw, pp, hmk⟩ := am_mk_all mm (List.mem_of_getElem? hy)
  have hM := IH d' rfl y _ g r1 g1 hcall mm hy
  generalize has : (st.take b).reverse = as at hok hM hcall
  have hlen : as.length = b := by rw [← has]; simp; omega
  unfold am_mok at hmk
  simp only [Bool.and_eq_true, decide_eq_true_eq] at hmk
  obtain ⟨k1, k2, k3, k4, k5, k6, k7, k8⟩ := hmk
  unfold am_ok at hok
  simp only [Bool.and_eq_true, decide_eq_true_eq] at hok
  obtain ⟨hfl, hok⟩ := hok
  cases hst : mm.2.2.2.2.2.1 with
  | false =>
    rw [hst] at hok
    exfalso
    dsimp only at hok
    split at hok
    · next o r' =>
      simp only [Bool.and_eq_true, decide_eq_true_eq] at hok
      obtain ⟨hco, hrl⟩ := hok
      simp only [List.length_cons] at hlen
      omega
    · cases hok
  | true =>
    rw [hst] at k3
    simp only [decide_eq_true_eq] at k3
    have hsplit : st = as.reverse ++ st.drop b := by
      rw [← has, List.reverse_reverse, List.take_append_drop]
    have hG := am_good (Ts := Ts) hT hcw
    have hpre : PreS s H (am_Pc ad D K A as g) (as.map (am_cv ad)) := ⟨am_Pc_blind ad D K A _ g, fun U hU hW => ⟨rfl, by rw [hU]; exact hP, va_K.moved hW.alike hK, hD, hRO.go hS hU hW⟩⟩
    have hsg : ∀ sig, parseMethodDescriptor mm.1.desc = some sig → mm.2.2.2.2.2.2 = sig.parameters.length := by
      intro sig h
      rw [h] at k6
      exact (Option.some.inj k6).symm
    have hstk : (F0 m pc ls (st.map (am_cv ad))).stack = (as.map (am_cv ad)).reverse ++ (st.drop b).map (am_cv ad) := by
      show st.map (am_cv ad) = _
      conv => lhs; rw [hsplit]
      rw [List.map_append, List.map_reverse]
    have hroom : 2 * (F0 m pc ls (st.map (am_cv ad))).monitorRoom + (((st.drop b).map (am_cv ad)).map fun v => v.category).sum ≤ 8 := by
      have := am_cat_sum ad (st.drop b) hrest
      show 2 * 0 + _ ≤ 8
      omega
    have kk2 : ∀ (H1 : Heap) (locs1 : List Loc), va_P D vwCl (am_wl ad K g1) H1 → va_S A s.heap H1 locs1 → W p l e R s m args below meth c H1 locs1 cells slots Q (F0 m (pc + 3) ls ((r1.map (am_cv ad)).toList ++ (st.drop b).map (am_cv ad))) := by
      intro H1 locs1 h1 h2
      have := kk H1 locs1 h1 h2
      rw [List.map_append] at this
      cases r1 <;> exact this
    have hfr : (am_rm d').frames + 1 ≤ R.frames := hRf
    have hlo : 8 + (mm.2.2.1 + 11) + (am_rm d').locals ≤ R.locals := by
      show 8 + (mm.2.2.1 + 11) + 40 * d' ≤ _
      omega
    by_cases hn : nest = 0
    · rw [if_pos hn] at hlk
      exact am_after (va_runS (As := as.map (am_cv ad)) (rest := (st.drop b).map (am_cv ad)) ⟨hx, hb, hml, hown, hts⟩ hM ⟨⟨rfl, rfl, hfr, hlo, pay_in hts hG, List.mem_cons_self, hts _ (hT _ hcw rfl), hts _ (hT _ (List.mem_of_getElem? k2) rfl), ⟨k4, k5⟩, hsg, hts _ (hT _ hlk rfl)⟩, hts _ (hT _ (List.mem_of_getElem? k3) rfl)⟩ hpre rfl (by rw [List.length_map, hlen, hb1]) hlz hstk hroom hdg ⟨hcl, hsl⟩) hS kk2
    · rw [if_neg hn] at hlk
      exact am_after (va_runSN (As := as.map (am_cv ad)) (rest := (st.drop b).map (am_cv ad)) ⟨hx, hb, hml, hown, hts⟩ hM ⟨⟨⟨rfl, rfl, hfr, hlo, pay_in hts hG, List.mem_cons_self⟩, hts _ (hT _ hcw rfl), hts _ (hT _ (List.mem_of_getElem? k2) rfl), ⟨k4, k5⟩, hsg, va_Nw.use rfl (hRO.2.2.2 _ hlk rfl)⟩, hts _ (hT _ (List.mem_of_getElem? k3) rfl), trivial⟩ hpre rfl (by rw [List.length_map, hlen, hb1]) hlz hstk hroom hdg ⟨hcl, hsl⟩) hS kk2
end
