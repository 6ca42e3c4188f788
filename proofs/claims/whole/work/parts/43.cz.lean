/-! ===== constructors: what they have in common ===== -/
theorem nd_of {l : List Nat} (h : l.Nodup) : va_nd l = true := by
  induction l with
  | nil => rfl
  | cons a l ih =>
    rw [List.nodup_cons] at h
    unfold va_nd
    rw [ih h.2, decide_eq_true h.1]; rfl
/-- behind a call that made a block out of its own cell -/
theorem cz_join {A0 : Nat → Prop} {D : va_G} {cl : List vw_C} {X w1 : va_W} {x : Nat × va_E} {H H1 : Heap} (hP : va_P D cl (X ++ [x]) H) (hD : va_D A0 (X ++ [x])) (hk : ∀ q : Nat, q < H.size → ¬ va_A [x] H.size q → H1[q]? = H[q]?) (hF : ∀ q, va_A [x] H.size q → A0 q) (hP1 : va_P D cl w1 H1) (hD1 : va_D (va_A [x] H.size) w1) : va_P D cl (X ++ w1) H1 ∧ va_D A0 (X ++ w1) := by
  refine va_join (wc := [x]) (wr := X) hP hD [X.length] (List.range X.length) (by simp) ?_ (nd_of List.nodup_range) ?_ hk hF hP1 hD1
  · refine List.ext_getElem (by simp) (fun i h1 h2 => ?_)
    have hi : i < X.length := by simpa using h2
    simp only [List.getElem_map, List.getElem_range]
    rw [List.getElem?_append_left hi, List.getElem?_eq_getElem hi]
  · intro i hi hm
    have h1 := List.mem_range.mp hi
    have h2 : i = X.length := by simpa using hm
    omega
def cz_N (U : State) : Prop := va_AO "PromisesKept$Sheet" U ∧ ∀ w ∈ lw_tbl, am_isN w = true → va_Nw w U
theorem cz_N.moved {s U : State} (hW : s.WarmedH U.vm) (h : cz_N s) : cz_N U := ⟨va_AO.moved hW.alike h.1, fun w hw h1 => am_nw_warm h1 hW (h.2 w hw h1)⟩
def cz_Pc (D : va_G) (K : am_K3) (av : List Value) (ws : va_W) (sz : Nat) : Array Value → State → Prop := va_Pc av (fun U => U.heap.size = sz ∧ va_P D vwCl ws U.heap ∧ va_K D vwCl (am_tyl K) U ∧ va_D (fun _ => True) ws ∧ cz_N U)
theorem cz_Pc_blind {D : va_G} {K : am_K3} {av : List Value} {ws : va_W} {sz : Nat} : FrameBlind (cz_Pc D K av ws sz) := by
  intro a U f mk h
  obtain ⟨h1, h2, h3, h4, h5, h6, h7⟩ := h
  exact ⟨h1, h2, h3, va_K.moved (u := U) (U := U.calling f mk a) (Vm.Alike.refl U.vm) h4, h5, va_AO.moved (u := U) (U := U.calling f mk a) (Vm.Alike.refl U.vm) h6, fun w hw h1 => va_Nw.same (u := U) (U := U.calling f mk a) (am_nw_tab h1) rfl (h7 w hw h1)⟩
abbrev cz_Qc (D : va_G) (A : Nat → Prop) {S : Type} (B : S → va_W) : Array Value → State → Outcome → State → Prop := va_Qv (fun _ : S => True) (fun u t => va_P D vwCl (B u) t.heap ∧ va_D A (B u)) A
def cz_C (l : Launch) (D : va_G) (K : am_K3) (mm : am_MI) (rm : Room) (av : List Value) (x : Nat × va_E) {S : Type} (B : S → va_W) : Prop := ∀ sz : Nat, Met l mm.1 (am_ws mm) rm (cz_Pc D K av [x] sz) (cz_Qc D (va_A [x] sz) B) rm.cells rm.slots (va_A [x] sz)
theorem cz_of {l : Launch} {D : va_G} {K : am_K3} {mm : am_MI} {rm : Room} {av : List Value} {x : Nat × va_E} {S : Type} {B : S → va_W} (hpl : plainName mm.1.cls = true) (hret : mm.2.2.2.1 = none) (hnm : mm.1.name = "<init>") (hlen : (lg_sl av).length ≤ mm.2.2.1)
    (body : ∀ (p : Program) (e : Env) (s : State) (m : MethodId) (below : List Frame) (meth : Method) (c : Code) (A : Nat → Prop) (ls : Array Slot), p.tables.exec = Jvm.exec → c.code = mm.2.1 → meth.sig.returnType = none → (∀ w ∈ am_ws mm, w.before av.toArray s = true) → s.vm.findClass mm.1.cls = some m.cls → meth.locks = false → meth.name = "<init>" → c.maxLocals = mm.2.2.1 → (∀ q : Nat, s.heap.size ≤ q → A q) → va_P D vwCl [x] s.heap → va_K D vwCl (am_tyl K) s → va_D A [x] → cz_N s → lv_has ls mm.2.2.1 (lv_args 0 av) →
      W p l e rm s m av.toArray below meth c s.heap [] 0 0 (MQ below (cz_Qc D A B) av.toArray s rm.cells rm.slots A) (F0 m 0 ls [])) : cz_C l D K mm rm av x B := by
  intro sz
  obtain ⟨y, cb, n, rt, o1, o2, o3⟩ := mm
  have hret : rt = none := hret
  subst hret
  refine Met.ofW (cc := cb) (maxL := n) (ret := none) hpl rfl ?_
  intro p e s m args below meth c s₁ BB1 hml hv
  obtain ⟨rfl, hsz, hP, hK, hD0, hN⟩ := hv
  have hts := atoms_spec (ws := am_ws (y, cb, n, none, o1, o2, o3)) BB1.pre
  have hown : s.vm.findClass y.cls = some m.cls := findClass_of_methodNamed BB1.named
  have hin : meth.name = "<init>" := ((name_of_methodNamed BB1.named BB1.method).1).trans hnm
  subst hsz
  have hl := lv_entry av (n := n) hlen
  rw [lg_entry_eq]
  exact body p e s m below meth c (va_A [x] s.heap.size) _ BB1.exec BB1.bytes BB1.returns hts hown BB1.notSynchronized hin hml (fun q h => Or.inr h) hP hK (hD0.self (sz := s.heap.size)) hN hl
theorem cz_ii : Cond.arrayClass .int ∈ lw_tbl := List.mem_of_getElem? (i := 131) (by decide +kernel)
theorem cz_iz : Cond.arrayClass .boolean ∈ lw_tbl := List.mem_of_getElem? (i := 870) (by decide +kernel)
section
variable {p : Program} {l : Launch} {e : Env} {R : Room} {s : State} {m : MethodId} {args : Array Value} {below : List Frame} {meth : Method} {c : Code} {H : Heap} {locs : List Loc} {cells slots : Nat} {Q : State → Prop}
variable {D : va_G} {K : am_K3} {A : Nat → Prop} {Ts : List Cond} {nL pc ix : Nat} {on : String} {cc : ByteArray} {ls : Array Slot} {rest : List Value} {H0 : Heap} {ws : va_W}
theorem cz_in (hT : ∀ w ∈ lw_tbl, goodWord w = true → w ∈ Ts) {ci : Nat} {C : String} {T : u_T} {N : Nat} (hc : vwCl[ci]? = some (C, T, N)) : ∀ w ∈ u_ws C T N, w ∈ Ts := by
  obtain ⟨r, ty, h1, h2, h3, h4, h5, h6, h7⟩ := am_vw ci (C, T, N) hc
  exact fun w hw => hT w (h5 w hw).1 (h5 w hw).2
theorem cz_newi (hx : p.tables.exec = Jvm.exec) (hb : c.code = cc) (hts : ∀ w ∈ Ts, w.before args s = true) (hT : ∀ w ∈ lw_tbl, goodWord w = true → w ∈ Ts) (hK : va_K D vwCl (am_tyl K) s) (hP : va_P D vwCl ws H) (hD : va_D A ws) (hS : va_S A H0 H locs) (hA : ∀ q, H0.size ≤ q → A q) {n : Int32} {N' : Nat} (hn : ¬ n < 0) (hN : n.toNatClampNeg = N') (hbytes : N' * 4 ≤ 536870912) (hcells : cells + 1 ≤ R.cells) (hslots : slots + N' ≤ R.slots) (hdg : decode cc pc = .ok (.newarray .int, 2))
    (kk : ∀ (q : Nat) (H1 : Heap), va_P D vwCl (ws ++ [(q, .inl (K.1, N', .inl (fun _ => 0)))]) H1 → va_D A (ws ++ [(q, .inl (K.1, N', .inl (fun _ => 0)))]) → va_S A H0 H1 locs → W p l e R s m args below meth c H1 locs (cells + 1) (slots + N') Q (F0 m (pc + 2) ls (.ref q :: rest))) : W p l e R s m args below meth c H locs cells slots Q (F0 m pc ls (.int n :: rest)) := by
  refine va_newa (atype := .int) (ty := .int) (a0 := (N', .inl (fun _ => 0))) hx hb (hts _ (hT _ cz_ii rfl)) rfl hK hP hD hS hA (fun cA => rfl) hn hN hbytes hcells hslots hdg (fun q cA H1 hK1 hP1 hD1 hS1 => ?_)
  have e1 : cA = K.1 := by
    have h1 := (hK1.2 0 (K.1, .int) rfl).2
    have h2 := (hK1.2 3 (cA, .int) rfl).2
    exact Option.some.inj (h2.symm.trans h1)
  subst e1
  exact kk q H1 hP1 hD1 hS1
theorem cz_newz (hx : p.tables.exec = Jvm.exec) (hb : c.code = cc) (hts : ∀ w ∈ Ts, w.before args s = true) (hT : ∀ w ∈ lw_tbl, goodWord w = true → w ∈ Ts) (hK : va_K D vwCl (am_tyl K) s) (hP : va_P D vwCl ws H) (hD : va_D A ws) (hS : va_S A H0 H locs) (hA : ∀ q, H0.size ≤ q → A q) {n : Int32} {N' : Nat} (hn : ¬ n < 0) (hN : n.toNatClampNeg = N') (hbytes : N' * 1 ≤ 536870912) (hcells : cells + 1 ≤ R.cells) (hslots : slots + N' ≤ R.slots) (hdg : decode cc pc = .ok (.newarray .boolean, 2))
    (kk : ∀ (q : Nat) (H1 : Heap), va_P D vwCl (ws ++ [(q, .inl (K.2.1, N', .inl (fun _ => 0)))]) H1 → va_D A (ws ++ [(q, .inl (K.2.1, N', .inl (fun _ => 0)))]) → va_S A H0 H1 locs → W p l e R s m args below meth c H1 locs (cells + 1) (slots + N') Q (F0 m (pc + 2) ls (.ref q :: rest))) : W p l e R s m args below meth c H locs cells slots Q (F0 m pc ls (.int n :: rest)) := by
  refine va_newa (atype := .boolean) (ty := .boolean) (a0 := (N', .inl (fun _ => 0))) hx hb (hts _ (hT _ cz_iz rfl)) rfl hK hP hD hS hA (fun cA => rfl) hn hN hbytes hcells hslots hdg (fun q cA H1 hK1 hP1 hD1 hS1 => ?_)
  have e1 : cA = K.2.1 := by
    have h1 := (hK1.2 1 (K.2.1, .boolean) rfl).2
    have h2 := (hK1.2 3 (cA, .boolean) rfl).2
    exact Option.some.inj (h2.symm.trans h1)
  subst e1
  exact kk q H1 hP1 hD1 hS1
theorem cz_newq (hx : p.tables.exec = Jvm.exec) (hb : c.code = cc) (hown : s.vm.findClass on = some m.cls) (hcl : (Cond.classLink on ix "PromisesKept$Sheet").before args s = true) (hN0 : cz_N s) (hK : va_K D vwCl (am_tyl K) s) (hP : va_P D vwCl ws H) (hD : va_D A ws) (hS : va_S A H0 H locs) (hA : ∀ q, H0.size ≤ q → A q) {n : Int32} {N' : Nat} (hn : ¬ n < 0) (hN : n.toNatClampNeg = N') (hbytes : N' * 4 ≤ 536870912) (hcells : cells + 1 ≤ R.cells) (hslots : slots + N' ≤ R.slots) (hdg : decode cc pc = .ok (.anewarray ix, 3))
    (kk : ∀ (q : Nat) (H1 : Heap), va_P D vwCl (ws ++ [(q, .inl (K.2.2, N', .inr (.inr (.inr (.inr (fun _ => none))))))]) H1 → va_D A (ws ++ [(q, .inl (K.2.2, N', .inr (.inr (.inr (.inr (fun _ => none))))))]) → va_S A H0 H1 locs → W p l e R s m args below meth c H1 locs (cells + 1) (slots + N') Q (F0 m (pc + 3) ls (.ref q :: rest))) : W p l e R s m args below meth c H locs cells slots Q (F0 m pc ls (.int n :: rest)) := by
  refine va_newq (C := "PromisesKept$Sheet") hx hb hown hcl hN0.1 hK hP hD hS hA hn hN hbytes hcells hslots hdg (fun q cA H1 hK1 hP1 hD1 hS1 => ?_)
  have e1 : cA = K.2.2 := by
    obtain ⟨k1, k2, -, -, -, h1⟩ := (hK1.2 2 (K.2.2, .object "PromisesKept$Sheet") rfl).2
    obtain ⟨k3, k4, -, -, -, h2⟩ := (hK1.2 3 (cA, .object "PromisesKept$Sheet") rfl).2
    exact Option.some.inj (h2.symm.trans h1)
  subst e1
  exact kk q H1 hP1 hD1 hS1
theorem cz_call (hx : p.tables.exec = Jvm.exec) (hb : c.code = cc) (hml : c.maxLocals = nL) (hown : s.vm.findClass on = some m.cls) (hts : ∀ w ∈ Ts, w.before args s = true) (hT : ∀ w ∈ lw_tbl, goodWord w = true → w ∈ Ts) (hK : va_K D vwCl (am_tyl K) s) (hN : cz_N s)
    {mm : am_MI} {rm : Room} {S : Type} {B : S → va_W} {q : Nat} {e0 : va_E} {As rest : List Value} (hC : cz_C l D K mm rm (.ref q :: As) (q, e0) B) (hcw : am_cw mm ∈ lw_tbl) (hini : Cond.initialized mm.1.cls ∈ lw_tbl) (hins : Cond.instanceMethod mm.1 ∈ lw_tbl) (hret : mm.2.2.2.1 = none) (hnm : mm.1.name = "<init>") (hd : mm.1.cls ≠ "java/lang/invoke/MethodHandle" ∧ mm.1.cls ≠ "java/lang/invoke/VarHandle" ∧ (parseMethodDescriptor mm.1.desc).map (fun d => d.parameters.length) = some As.length)
    (nest : Nat) (hlk : (if nest = 0 then Jvm.Cond.methodLink on ix mm.1 else .methodLinkNest on ix mm.1 "PromisesKept") ∈ lw_tbl) (hR : rm.frames + 1 ≤ R.frames ∧ 8 + (mm.2.2.1 + 11) + rm.locals ≤ R.locals) (hf : cells + rm.cells ≤ R.cells ∧ slots + rm.slots ≤ R.slots)
    {X : va_W} (hP : va_P D vwCl (X ++ [(q, e0)]) H) (hD : va_D A (X ++ [(q, e0)])) (hS : va_S A s.heap H locs) (hA : ∀ q : Nat, s.heap.size ≤ q → A q) (hlz : ls.size = nL) (hrest : (rest.map fun v => v.category).sum ≤ 8) (hdg : decode cc pc = .ok (.invokespecial ix, 3))
    {st : List Value} (hst : st = As.reverse ++ .ref q :: rest)
    (kk : ∀ (u : S) (H1 : Heap) (locs1 : List Loc), va_P D vwCl (X ++ B u) H1 → va_D A (X ++ B u) → va_S A s.heap H1 locs1 → W p l e R s m args below meth c H1 locs1 (cells + rm.cells) (slots + rm.slots) Q (F0 m (pc + 3) ls rest)) : W p l e R s m args below meth c H locs cells slots Q (F0 m pc ls st) := by
  subst hst
  obtain ⟨y, cb, n, rt, o1, o2, o3⟩ := mm
  have hret : rt = none := hret
  subst hret
  have hPc : va_P D vwCl [(q, e0)] H := hP.sub [X.length] (by simp)
  have hDc : va_D A [(q, e0)] := hD.sub [X.length] (by simp [va_nd]) (by simp)
  have hFc := va_free (wc := [(q, e0)]) hD hS hA [X.length] (by simp)
  have hM := hC H.size
  have hpre : PreS s H (cz_Pc D K (.ref q :: As) [(q, e0)] H.size) (.ref q :: As) := ⟨cz_Pc_blind, fun U hU hW => ⟨rfl, by rw [hU], by rw [hU]; exact hPc, va_K.moved hW.alike hK, hDc.weaken (fun _ _ _ _ => trivial), hN.moved hW⟩⟩
  have hG := am_good (Ts := Ts) hT hcw
  have hsg : ∀ sig, parseMethodDescriptor y.desc = some sig → As.length = sig.parameters.length := by
    intro sig h
    have h2 := hd.2.2
    rw [show parseMethodDescriptor y.desc = some sig from h] at h2
    exact (Option.some.inj h2).symm
  have run : va_Run p l e R s m args below meth c H locs cells slots rm.cells rm.slots (F0 m pc ls (As.reverse ++ .ref q :: rest)) rest (cz_Qc D (va_A [(q, e0)] H.size) B (Value.ref q :: As).toArray) (va_A [(q, e0)] H.size) := by
    by_cases hn : nest = 0
    · rw [if_pos hn] at hlk
      exact va_runI (As := As) (rest := rest) ⟨hx, hb, hml, hown, hts⟩ hM ⟨⟨rfl, rfl, hR.1, hR.2, pay_in hts hG, List.mem_cons_self, hts _ (hT _ hcw rfl), hts _ (hT _ hini rfl), ⟨hd.1, hd.2.1⟩, hsg, hts _ (hT _ hlk rfl)⟩, hnm, hts _ (hT _ hins rfl)⟩ hpre rfl rfl hlz rfl (lv_room hrest) hdg hf
    · rw [if_neg hn] at hlk
      exact va_runIN (As := As) (rest := rest) ⟨hx, hb, hml, hown, hts⟩ hM ⟨⟨⟨rfl, rfl, hR.1, hR.2, pay_in hts hG, List.mem_cons_self⟩, hts _ (hT _ hcw rfl), hts _ (hT _ hini rfl), ⟨hd.1, hd.2.1⟩, hsg, va_Nw.use rfl (hN.2 _ hlk rfl)⟩, hnm, hts _ (hT _ hins rfl)⟩ hpre rfl rfl hlz rfl (lv_room hrest) hdg hf
  refine va_callv run hS (fun q' _ h => hFc q' h) hFc (fun u t H1 locs1 ht hvm _ hB hz1 hk1 hS1 => ?_)
  obtain ⟨hP1, hD1⟩ := hB
  rw [ht] at hP1
  obtain ⟨hP2, hD2⟩ := cz_join hP hD hk1 hFc hP1 hD1
  exact kk u H1 locs1 hP2 hD2 hS1
theorem cz_same {cl : List vw_C} {k a n : Nat} {cA : ClassId} {f f' : Nat → Option Nat} (hP : va_P D cl ws H) (hk : ws[k]? = some (a, .inl (cA, n, .inr (.inr (.inr (.inr f)))))) (hf : ∀ i, i < n → f i = f' i) : va_P D cl (ws.set k (a, .inl (cA, n, .inr (.inr (.inr (.inr f')))))) H := by
  intro j y hy
  rw [List.getElem?_set] at hy
  split at hy
  · next h =>
    rw [if_pos (List.getElem?_eq_some_iff.mp hk).1] at hy
    cases hy
    have h1 : H[a]? = some (vp_cell cA (n, .inr (.inr (.inr (.inr f))))) := hP k _ hk
    show H[a]? = some (vp_cell cA (n, .inr (.inr (.inr (.inr f')))))
    rw [h1, vp_cell_q, vp_cell_q]
    unfold arrV
    congr 2
    apply congrArg
    funext i
    show va_rf (f i.1) = va_rf (f' i.1)
    rw [hf i.1 i.2]
  · exact hP j y hy
end
