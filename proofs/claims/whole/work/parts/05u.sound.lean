/-! ===== what holds of the cells, and what a call says ===== -/
def am_tyl (K : am_K3) : List (ClassId × FieldType) := [(K.1, .int), (K.2.1, .boolean), (K.2.2, .object "PromisesKept$Sheet")]
def am_RO (ad : Nat → Nat → Nat) (A : Nat → Prop) (g : SG) (U : State) (H : Heap) : Prop :=
  (va_X (ad 13 1) 3 (g 13 1) U H ∧ ad 13 1 < H.size ∧ ¬ A (ad 13 1)) ∧ (∃ Ls : Nat, va_X (ad 14 1) Ls (g 14 1) U H ∧ ad 14 1 < H.size ∧ ¬ A (ad 14 1) ∧ g 14 0 0 = Int32.ofNat Ls ∧ Ls < 2 ^ 31) ∧
  va_Z "PromisesKept" "DAYS_OF_DIGEST" "[I" (.ref (ad 13 1)) A U H ∧ ∀ w ∈ lw_tbl, am_isN w = true → va_Nw w U
theorem am_nw_warm {w : Cond} (hw : am_isN w = true) {s U : State} (hW : s.WarmedH U.vm) (h : va_Nw w s) : va_Nw w U := by
  cases w <;> first | (simp [am_isN] at hw; done) | exact va_Nw.warmF hW h | exact va_Nw.warmM hW h
theorem am_nw_tab {w : Cond} (hw : am_isN w = true) : w.onTables = true := by
  cases w <;> first | (simp [am_isN] at hw; done) | rfl
theorem am_Z_kept {C n d : String} {v : Value} {A : Nat → Prop} {U : State} {H H1 : Heap} (h : va_Z C n d v A U H) (hk : ∀ q : Nat, q < H.size → ¬ A q → H1[q]? = H[q]?) : va_Z C n d v A U H1 := by
  obtain ⟨cf, kf, fi, f, a, cell, h1, h2, h3, h4, h5, h6, h7, h8⟩ := h
  exact ⟨cf, kf, fi, f, a, cell, h1, h2, h3, h4, by rw [hk a (Array.getElem?_eq_some_iff.mp h5).1 h8]; exact h5, h6, h7, h8⟩
theorem am_RO.go {ad : Nat → Nat → Nat} {A : Nat → Prop} {g : SG} {s U : State} {H : Heap} {locs : List Loc} (h : am_RO ad A g s s.heap) (hS : va_S A s.heap H locs) (hU : U.heap = H) (hW : s.WarmedH U.vm) : am_RO ad A g U U.heap := by
  obtain ⟨⟨a1, a2, a3⟩, ⟨Ls, b1, b2, b3, b4⟩, hz, hn⟩ := h
  subst hU
  refine ⟨⟨(a1.kept (hS.2.1 _ a2 a3)).moved hW.alike, Nat.lt_of_lt_of_le a2 hS.1, a3⟩, ⟨Ls, (b1.kept (hS.2.1 _ b2 b3)).moved hW.alike, Nat.lt_of_lt_of_le b2 hS.1, b3, b4⟩, ?_, fun w hw h1 => am_nw_warm h1 hW (hn w hw h1)⟩
  exact am_Z_kept (va_Z.moved hW.alike hz) (fun q h1 h2 => hS.2.1 q h1 h2)
theorem am_RO.same {ad : Nat → Nat → Nat} {A : Nat → Prop} {g g' : SG} {U : State} {H : Heap} (h : am_RO ad A g U H) (h13 : g' 13 = g 13) (h14 : g' 14 = g 14) : am_RO ad A g' U H := by
  unfold am_RO at h ⊢
  rw [h13, h14]; exact h
def am_Pc (ad : Nat → Nat → Nat) (D : va_G) (K : am_K3) (A : Nat → Prop) (as : List AV) (g : SG) : Array Value → State → Prop := fun v U => v = (as.map (am_cv ad)).toArray ∧ va_P D vwCl (am_wl ad K g) U.heap ∧ va_K D vwCl (am_tyl K) U ∧ va_D A (am_wl ad K g) ∧ am_RO ad A g U U.heap
def am_Qc (ad : Nat → Nat → Nat) (D : va_G) (K : am_K3) (A : Nat → Prop) (r : Option AV) (g : SG) : Array Value → State → Outcome → State → Prop := fun _ st o t => o = .returned (r.map (am_cv ad)) ∧ va_P D vwCl (am_wl ad K g) t.heap ∧ va_F A st t
theorem am_Pc_blind (ad : Nat → Nat → Nat) (D : va_G) (K : am_K3) (A : Nat → Prop) (as : List AV) (g : SG) : FrameBlind (am_Pc ad D K A as g) := by
  intro a U f mk h
  obtain ⟨h1, h2, h3, h4, ⟨⟨a1, a2, a3⟩, ⟨Ls, b1, b2, b3, b4⟩, hz, hn⟩⟩ := h
  refine ⟨h1, h2, va_K.moved (u := U) (U := U.calling f mk a) (Vm.Alike.refl U.vm) h3, h4, ⟨va_X.moved (u := U) (U := U.calling f mk a) (Vm.Alike.refl U.vm) a1, a2, a3⟩, ⟨Ls, va_X.moved (u := U) (U := U.calling f mk a) (Vm.Alike.refl U.vm) b1, b2, b3, b4⟩, va_Z.moved (u := U) (U := U.calling f mk a) (Vm.Alike.refl U.vm) hz, fun w hw h1 => va_Nw.same (u := U) (U := U.calling f mk a) (am_nw_tab h1) rfl (hn w hw h1)⟩
def am_gw : List Cond := lw_tbl.filter goodWord
def am_ws (m : am_MI) : List Cond := am_cw m :: am_gw
def am_rm (d : Nat) : Room := { frames := d, cells := 0, slots := 0, locals := 40 * d }
theorem am_gw_in {w : Cond} (h : w ∈ lw_tbl) (hg : goodWord w = true) : w ∈ am_gw := List.mem_filter.mpr ⟨h, hg⟩
/-- the values of the addresses do not move -/
theorem am_D_of {ad : Nat → Nat → Nat} {K : am_K3} {A : Nat → Prop} {g g' : SG} (h : va_D A (am_wl ad K g)) : va_D A (am_wl ad K g') := by
  have key : ∀ (i : Nat) (p : Nat × va_E), (am_wl ad K g')[i]? = some p → ∃ p', (am_wl ad K g)[i]? = some p' ∧ p'.1 = p.1 := by
    intro i p hp
    unfold am_wl at hp ⊢
    rw [List.getElem?_map] at hp ⊢
    cases hz : am_ce[i]? with
    | none => rw [hz] at hp; cases hp
    | some z =>
      rw [hz] at hp
      cases hp
      exact ⟨_, rfl, rfl⟩
  refine ⟨fun i j p q hp hq e => ?_, fun k q hq => ?_⟩
  · obtain ⟨p', h1, h2⟩ := key i p hp
    obtain ⟨q', h3, h4⟩ := key j q hq
    exact h.1 i j p' q' h1 h3 (by rw [h2, h4]; exact e)
  · obtain ⟨q', h1, h2⟩ := key k q hq
    rw [← h2]; exact h.2 k q' h1
/-! locals -/
def am_lo (ad : Nat → Nat → Nat) (L : LO) : List (Nat × Value) := L.zipIdx.filterMap (fun q => q.1.map (fun v => (q.2, am_cv ad v)))
theorem am_lo_mem (ad : Nat → Nat → Nat) (L : LO) (q : Nat × Value) : q ∈ am_lo ad L ↔ ∃ v, L[q.1]? = some (some v) ∧ q.2 = am_cv ad v := by
  unfold am_lo
  rw [List.mem_filterMap]
  constructor
  · rintro ⟨⟨o, i⟩, h1, h2⟩
    rw [List.mem_zipIdx_iff_getElem?] at h1
    cases o with
    | none => simp at h2
    | some v =>
      simp at h2
      subst h2
      exact ⟨v, h1, rfl⟩
  · rintro ⟨v, h1, h2⟩
    exact ⟨(some v, q.1), List.mem_zipIdx_iff_getElem?.mpr h1, by simp [← h2]⟩
theorem am_lo_at {ad : Nat → Nat → Nat} {L : LO} {ls : Array Slot} {nL j : Nat} {v : AV} (h : lv_has ls nL (am_lo ad L)) (hj : L[j]? = some (some v)) : ls[j]? = some (.val (am_cv ad v)) := h.2.2 (j, am_cv ad v) ((am_lo_mem ad L _).mpr ⟨v, hj, rfl⟩)
theorem am_cat (ad : Nat → Nat → Nat) (v : AV) (h : am_so v ≠ 1) : (am_cv ad v).category = 1 := by
  rcases v with x | x | x | x
  · rfl
  · exact absurd rfl h
  · rfl
  · rfl
theorem am_nl_ok {L : LO} {j : Nat} (h : am_nl L j = true) {i : Nat} {v : AV} (hi : L[i]? = some (some v)) (ad : Nat → Nat → Nat) : ¬ (i + 1 = j ∧ (am_cv ad v).category = 2) := by
  rintro ⟨rfl, hc⟩
  have hv : am_so v = 1 := by
    rcases v with x | x | x | x
    · cases hc
    · rfl
    · cases hc
    · cases hc
  rcases v with x | x | x | x
  · cases hv
  · unfold am_nl at h
    dsimp only at h
    rw [hi] at h
    cases h
  · cases hv
  · cases hv
theorem am_lo_set {ad : Nat → Nat → Nat} {L : LO} {ls : Array Slot} {nL j : Nat} {v : AV} (hn : am_nl L j = true) (h : lv_has ls nL ((j, am_cv ad v) :: (am_lo ad L).filter (fun q => !(q.1 == j) && !(q.1 + 1 == j && q.2.category == 2)))) : lv_has ls nL (am_lo ad (L.set j (some v))) := by
  refine ⟨h.1, h.2.1, fun q hq => h.2.2 q ?_⟩
  obtain ⟨w, h1, h2⟩ := (am_lo_mem ad _ q).mp hq
  rw [List.getElem?_set] at h1
  by_cases e : j = q.1
  · rw [if_pos e] at h1
    split at h1
    · cases h1
      exact List.mem_cons.mpr (Or.inl (Prod.ext e.symm h2))
    · cases h1
  · rw [if_neg e] at h1
    refine List.mem_cons_of_mem _ (List.mem_filter.mpr ⟨(am_lo_mem ad L q).mpr ⟨w, h1, h2⟩, ?_⟩)
    have h3 := am_nl_ok hn h1 ad
    rw [← h2] at h3
    simp only [Bool.and_eq_true, Bool.not_eq_true', beq_eq_false_iff_ne, ne_eq, Bool.and_eq_false_iff]
    refine ⟨fun z => e z.symm, ?_⟩
    by_cases hz : q.1 + 1 = j
    · exact Or.inr (fun z => h3 ⟨hz, z⟩)
    · exact Or.inl hz
theorem am_lo_set2 {ad : Nat → Nat → Nat} {L : LO} {ls : Array Slot} {nL j : Nat} {v : AV} (hn : am_nl L j = true) (h : lv_has ls nL ((j, am_cv ad v) :: (am_lo ad L).filter (fun q => !(q.1 == j) && (!(q.1 == j + 1) && !(q.1 + 1 == j && q.2.category == 2))))) : lv_has ls nL (am_lo ad ((L.set j (some v)).set (j + 1) none)) := by
  refine ⟨h.1, h.2.1, fun q hq => h.2.2 q ?_⟩
  obtain ⟨w, h1, h2⟩ := (am_lo_mem ad _ q).mp hq
  rw [List.getElem?_set] at h1
  by_cases e1 : j + 1 = q.1
  · rw [if_pos e1] at h1
    split at h1 <;> cases h1
  rw [if_neg e1, List.getElem?_set] at h1
  by_cases e : j = q.1
  · rw [if_pos e] at h1
    split at h1
    · cases h1
      exact List.mem_cons.mpr (Or.inl (Prod.ext e.symm h2))
    · cases h1
  · rw [if_neg e] at h1
    refine List.mem_cons_of_mem _ (List.mem_filter.mpr ⟨(am_lo_mem ad L q).mpr ⟨w, h1, h2⟩, ?_⟩)
    have h3 := am_nl_ok hn h1 ad
    rw [← h2] at h3
    simp only [Bool.and_eq_true, Bool.not_eq_true', beq_eq_false_iff_ne, ne_eq, Bool.and_eq_false_iff]
    refine ⟨fun z => e z.symm, fun z => e1 z.symm, ?_⟩
    by_cases hz : q.1 + 1 = j
    · exact Or.inr (fun z => h3 ⟨hz, z⟩)
    · exact Or.inl hz
/-- the locals with which a method begins -/
theorem am_lo_entry (ad : Nat → Nat → Nat) : ∀ (as : List AV) (i : Nat), (lg_sl (as.map (am_cv ad))).length = (am_fl as).length ∧ ∀ (j : Nat) (v : AV), (am_fl as)[j]? = some (some v) → (i + j, am_cv ad v) ∈ lv_args i (as.map (am_cv ad))
  | [], i => ⟨rfl, fun j v h => by simp [am_fl] at h⟩
  | .inl x :: r, i => by
    obtain ⟨h1, h2⟩ := am_lo_entry ad r (i + 1)
    refine ⟨by simpa [lg_sl, am_fl, am_cv, Value.category] using h1, fun j v h => ?_⟩
    cases j with
    | zero => simp [am_fl] at h; subst h; exact List.mem_cons_self
    | succ j =>
      have := h2 j v (by simpa [am_fl] using h)
      rw [show i + (j + 1) = i + 1 + j by omega]
      exact List.mem_cons_of_mem _ (by simpa [am_cv, Value.category] using this)
  | .inr (.inl x) :: r, i => by
    obtain ⟨h1, h2⟩ := am_lo_entry ad r (i + 2)
    refine ⟨by simpa [lg_sl, am_fl, am_cv, Value.category] using h1, fun j v h => ?_⟩
    cases j with
    | zero => simp [am_fl] at h; subst h; exact List.mem_cons_self
    | succ j =>
      cases j with
      | zero => simp [am_fl] at h
      | succ j =>
        have := h2 j v (by simpa [am_fl] using h)
        rw [show i + (j + 1 + 1) = i + 2 + j by omega]
        exact List.mem_cons_of_mem _ (by simpa [am_cv, Value.category] using this)
  | .inr (.inr x) :: r, i => by
    obtain ⟨h1, h2⟩ := am_lo_entry ad r (i + 1)
    have hc : (am_cv ad (.inr (.inr x))).category = 1 := am_cat ad _ (by simp [am_so])
    refine ⟨by
      show (lg_sl (am_cv ad (.inr (.inr x)) :: r.map (am_cv ad))).length = _
      have e : (lg_sl (am_cv ad (.inr (.inr x)) :: r.map (am_cv ad))).length = (lg_sl (r.map (am_cv ad))).length + 1 := by
        simp [lg_sl, hc]
      rw [e, h1]; rfl, fun j v h => ?_⟩
    cases j with
    | zero => simp [am_fl] at h; subst h; exact List.mem_cons_self
    | succ j =>
      have := h2 j v (by simpa [am_fl] using h)
      rw [show i + (j + 1) = i + 1 + j by omega]
      refine List.mem_cons_of_mem _ ?_
      rw [if_neg (by rw [hc]; decide)]; exact this
theorem am_lo_en {ad : Nat → Nat → Nat} {as : List AV} {n : Nat} {ls : Array Slot} (h : lv_has ls n (lv_args 0 (as.map (am_cv ad)))) : lv_has ls n (am_lo ad (am_en n as)) := by
  refine ⟨h.1, h.2.1, fun q hq => h.2.2 q ?_⟩
  obtain ⟨v, h1, h2⟩ := (am_lo_mem ad _ q).mp hq
  unfold am_en at h1
  rw [List.getElem?_append] at h1
  split at h1
  · have := (am_lo_entry ad as 0).2 q.1 v h1
    rw [Nat.zero_add, ← h2] at this
    exact this
  · rw [List.getElem?_replicate] at h1
    split at h1 <;> cases h1
