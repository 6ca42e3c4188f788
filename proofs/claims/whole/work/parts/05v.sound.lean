/-! ===== a run of the small machine is a run of the great one ===== -/
theorem am_b2_inv {f : Int32 → Int32 → Int32} {pc : Nat} {L : LO} {st : List AV} {g : SG} {z : ST} (h : am_b2 f pc L st g = some z) : ∃ y x r, st = .inl y :: .inl x :: r ∧ z = .inl (pc + 1, L, .inl (f x y) :: r, g) := by
  unfold am_b2 at h
  split at h
  · exact ⟨_, _, _, rfl, (Option.some.inj h).symm⟩
  · cases h
theorem am_c2_inv {f : Int64 → Int64 → Int64} {pc : Nat} {L : LO} {st : List AV} {g : SG} {z : ST} (h : am_c2 f pc L st g = some z) : ∃ y x r, st = .inr (.inl y) :: .inr (.inl x) :: r ∧ z = .inl (pc + 1, L, .inr (.inl (f x y)) :: r, g) := by
  unfold am_c2 at h
  split at h
  · exact ⟨_, _, _, rfl, (Option.some.inj h).symm⟩
  · cases h
theorem am_b1_inv {f : Int32 → Int32} {pc : Nat} {L : LO} {st : List AV} {g : SG} {z : ST} (h : am_b1 f pc L st g = some z) : ∃ x r, st = .inl x :: r ∧ z = .inl (pc + 1, L, .inl (f x) :: r, g) := by
  unfold am_b1 at h
  split at h
  · exact ⟨_, _, rfl, (Option.some.inj h).symm⟩
  · cases h
theorem am_ld_inv {q j len pc : Nat} {L : LO} {st : List AV} {g : SG} {z : ST} (h : am_ld q j len pc L st g = some z) : ∃ v, L[j]? = some (some v) ∧ am_so v = q ∧ z = .inl (pc + len, L, v :: st, g) := by
  unfold am_ld at h
  split at h
  · next v hv =>
    split at h
    · next hq => exact ⟨v, hv, hq, (Option.some.inj h).symm⟩
    · cases h
  · cases h
theorem am_s1_inv {q j len pc : Nat} {L : LO} {st : List AV} {g : SG} {z : ST} (h : am_s1 q j len pc L st g = some z) : ∃ v r, st = v :: r ∧ am_so v = q ∧ j < L.length ∧ am_nl L j = true ∧ z = .inl (pc + len, L.set j (some v), r, g) := by
  unfold am_s1 at h
  split at h
  · split at h
    · next hq => exact ⟨_, _, rfl, hq.1, hq.2.1, hq.2.2, (Option.some.inj h).symm⟩
    · cases h
  · cases h
theorem am_s2_inv {j len pc : Nat} {L : LO} {st : List AV} {g : SG} {z : ST} (h : am_s2 j len pc L st g = some z) : ∃ x r, st = .inr (.inl x) :: r ∧ j + 1 < L.length ∧ am_nl L j = true ∧ z = .inl (pc + len, (L.set j (some (.inr (.inl x)))).set (j + 1) none, r, g) := by
  unfold am_s2 at h
  split at h
  · split at h
    · next hq => exact ⟨_, _, rfl, hq.1, hq.2, (Option.some.inj h).symm⟩
    · cases h
  · cases h
theorem am_so0 {v : AV} (h : am_so v = 0) : ∃ x, v = .inl x := by
  rcases v with x | x | x
  · exact ⟨x, rfl⟩
  · cases h
  · cases h
theorem am_so1 {v : AV} (h : am_so v = 1) : ∃ x, v = .inr (.inl x) := by
  rcases v with x | x | x
  · cases h
  · exact ⟨x, rfl⟩
  · cases h
theorem am_so2 {v : AV} (h : am_so v = 2) : v = .inr (.inr none) ∨ ∃ q, v = .inr (.inr (some q)) := by
  rcases v with x | x | x | x
  · cases h
  · cases h
  · exact Or.inl rfl
  · exact Or.inr ⟨x, rfl⟩
theorem am_in {x : Int32} {n : Nat} (h : 0 ≤ x.toInt ∧ x.toInt < (n : Int)) : vp_in x n := vp_in_iff.mpr h
theorem am_tg_inv {pc : Nat} {off : Int} {a b c : Nat} (h : am_tg pc off = some (a, b, c)) : (pc : Int) + off = (a : Int) := by
  unfold am_tg at h
  split at h
  · simp at h
    omega
  · cases h
/-- what comes behind a step of the small machine -/
def am_af (C : Nat → List AV → SG → Option RE) (k n pc : Nat) (L : LO) (g : SG) (z : ST) : Option RE := match z with
  | .inl (pc', L', st', g') => am_rn C k n pc' L' st' g'
  | .inr (.inl r) => some (r, g)
  | .inr (.inr (y, as, rest)) => match C y as g with
    | none => none
    | some (r, g') => am_rn C k n (pc + 3) L (r.toList ++ rest) g'
theorem am_rn_inv {C : Nat → List AV → SG → Option RE} {k n pc : Nat} {L : LO} {st : List AV} {g : SG} {o : RE} (h : am_rn C k (n + 1) pc L st g = some o) : ∃ i a b c z, am_ft k pc = some (i, a, b, c) ∧ am_st i a b c pc L st g = some z ∧ am_af C k n pc L g z = some o := by
  rw [am_rn] at h
  cases hf : am_ft k pc with
  | none => rw [hf] at h; cases h
  | some q =>
    obtain ⟨i, a, b, c⟩ := q
    rw [hf] at h
    dsimp only at h
    cases hs : am_st i a b c pc L st g with
    | none => rw [hs] at h; cases h
    | some z =>
      rw [hs] at h
      refine ⟨i, a, b, c, z, rfl, hs, ?_⟩
      rcases z with ⟨pc', L', st', g'⟩ | r | ⟨y, as, rest⟩
      · exact h
      · exact h
      · unfold am_af
        dsimp only at h ⊢
        cases hc : C y as g with
        | none => rw [hc] at h; cases h
        | some w => rw [hc] at h; exact h
theorem am_dc_inv {code : ByteArray} {own pc : Nat} {ret : Option FieldType} {i' : Instr} {a b c : Nat} (h : am_dc code own ret pc = some (i', a, b, c)) : ∃ i len, decode code pc = .ok (i, len) ∧ am_ab pc i = some i' ∧ am_rs own ret pc i = some (a, b, c) ∧ (len = am_ln i ∨ ∃ p q r s, i = .tableswitch p q r s) := by
  unfold am_dc at h
  split at h
  · next i len hd =>
    split at h
    · cases h
    · next i2 h2 =>
      split at h
      · cases h
      · next a2 b2 c2 h3 =>
        split at h
        · cases h
          exact ⟨_, _, hd, h2, h3, Or.inr ⟨_, _, _, _, rfl⟩⟩
        · split at h
          · next hl =>
            cases h
            exact ⟨_, _, hd, h2, h3, Or.inl hl⟩
          · cases h
  · cases h
/-- read cells alone do not move -/
theorem am_wr_ro (g : SG) (o j i : Nat) (v : Int32) (h : o < 13) : wr g o j i v 13 = g 13 ∧ wr g o j i v 14 = g 14 := by
  constructor
  · funext b c; unfold wr; rw [if_neg (fun z => by omega)]
  · funext b c; unfold wr; rw [if_neg (fun z => by omega)]
theorem am_st_ro {i : Instr} {a b c pc : Nat} {L : LO} {st : List AV} {g : SG} {pc' : Nat} {L' : LO} {st' : List AV} {g' : SG} (h : am_st i a b c pc L st g = some (.inl (pc', L', st', g'))) : g' 13 = g 13 ∧ g' 14 = g 14 := by
  have nx : ∀ {p : Nat} {M : LO} {t : List AV} {u : SG}, am_nx p M t u = some (.inl (pc', L', st', g')) → u = g' := by
    intro p M t u e
    unfold am_nx at e
    cases e; rfl
  have same : ∀ {p : Nat} {M : LO} {t : List AV}, am_nx p M t g = some (.inl (pc', L', st', g')) → g' 13 = g 13 ∧ g' 14 = g 14 := by
    intro p M t e
    rw [← nx e]; exact ⟨rfl, rfl⟩
  have put : ∀ {p : Nat} {M : LO} {t : List AV} {o j i : Nat} {v : Int32}, o < 13 → am_nx p M t (wr g o j i v) = some (.inl (pc', L', st', g')) → g' 13 = g 13 ∧ g' 14 = g 14 := by
    intro p M t o j i v ho e
    rw [← nx e]; exact am_wr_ro g o j i v ho
  cases i <;> first
    | exact same h
    | (obtain ⟨_, _, _, _, e⟩ := am_b2_inv h; cases e; exact ⟨rfl, rfl⟩)
    | (obtain ⟨_, _, _, _, e⟩ := am_c2_inv h; cases e; exact ⟨rfl, rfl⟩)
    | (obtain ⟨_, _, _, e⟩ := am_b1_inv h; cases e; exact ⟨rfl, rfl⟩)
    | (obtain ⟨_, _, _, e⟩ := am_ld_inv h; cases e; exact ⟨rfl, rfl⟩)
    | (obtain ⟨_, _, _, _, _, _, e⟩ := am_s1_inv h; cases e; exact ⟨rfl, rfl⟩)
    | (obtain ⟨_, _, _, _, _, e⟩ := am_s2_inv h; cases e; exact ⟨rfl, rfl⟩)
    | (exfalso; unfold am_st at h; dsimp only at h; cases h; done)
    | skip
  case putfield ix =>
    unfold am_st at h
    dsimp only at h
    split at h
    · split at h
      · next hc => exact put (am_co_lt hc.1) h
      · cases h
    · cases h
  case iastore =>
    unfold am_st at h
    dsimp only at h
    split at h
    · split at h
      · next k n ha =>
        split at h
        · next hc => exact put (am_al_o ha (by omega)) h
        · cases h
      · cases h
    · cases h
  case bastore =>
    unfold am_st at h
    dsimp only at h
    split at h
    · split at h
      · next k n ha =>
        split at h
        · next hc => exact put (am_al_o ha (by omega)) h
        · cases h
      · cases h
    · cases h
  all_goals
    unfold am_st at h
    dsimp only at h
    try unfold am_br at h
    repeat' first | exact same h | (cases h; done) | split at h
