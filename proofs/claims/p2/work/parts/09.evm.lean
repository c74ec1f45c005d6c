/-! PART 9: cells and slots only grow -/
def e_le (a b : e_ST) : Prop := e_T a ≤ e_T b ∧ e_Z a ≤ e_Z b
theorem e_le.rf {a : e_ST} : e_le a a := ⟨Nat.le_refl _, Nat.le_refl _⟩
theorem e_le.tr {a b c : e_ST} (h : e_le a b) (k : e_le b c) : e_le a c := ⟨Nat.le_trans h.1 k.1, Nat.le_trans h.2 k.2⟩
theorem e_le_new {st : e_ST} {kd : Nat ⊕ Nat} {n : Nat} : e_le st (e_new st kd n) := ⟨Nat.le_succ _, Nat.le_add_right _ _⟩
section E_MO
variable {cl : List vw_C} {ats : List FieldType} {fty : Nat → Nat → FieldType} {fl : Nat → Nat → Option (Nat × Nat)} {kI : Nat → Nat → Option Int32} {kL : Nat → Nat → Option Int64} {nl : Nat → Nat → Option Nat} {kS : Nat → Nat → Option Nat} {o : Nat} {ini : Option String} {ml : Nat → Nat → Option (Nat × Nat)} {mt : Nat → Option e_M} {cn : Nat → Nat} {eci : Nat} {xo : Nat → Option Nat}
theorem e_ldr_le {st st' : e_ST} {ins : Instr} {pc : Nat} {lv : e_LV} {stk : List Value} {f : e_FR} (h : e_ldr ats st ins pc lv stk = some (f, st')) : st' = st := by
  unfold e_ldr at h
  split at h
  · split at h
    · split at h
      · split at h
        · cases h; rfl
        · cases h
      · cases h
    · cases h
  · cases h
theorem e_str_le {st st' : e_ST} {ins : Instr} {pc : Nat} {lv : e_LV} {stk : List Value} {f : e_FR} (h : e_str cl ats st ins pc lv stk = some (f, st')) : e_le st st' := by
  unfold e_str at h
  split at h
  · split at h
    · split at h
      · split at h
        · cases h; exact e_le.rf
        · cases h; exact e_le.rf
        · cases h; exact e_le.rf
        · cases h; exact e_le.rf
        · cases h; exact e_le.rf
        · split at h
          · split at h
            · split at h
              · cases h; exact e_le.rf
              · cases h
            · cases h
          · cases h
        · cases h
      · cases h
    · cases h
  · cases h
theorem e_h_le {st st' : e_ST} {ins : Instr} {pc : Nat} {lv : e_LV} {stk : List Value} {f : e_FR} (h : e_h cl ats fty fl kI kL nl kS o ini ins pc lv stk st = some (f, st')) : e_le st st' := by
  cases ins with
  | iaload => rw [e_ldr_le h]; exact e_le.rf
  | baload => rw [e_ldr_le h]; exact e_le.rf
  | laload => rw [e_ldr_le h]; exact e_le.rf
  | aaload => rw [e_ldr_le h]; exact e_le.rf
  | iastore => exact e_str_le h
  | bastore => exact e_str_le h
  | lastore => exact e_str_le h
  | aastore => exact e_str_le h
  | getfield idx =>
    unfold e_h at h
    dsimp only at h
    split at h
    · split at h
      · split at h
        · cases h; exact e_le.rf
        · cases h
      · cases h
    · cases h
  | putfield idx =>
    unfold e_h at h
    dsimp only at h
    split at h
    · split at h
      · split at h
        · split at h
          · obtain ⟨st1, hset, h2⟩ := Option.map_eq_some_iff.mp h
            cases h2
            have g := e_set_ok hset
            exact ⟨by rw [g.2.2.2.1]; exact Nat.le_refl _, by rw [g.2.2.2.2.1]; exact Nat.le_refl _⟩
          · cases h
        · cases h
      · cases h
    · cases h
  | arraylength =>
    unfold e_h at h
    dsimp only at h
    split at h
    · split at h
      · split at h
        · cases h; exact e_le.rf
        · cases h
      · cases h
    · cases h
  | newarray at_ =>
    unfold e_h at h
    dsimp only at h
    split at h
    · split at h
      · split at h
        · cases h; exact e_le_new
        · cases h
      · cases h
    · cases h
  | new idx =>
    unfold e_h at h
    dsimp only at h
    split at h
    · split at h
      · split at h
        · cases h; exact e_le_new
        · cases h
      · cases h
    · cases h
  | ldc idx =>
    unfold e_h at h
    dsimp only at h
    split at h
    · cases h; exact e_le.rf
    · split at h
      · cases h; exact e_le.rf
      · cases h
  | ldc_w idx =>
    unfold e_h at h
    dsimp only at h
    split at h
    · cases h; exact e_le.rf
    · cases h
  | ldc2_w idx =>
    unfold e_h at h
    dsimp only at h
    split at h
    · cases h; exact e_le.rf
    · cases h
  | _ =>
    have h0 : (none : Option (e_FR × e_ST)) = some (f, st') := h
    cases h0
def e_grow (call : Nat → List Value → e_ST → Option e_RS) : Prop := ∀ j As st r, call j As st = some r → e_le st r.2
theorem e_inv_le {call : Nat → List Value → e_ST → Option e_RS} (hc : e_grow call) {how j : Nat} {stk : List Value} {st : e_ST} {x : e_RS × List Value} (h : e_inv cl mt cn xo call how j stk st = some x) : e_le st x.1.2 := by
  unfold e_inv at h
  split at h
  · cases h
  · split at h
    · split at h
      · split at h
        · obtain ⟨r, h1, h2⟩ := Option.map_eq_some_iff.mp h
          cases h2
          exact hc _ _ _ _ h1
        · cases h
      · split at h
        · split at h
          · obtain ⟨r, h1, h2⟩ := Option.map_eq_some_iff.mp h
            cases h2
            exact hc _ _ _ _ h1
          · cases h
        · cases h
    · split at h
      · obtain ⟨r, h1, h2⟩ := Option.map_eq_some_iff.mp h
        cases h2
        exact hc _ _ _ _ h1
      · cases h
    · split at h
      · obtain ⟨r, h1, h2⟩ := Option.map_eq_some_iff.mp h
        cases h2
        exact hc _ _ _ _ h1
      · cases h
    · cases h
def e_xst (x : e_RS ⊕ (e_FR × e_ST) ⊕ e_ST) : e_ST := match x with
  | .inl r => r.2
  | .inr (.inl y) => y.2
  | .inr (.inr st) => st
theorem e_bk_st {pc : Nat} {lv : e_LV} {x : e_RS × List Value} : e_xst (e_bk pc lv x) = x.1.2 := by
  obtain ⟨⟨r, st⟩, rest⟩ := x
  cases r <;> rfl
theorem e_nx_le {call : Nat → List Value → e_ST → Option e_RS} (hc : e_grow call) {M : e_M} {ins : Instr} {len pc : Nat} {lv : e_LV} {stk : List Value} {st : e_ST} {x : e_RS ⊕ (e_FR × e_ST) ⊕ e_ST} (h : e_nx cl ats fty fl kI kL nl kS ml mt cn eci xo call M ins len pc lv stk st = some x) : e_le st (e_xst x) := by
  unfold e_nx at h
  split at h
  · split at h
    · obtain ⟨v, -, h2⟩ := Option.map_eq_some_iff.mp h
      cases h2; exact e_le.rf
    · cases h
  · split at h
    · obtain ⟨v, -, h2⟩ := Option.map_eq_some_iff.mp h
      cases h2; exact e_le.rf
    · cases h
  · split at h
    · obtain ⟨v, -, h2⟩ := Option.map_eq_some_iff.mp h
      cases h2; exact e_le.rf
    · cases h
  · split at h
    · obtain ⟨v, -, h2⟩ := Option.map_eq_some_iff.mp h
      cases h2; exact e_le.rf
    · cases h
  · split at h
    · split at h
      · cases h; exact e_le.rf
      · cases h
    · cases h
  · split at h
    · split at h
      · obtain ⟨y, h1, h2⟩ := Option.map_eq_some_iff.mp h
        rw [← h2, e_bk_st]
        exact e_inv_le hc h1
      · cases h
    · cases h
  · split at h
    · split at h
      · obtain ⟨y, h1, h2⟩ := Option.map_eq_some_iff.mp h
        rw [← h2, e_bk_st]
        exact e_inv_le hc h1
      · cases h
    · cases h
  · split at h
    · split at h
      · obtain ⟨y, h1, h2⟩ := Option.map_eq_some_iff.mp h
        rw [← h2, e_bk_st]
        exact e_inv_le hc h1
      · cases h
    · split at h
      · split at h
        · cases h; exact e_le.rf
        · cases h
      · cases h
    · cases h
  · split at h
    · split at h
      · cases h; exact e_le.rf
      · cases h
    · split at h
      · obtain ⟨y, h1, h2⟩ := Option.map_eq_some_iff.mp h
        rw [← h2]
        obtain ⟨f, st1⟩ := y
        exact e_h_le h1
      · cases h
def e_xgrow (ex : e_EX) : Prop := ∀ M ins len pc lv stk st f st', ex M ins len pc lv stk st = some (f, st') → e_le st st'
theorem e_ny_le {ex : e_EX} (hex : e_xgrow ex) {call : Nat → List Value → e_ST → Option e_RS} (hc : e_grow call) {M : e_M} {ins : Instr} {len pc : Nat} {lv : e_LV} {stk : List Value} {st : e_ST} {x : e_RS ⊕ (e_FR × e_ST) ⊕ e_ST} (h : e_ny cl ats fty fl kI kL nl kS ml mt cn eci xo ex call M ins len pc lv stk st = some x) : e_le st (e_xst x) := by
  unfold e_ny at h
  split at h
  · rename_i y hy
    cases h
    obtain ⟨f, st'⟩ := y
    exact hex _ _ _ _ _ _ _ _ _ hy
  · exact e_nx_le hc h
theorem e_body_le {ex : e_EX} (hex : e_xgrow ex) {call : Nat → List Value → e_ST → Option e_RS} (hc : e_grow call) {M : e_M} : ∀ {n pc : Nat} {lv : e_LV} {stk : List Value} {st : e_ST} {r : e_RS}, e_body cl ats fty fl kI kL nl kS ml mt cn eci xo ex call M n pc lv stk st = some r → e_le st r.2
  | 0, _, _, _, _, _, h => by cases h
  | n + 1, pc, lv, stk, st, r, h => by
    unfold e_body at h
    split at h
    · cases h
    · split at h
      · cases h
      · rename_i h1
        cases h
        exact e_ny_le hex hc h1
      · rename_i h1
        exact (e_ny_le hex hc h1).tr (e_body_le hex hc h)
      · rename_i h1
        have k := e_ny_le hex hc h1
        split at h
        · cases h; exact k
        · split at h
          · cases h
          · split at h
            · exact k.tr (e_body_le hex hc h)
            · cases h
theorem e_m_grow {ex : Nat → e_EX} (hex : ∀ d, e_xgrow (ex d)) {fu : Nat} : ∀ d, e_grow (e_m cl ats fty fl kI kL nl kS ml mt cn eci xo ex fu d)
  | 0 => fun j As st r h => by cases h
  | d + 1 => fun j As st r h => by
    unfold e_m at h
    split at h
    · cases h
    · split at h
      · exact e_body_le (hex d) (e_m_grow hex d) h
      · cases h
end E_MO
