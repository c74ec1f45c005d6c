/-! PART 25: more fuel does no harm; what a run of the evaluator is -/
noncomputable section
def y_le (c c' : Nat → List Value → e_ST → Option e_RS) : Prop := ∀ j As st r, c j As st = some r → c' j As st = some r
section Y_MO
variable {cl : List vw_C} {ats : List FieldType} {fty : Nat → Nat → FieldType} {fl : Nat → Nat → Option (Nat × Nat)} {kI : Nat → Nat → Option Int32} {kL : Nat → Nat → Option Int64} {nl : Nat → Nat → Option Nat} {kS : Nat → Nat → Option Nat} {ml : Nat → Nat → Option (Nat × Nat)} {mt : Nat → Option e_M} {cn : Nat → Nat} {eci : Nat} {xo : Nat → Option Nat}
theorem y_mapm {α β : Type} {f : α → β} {a b : Option α} (h : ∀ x, a = some x → b = some x) {y : β} (hy : a.map f = some y) : b.map f = some y := by
  obtain ⟨x, h1, h2⟩ := Option.map_eq_some_iff.mp hy
  rw [h x h1]
  exact congrArg some h2
theorem y_inv_le {c c' : Nat → List Value → e_ST → Option e_RS} (hc : y_le c c') {how j : Nat} {stk : List Value} {st : e_ST} {x : e_RS × List Value} (h : e_inv cl mt cn xo c how j stk st = some x) : e_inv cl mt cn xo c' how j stk st = some x := by
  unfold e_inv at h ⊢
  cases hm : mt j with
  | none => rw [hm] at h; cases h
  | some M =>
    rw [hm] at h
    dsimp only at h ⊢
    split at h
    · split at h
      · split at h
        · rename_i hq
          rw [if_pos hq]
          exact y_mapm (fun z hz => hc _ _ _ _ hz) h
        · cases h
      · split at h
        · split at h
          · rename_i hq
            rw [if_pos hq]
            exact y_mapm (fun z hz => hc _ _ _ _ hz) h
          · cases h
        · cases h
    · split at h
      · rename_i hq
        rw [if_pos hq]
        exact y_mapm (fun z hz => hc _ _ _ _ hz) h
      · cases h
    · split at h
      · rename_i hq
        rw [if_pos hq]
        exact y_mapm (fun z hz => hc _ _ _ _ hz) h
      · cases h
    · cases h
theorem y_nx_le {c c' : Nat → List Value → e_ST → Option e_RS} (hc : y_le c c') {M : e_M} {ins : Instr} {len pc : Nat} {lv : e_LV} {stk : List Value} {st : e_ST} {x : e_RS ⊕ (e_FR × e_ST) ⊕ e_ST} (h : e_nx cl ats fty fl kI kL nl kS ml mt cn eci xo c M ins len pc lv stk st = some x) : e_nx cl ats fty fl kI kL nl kS ml mt cn eci xo c' M ins len pc lv stk st = some x := by
  unfold e_nx at h ⊢
  split at h
  · exact h
  · exact h
  · exact h
  · exact h
  · exact h
  · split at h
    · split at h
      · rename_i hl
        rw [if_pos hl]
        exact y_mapm (fun z hz => y_inv_le hc hz) h
      · cases h
    · cases h
  · split at h
    · split at h
      · rename_i hl
        rw [if_pos hl]
        exact y_mapm (fun z hz => y_inv_le hc hz) h
      · cases h
    · cases h
  · split at h
    · split at h
      · rename_i hl
        rw [if_pos hl]
        exact y_mapm (fun z hz => y_inv_le hc hz) h
      · cases h
    · exact h
    · cases h
  · exact h
theorem y_ny_le {c c' : Nat → List Value → e_ST → Option e_RS} (hc : y_le c c') {ex : e_EX} {M : e_M} {ins : Instr} {len pc : Nat} {lv : e_LV} {stk : List Value} {st : e_ST} {x : e_RS ⊕ (e_FR × e_ST) ⊕ e_ST} (h : e_ny cl ats fty fl kI kL nl kS ml mt cn eci xo ex c M ins len pc lv stk st = some x) : e_ny cl ats fty fl kI kL nl kS ml mt cn eci xo ex c' M ins len pc lv stk st = some x := by
  unfold e_ny at h ⊢
  split at h
  · exact h
  · exact y_nx_le hc h
theorem y_body_le {c c' : Nat → List Value → e_ST → Option e_RS} (hc : y_le c c') {ex : e_EX} {M : e_M} : ∀ {n n' pc : Nat} {lv : e_LV} {stk : List Value} {st : e_ST} {r : e_RS}, n ≤ n' → e_body cl ats fty fl kI kL nl kS ml mt cn eci xo ex c M n pc lv stk st = some r → e_body cl ats fty fl kI kL nl kS ml mt cn eci xo ex c' M n' pc lv stk st = some r
  | 0, _, _, _, _, _, _, _, h => by cases h
  | n + 1, 0, _, _, _, _, _, hn, _ => absurd hn (Nat.not_succ_le_zero n)
  | n + 1, n' + 1, pc, lv, stk, st, r, hn, h => by
    have hn' := Nat.le_of_succ_le_succ hn
    unfold e_body at h ⊢
    split at h
    · cases h
    · split at h
      · cases h
      · rename_i ins len hd z hy
        rw [y_ny_le hc hy]
        exact h
      · rename_i ins len hd f st' hy
        rw [y_ny_le hc hy]
        exact y_body_le hc hn' h
      · rename_i ins len hd st' hy
        rw [y_ny_le hc hy]
        dsimp only
        split at h
        · exact h
        · split at h
          · cases h
          · split at h
            · rename_i hk
              rw [if_pos hk]
              exact y_body_le hc hn' h
            · cases h
theorem y_m_le {ex : Nat → e_EX} {fu fu' : Nat} (hf : fu ≤ fu') : ∀ d, y_le (e_m cl ats fty fl kI kL nl kS ml mt cn eci xo ex fu d) (e_m cl ats fty fl kI kL nl kS ml mt cn eci xo ex fu' d)
  | 0, _, _, _, _, h => by cases h
  | d + 1, j, As, st, r, h => by
    unfold e_m at h ⊢
    split at h
    · cases h
    · split at h
      · rename_i hl
        rw [if_pos hl]
        exact y_body_le (y_m_le hf d) hf h
      · cases h
end Y_MO
/-- the tables, all in one: cl ats fty fl kI kL nl kS ml mt cn eci xo ex -/
abbrev y_TB : Type := List vw_C × List FieldType × (Nat → Nat → FieldType) × (Nat → Nat → Option (Nat × Nat)) × (Nat → Nat → Option Int32) × (Nat → Nat → Option Int64) × (Nat → Nat → Option Nat) × (Nat → Nat → Option Nat) × (Nat → Nat → Option (Nat × Nat)) × (Nat → Option e_M) × (Nat → Nat) × Nat × (Nat → Option Nat) × (Nat → e_EX)
def t_cl (T : y_TB) : List vw_C := T.1
def t_at (T : y_TB) : List FieldType := T.2.1
def t_ft (T : y_TB) : Nat → Nat → FieldType := T.2.2.1
def t_fl (T : y_TB) : Nat → Nat → Option (Nat × Nat) := T.2.2.2.1
def t_kI (T : y_TB) : Nat → Nat → Option Int32 := T.2.2.2.2.1
def t_kL (T : y_TB) : Nat → Nat → Option Int64 := T.2.2.2.2.2.1
def t_nl (T : y_TB) : Nat → Nat → Option Nat := T.2.2.2.2.2.2.1
def t_kS (T : y_TB) : Nat → Nat → Option Nat := T.2.2.2.2.2.2.2.1
def t_ml (T : y_TB) : Nat → Nat → Option (Nat × Nat) := T.2.2.2.2.2.2.2.2.1
def t_mt (T : y_TB) : Nat → Option e_M := T.2.2.2.2.2.2.2.2.2.1
def t_cn (T : y_TB) : Nat → Nat := T.2.2.2.2.2.2.2.2.2.2.1
def t_ec (T : y_TB) : Nat := T.2.2.2.2.2.2.2.2.2.2.2.1
def t_xo (T : y_TB) : Nat → Option Nat := T.2.2.2.2.2.2.2.2.2.2.2.2.1
def t_ex (T : y_TB) : Nat → e_EX := T.2.2.2.2.2.2.2.2.2.2.2.2.2
def y_C (T : y_TB) (fu d : Nat) : Nat → List Value → e_ST → Option e_RS := e_m (t_cl T) (t_at T) (t_ft T) (t_fl T) (t_kI T) (t_kL T) (t_nl T) (t_kS T) (t_ml T) (t_mt T) (t_cn T) (t_ec T) (t_xo T) (t_ex T) fu d
def y_B (T : y_TB) (d fu : Nat) (M : e_M) (n pc : Nat) (lv : e_LV) (stk : List Value) (st : e_ST) : Option e_RS := e_body (t_cl T) (t_at T) (t_ft T) (t_fl T) (t_kI T) (t_kL T) (t_nl T) (t_kS T) (t_ml T) (t_mt T) (t_cn T) (t_ec T) (t_xo T) (t_ex T d) (y_C T fu d) M n pc lv stk st
def y_N (T : y_TB) (d : Nat) (call : Nat → List Value → e_ST → Option e_RS) (M : e_M) (ins : Instr) (len pc : Nat) (lv : e_LV) (stk : List Value) (st : e_ST) : Option (e_RS ⊕ (e_FR × e_ST) ⊕ e_ST) := e_ny (t_cl T) (t_at T) (t_ft T) (t_fl T) (t_kI T) (t_kL T) (t_nl T) (t_kS T) (t_ml T) (t_mt T) (t_cn T) (t_ec T) (t_xo T) (t_ex T d) call M ins len pc lv stk st
/-- a call comes to r; a body, from a place on, comes to r -/
def y_Run (T : y_TB) (d j : Nat) (As : List Value) (st : e_ST) (r : e_RS) : Prop := ∃ fu, y_C T fu d j As st = some r
def y_BR (T : y_TB) (d : Nat) (M : e_M) (pc : Nat) (lv : e_LV) (stk : List Value) (st : e_ST) (r : e_RS) : Prop := ∃ fu n, y_B T d fu M n pc lv stk st = some r
section Y_BR
variable {T : y_TB} {d : Nat} {M : e_M} {pc : Nat} {lv : e_LV} {stk : List Value} {st : e_ST} {r : e_RS}
theorem y_C_le {fu fu' : Nat} (h : fu ≤ fu') : y_le (y_C T fu d) (y_C T fu' d) := y_m_le h d
theorem y_B_le {fu fu' n n' : Nat} (h : fu ≤ fu') (hn : n ≤ n') (k : y_B T d fu M n pc lv stk st = some r) : y_B T d fu' M n' pc lv stk st = some r := y_body_le (y_C_le h) hn k
theorem y_Run.of {j : Nat} {As : List Value} (hM : t_mt T j = some M) (hl : (lg_sl As).length ≤ e_mL M) (h : y_BR T d M 0 (lv_args 0 As) [] st r) : y_Run T (d + 1) j As st r := by
  obtain ⟨fu, n, k⟩ := h
  refine ⟨max fu n, ?_⟩
  unfold y_C e_m
  rw [hM]
  dsimp only
  rw [if_pos hl]
  exact y_B_le (Nat.le_max_left fu n) (Nat.le_max_right fu n) k
theorem y_BR.go {ins : Instr} {len : Nat} {f : e_FR} {st' : e_ST} (hd : decode (e_mc M) pc = .ok (ins, len)) (hy : ∃ fu, y_N T d (y_C T fu d) M ins len pc lv stk st = some (.inr (.inl (f, st')))) (h : y_BR T d M f.1 f.2.1 f.2.2 st' r) : y_BR T d M pc lv stk st r := by
  obtain ⟨fu1, hy⟩ := hy
  obtain ⟨fu, n, k⟩ := h
  refine ⟨max fu fu1, n + 1, ?_⟩
  unfold y_B e_body
  rw [hd]
  dsimp only
  rw [show e_ny _ _ _ _ _ _ _ _ _ _ _ _ _ (t_ex T d) (y_C T (max fu fu1) d) M ins len pc lv stk st = some (.inr (.inl (f, st'))) from y_ny_le (y_C_le (Nat.le_max_right fu fu1)) hy]
  exact y_B_le (Nat.le_max_left fu fu1) (Nat.le_refl n) k
theorem y_BR.ret {ins : Instr} {len : Nat} (hd : decode (e_mc M) pc = .ok (ins, len)) (hy : ∃ fu, y_N T d (y_C T fu d) M ins len pc lv stk st = some (.inl r)) : y_BR T d M pc lv stk st r := by
  obtain ⟨fu1, hy⟩ := hy
  refine ⟨fu1, 1, ?_⟩
  unfold y_B e_body
  rw [hd]
  dsimp only
  rw [show e_ny _ _ _ _ _ _ _ _ _ _ _ _ _ (t_ex T d) (y_C T fu1 d) M ins len pc lv stk st = some (.inl r) from hy]
theorem y_BR.thr {ins : Instr} {len : Nat} {st' : e_ST} (hd : decode (e_mc M) pc = .ok (ins, len)) (hy : ∃ fu, y_N T d (y_C T fu d) M ins len pc lv stk st = some (.inr (.inr st'))) (hh : e_hd (e_mh M) pc = none) : y_BR T d M pc lv stk st (none, st') := by
  obtain ⟨fu1, hy⟩ := hy
  refine ⟨fu1, 1, ?_⟩
  unfold y_B e_body
  rw [hd]
  dsimp only
  rw [show e_ny _ _ _ _ _ _ _ _ _ _ _ _ _ (t_ex T d) (y_C T fu1 d) M ins len pc lv stk st = some (.inr (.inr st')) from hy]
  dsimp only
  rw [hh]
theorem y_BR.cat {ins : Instr} {len k pc' : Nat} {lv' : e_LV} {st' : e_ST} {x : Nat × Nat × Nat × Nat} (hd : decode (e_mc M) pc = .ok (ins, len)) (hy : ∃ fu, y_N T d (y_C T fu d) M ins len pc lv stk st = some (.inr (.inr st'))) (hh : e_hd (e_mh M) pc = some x) (hc : e_cch (e_mc M) x.2.2.1 lv = some (k, pc', lv')) (hk : k < e_mL M) (h : y_BR T d M pc' lv' [] st' r) : y_BR T d M pc lv stk st r := by
  obtain ⟨fu1, hy⟩ := hy
  obtain ⟨fu, n, kk⟩ := h
  refine ⟨max fu fu1, n + 1, ?_⟩
  unfold y_B e_body
  rw [hd]
  dsimp only
  rw [show e_ny _ _ _ _ _ _ _ _ _ _ _ _ _ (t_ex T d) (y_C T (max fu fu1) d) M ins len pc lv stk st = some (.inr (.inr st')) from y_ny_le (y_C_le (Nat.le_max_right fu fu1)) hy]
  dsimp only
  rw [hh]
  dsimp only
  rw [hc]
  dsimp only
  rw [if_pos hk]
  exact y_B_le (Nat.le_max_left fu fu1) (Nat.le_refl n) kk
end Y_BR
end
