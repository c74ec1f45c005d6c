/-! PART 48: what the evaluator does at an instruction, by its kind -/
noncomputable section
/-- instructions that are looked at in the end only -/
def y_df (ins : Instr) : Bool := match ins with
  | .ireturn => false
  | .lreturn => false
  | .areturn => false
  | .return_ => false
  | .athrow => false
  | .invokevirtual _ => false
  | .invokestatic _ => false
  | .invokespecial _ => false
  | _ => true
/-- those that touch a cell -/
def y_cc (ins : Instr) : Bool := match ins with
  | .getfield _ => true
  | .putfield _ => true
  | .iaload => true
  | .baload => true
  | .laload => true
  | .aaload => true
  | .iastore => true
  | .bastore => true
  | .lastore => true
  | .aastore => true
  | .arraylength => true
  | .newarray _ => true
  | .new _ => true
  | .ldc _ => true
  | .ldc_w _ => true
  | .ldc2_w _ => true
  | _ => false
section Y_IV
variable {T : y_TB} {d : Nat} {M : e_M} {ins : Instr} {len pc : Nat} {lv : e_LV} {stk : List Value} {st : e_ST} {call : Nat → List Value → e_ST → Option e_RS}
theorem y_nx_df (h : y_df ins = true) : e_nx (t_cl T) (t_at T) (t_ft T) (t_fl T) (t_kI T) (t_kL T) (t_nl T) (t_kS T) (t_ml T) (t_mt T) (t_cn T) (t_ec T) (t_xo T) call M ins len pc lv stk st = match e_s (e_mL M) ins pc lv stk with
    | some f => if e_lf ins len = len then some (.inr (.inl (f, st))) else none
    | none => if e_lh ins = len then (y_eh T M ins pc lv stk st).map fun x => .inr (.inl x) else none := by
  cases ins <;> first | rfl | cases h
theorem y_es_cc (h : y_cc ins = true) : e_s (e_mL M) ins pc lv stk = none ∧ y_df ins = true := by
  cases ins <;> first | exact ⟨rfl, rfl⟩ | cases h
/-- a step by e_s -/
theorem y_N_s {f : e_FR} (hx : t_ex T d M ins len pc lv stk st = none) (hd : y_df ins = true) (he : e_s (e_mL M) ins pc lv stk = some f) (hl : e_lf ins len = len) : y_N T d call M ins len pc lv stk st = some (.inr (.inl (f, st))) := by
  unfold y_N e_ny
  rw [hx]
  dsimp only
  rw [y_nx_df hd, he]
  dsimp only
  rw [if_pos hl]
/-- a step by e_h -/
theorem y_N_h {x : e_FR × e_ST} (hx : t_ex T d M ins len pc lv stk st = none) (hc : y_cc ins = true) (he : y_eh T M ins pc lv stk st = some x) (hl : e_lh ins = len) : y_N T d call M ins len pc lv stk st = some (.inr (.inl x)) := by
  obtain ⟨h1, h2⟩ := y_es_cc (M := M) (pc := pc) (lv := lv) (stk := stk) hc
  unfold y_N e_ny
  rw [hx]
  dsimp only
  rw [y_nx_df h2, h1]
  dsimp only
  rw [if_pos hl, he]
  rfl
/-- a step taken from outside -/
theorem y_N_x {x : e_FR × e_ST} (hx : t_ex T d M ins len pc lv stk st = some x) : y_N T d call M ins len pc lv stk st = some (.inr (.inl x)) := by
  unfold y_N e_ny
  rw [hx]
theorem y_N_c {call : Nat → List Value → e_ST → Option e_RS} {idx how j : Nat} {x : e_RS × List Value} (hx : t_ex T d M ins len pc lv stk st = none) (hins : (how = 0 ∧ ins = .invokevirtual idx) ∨ (how = 1 ∧ ins = .invokestatic idx) ∨ (how = 2 ∧ ins = .invokespecial idx)) (hml : t_ml T (e_mo M) idx = some (how, j)) (hl : len = 3) (he : e_inv (t_cl T) (t_mt T) (t_cn T) (t_xo T) call how j stk st = some x) : y_N T d call M ins len pc lv stk st = some (e_bk pc lv x) := by
  unfold y_N e_ny
  rw [hx]
  rcases hins with ⟨rfl, rfl⟩ | ⟨rfl, rfl⟩ | ⟨rfl, rfl⟩
  all_goals
    try dsimp only
    unfold e_nx
    try dsimp only
    rw [hml]
    refine Eq.trans (if_pos hl : (if len = 3 then (e_inv (t_cl T) (t_mt T) (t_cn T) (t_xo T) call _ j stk st).map (e_bk pc lv) else none) = _) ?_
    rw [he]
    rfl
theorem y_N_9 {idx j : Nat} {a : Nat} {r : List Value} (hx : t_ex T d M (.invokespecial idx) len pc lv (.ref a :: r) st = none) (hml : t_ml T (e_mo M) idx = some (9, j)) (hl : len = 3) (hc : e_cat r ≤ 8) : y_N T d call M (.invokespecial idx) len pc lv (.ref a :: r) st = some (.inr (.inl ((pc + 3, lv, r), st))) := by
  unfold y_N e_ny
  rw [hx]
  try dsimp only
  unfold e_nx
  try dsimp only
  rw [hml]
  show (if len = 3 ∧ e_cat r ≤ 8 then (some (Sum.inr (Sum.inl ((pc + 3, lv, r), st))) : Option (e_RS ⊕ (e_FR × e_ST) ⊕ e_ST)) else none) = _
  exact if_pos ⟨hl, hc⟩
theorem y_N_r {v : Option Value} (hx : t_ex T d M ins len pc lv stk st = none) (hins : ins = .ireturn ∨ ins = .lreturn ∨ ins = .areturn ∨ ins = .return_) (hl : len = 1) (he : e_ret (e_mr M) ins stk = some v) : y_N T d call M ins len pc lv stk st = some (.inl (some v, st)) := by
  unfold y_N e_ny
  rw [hx]
  rcases hins with rfl | rfl | rfl | rfl
  all_goals
    dsimp only
    unfold e_nx
    dsimp only
    rw [if_pos hl, he]
    rfl
theorem y_N_t {q : Nat} {r : List Value} (hx : t_ex T d M .athrow len pc lv (.ref q :: r) st = none) (hl : len = 1) (hk : e_K st q = some (.inl (t_ec T))) : y_N T d call M .athrow len pc lv (.ref q :: r) st = some (.inr (.inr st)) := by
  unfold y_N e_ny
  rw [hx]
  dsimp only
  unfold e_nx
  dsimp only
  rw [if_pos ⟨hl, hk⟩]
end Y_IV
/-! returns -/
def y_rtv (mr : Option FieldType) (ins : Instr) (S : y_S) (s : y_Str) : Option y_Str := match ins, s_s S, mr with
  | .ireturn, [(0, _)], some .int => some s
  | .ireturn, [(0, e)], some .boolean => y_cks (s_f S) s [e, g_ac 1 (g_k (-1) e)]
  | .ireturn, [(0, e)], some .byte => y_cks (s_f S) s [g_ac 128 e, g_ac 127 (g_k (-1) e)]
  | .ireturn, [(0, e)], some .char => y_cks (s_f S) s [e, g_ac 65535 (g_k (-1) e)]
  | .lreturn, [(1, _)], some .long => some s
  | .areturn, [(_ + 2, _)], some (.object _) => some s
  | .areturn, [(_ + 2, _)], some (.array _) => some s
  | .return_, [], none => some s
  | _, _, _ => none
def y_isr (ins : Instr) : Bool := match ins with
  | .ireturn => true
  | .lreturn => true
  | .areturn => true
  | .return_ => true
  | _ => false
section Y_RT
variable {U : y_WT} {AT : Nat → List Int → y_W → Prop} {r r' : Nat → Int} {S S' : y_S} {lv : e_LV} {stk : List Value} {w w' : y_W} {s s' : y_Str} {mr : Option FieldType} {ins : Instr}
theorem y_dS_1 {q : y_SV} {vs : List Value} {st : e_ST} {KT : Nat → Option (Nat ⊕ Nat)} {LT : Nat → Option Nat} (h : y_dS KT LT r st [q] vs) : ∃ v, vs = [v] ∧ y_dV KT LT r st q v := by
  match vs, h with
  | [v], h => exact ⟨v, rfl, h.1⟩
  | [], h => exact h.elim
  | _ :: _ :: _, h => exact h.2.elim
theorem y_nC (x : Int32) (h1 : 0 ≤ x.toInt) (h2 : x.toInt ≤ 65535) : narrow .char (.int x) = .int x := by
  show Value.int (x.toUInt32.toUInt16.toUInt32.toInt32) = .int x
  congr 1
  apply Int32.toInt_inj.mp
  have hb : x.toBitVec.toInt = x.toBitVec.toNat := (y_bv_pos (b := x.toBitVec) h1).1
  have hx : x.toInt = x.toBitVec.toNat := hb
  have hlt : x.toBitVec.toNat < 65536 := by omega
  have e : x.toUInt32.toUInt16.toUInt32.toInt32.toInt = ((x.toBitVec.setWidth 16).setWidth 32).toInt := rfl
  rw [e]
  have e2 : ((x.toBitVec.setWidth 16).setWidth 32).toNat = x.toBitVec.toNat := by
    rw [BitVec.toNat_setWidth, BitVec.toNat_setWidth]
    omega
  rw [BitVec.toInt_eq_toNat_of_lt (by rw [e2]; omega), e2, hx]
theorem y_rtv_ok (h : y_rtv mr ins S s = some s') (k : y_DD U AT r S lv stk w) : ∃ v : Option Value, e_ret mr ins stk = some v ∧ stk = v.toList := by
  have h0 := k.1
  have hst := k.2.2.1
  unfold y_rtv at h
  split at h
  · rename_i hs
    rw [hs] at hst
    obtain ⟨v, rfl, x, rfl, hx⟩ := y_dS_1 hst
    exact ⟨some (.int x), by unfold e_ret; dsimp only; rw [if_pos (show narrow FieldType.int (Value.int x) = Value.int x from rfl)], rfl⟩
  · rename_i e hs
    rw [hs] at hst
    obtain ⟨v, rfl, x, rfl, hx⟩ := y_dS_1 hst
    have hall := y_cks_ok h0 k.2.2.2.2.1 h
    have b1 := hall e List.mem_cons_self
    have b2 := hall _ (List.mem_cons_of_mem _ List.mem_cons_self)
    have hx : x.toInt = g_ev r e := hx
    rw [g_ev_ac r h0, g_ev_k] at b2
    exact ⟨some (.int x), by unfold e_ret; dsimp only; rw [if_pos (y_nb x (by omega) (by omega)).1], rfl⟩
  · rename_i e hs
    rw [hs] at hst
    obtain ⟨v, rfl, x, rfl, hx⟩ := y_dS_1 hst
    have hall := y_cks_ok h0 k.2.2.2.2.1 h
    have b1 := hall (g_ac 128 e) List.mem_cons_self
    have b2 := hall _ (List.mem_cons_of_mem _ List.mem_cons_self)
    have hx : x.toInt = g_ev r e := hx
    rw [g_ev_ac r h0] at b1
    rw [g_ev_ac r h0, g_ev_k] at b2
    exact ⟨some (.int x), by unfold e_ret; dsimp only; rw [if_pos (y_nB x (by omega) (by omega)).1], rfl⟩
  · rename_i e hs
    rw [hs] at hst
    obtain ⟨v, rfl, x, rfl, hx⟩ := y_dS_1 hst
    have hall := y_cks_ok h0 k.2.2.2.2.1 h
    have b1 := hall e List.mem_cons_self
    have b2 := hall _ (List.mem_cons_of_mem _ List.mem_cons_self)
    have hx : x.toInt = g_ev r e := hx
    rw [g_ev_ac r h0, g_ev_k] at b2
    exact ⟨some (.int x), by unfold e_ret; dsimp only; rw [if_pos (y_nC x (by omega) (by omega))], rfl⟩
  · rename_i hs
    rw [hs] at hst
    obtain ⟨v, rfl, x, rfl, hx⟩ := y_dS_1 hst
    exact ⟨some (.long x), by unfold e_ret; dsimp only; rw [if_pos rfl], rfl⟩
  · rename_i t e C hs
    rw [hs] at hst
    obtain ⟨v, rfl, o, rfl, hx⟩ := y_dS_1 hst
    refine ⟨some (va_rf o), ?_, rfl⟩
    unfold e_ret
    dsimp only
    rw [if_pos (by cases o <;> rfl)]
  · rename_i t e C hs
    rw [hs] at hst
    obtain ⟨v, rfl, o, rfl, hx⟩ := y_dS_1 hst
    refine ⟨some (va_rf o), ?_, rfl⟩
    unfold e_ret
    dsimp only
    rw [if_pos (by cases o <;> rfl)]
  · rename_i hs
    rw [hs] at hst
    match stk, hst with
    | [], _ => exact ⟨none, rfl, rfl⟩
  · cases h
theorem y_rtv_is (h : y_rtv mr ins S s = some s') : ins = .ireturn ∨ ins = .lreturn ∨ ins = .areturn ∨ ins = .return_ := by
  unfold y_rtv at h
  split at h
  all_goals first
    | exact Or.inl rfl
    | exact Or.inr (Or.inl rfl)
    | exact Or.inr (Or.inr (Or.inl rfl))
    | exact Or.inr (Or.inr (Or.inr rfl))
    | cases h
end Y_RT
end
