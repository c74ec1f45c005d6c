/-! PART 40: instructions that touch a cell -/
noncomputable section
def y_eh (T : y_TB) (M : e_M) (ins : Instr) (pc : Nat) (lv : e_LV) (stk : List Value) (st : e_ST) : Option (e_FR × e_ST) := e_h (t_cl T) (t_at T) (t_ft T) (t_fl T) (t_kI T) (t_kL T) (t_nl T) (t_kS T) (e_mo M) (if (e_my M).name = "<init>" then some (e_my M).cls else none) ins pc lv stk st
def y_kd (ty : FieldType) : Nat := match ty with
  | .long => 1
  | .object _ => 2
  | .array _ => 2
  | _ => 0
def y_vt (U : y_WT) (ty : FieldType) (c : Nat ⊕ Nat) (k : Nat) : Nat := match y_kd ty with
  | 0 => 0
  | 1 => 1
  | _ => w_PT U c k + 2
def y_cgf (U : y_WT) (T : y_TB) (o idx pc : Nat) (S : y_S) (s : y_Str) : Option (y_BL × y_Str) := match s_s S with
  | (t + 2, e) :: l => (match t_fl T o idx, w_KT U t with
    | some (ci, k), some (.inl cj) => (match Nat.beq ci cj with
      | false => none
      | true => match y_ck (s_f S) s (g_ac (-1) e) with
        | none => none
        | some s1 => match y_get U (y_st S l) (y_kd (t_ft T ci k)) (.inl ci) (g_ac (-1) e) (g_c (k : Int)) k with
          | none => none
          | some (S1, v) => y_on (pc + 3) (y_pu S1 (y_vt U (t_ft T ci k) (.inl ci) k, v)) s1)
    | _, _ => none)
  | _ => none
/-- how long an array is -/
def y_len (U : y_WT) (S : y_S) (t : Nat) (c : Nat ⊕ Nat) (a : g_LE) : Option (y_S × g_LE) := match w_LT U t with
  | some n => some (S, g_c (n : Int))
  | none => match w_RG U 3 (y_adr a) c 0 with
    | some (lo, hi) => (match g_ieq lo hi with
      | true => some (S, g_c lo)
      | false => y_get U S 3 c a [] 0)
    | none => y_get U S 3 c a [] 0
def y_cal (U : y_WT) (T : y_TB) (ins : Instr) (pc : Nat) (S : y_S) (s : y_Str) : Option (y_BL × y_Str) := match s_s S with
  | (0, i) :: (t + 2, e) :: l => (match w_KT U t with
    | some (.inr ti) => (match (t_at T)[ti]? with
      | some ty => (match e_ld1 ins ty with
        | false => none
        | true => match y_cks (s_f S) s [g_ac (-1) e, i] with
          | none => none
          | some s1 => match y_old S e && y_old S i with
            | false => none
            | true => match y_len U (y_st S l) t (.inr ti) (g_ac (-1) e) with
              | none => none
              | some (S1, n) => match y_ck (s_f S1) s1 (g_ac (-1) (g_sub n i)) with
                | none => none
                | some s2 => match y_get U S1 (y_kd ty) (.inr ti) (g_ac (-1) e) i 0 with
                  | none => none
                  | some (S2, v) => y_on (pc + 1) (y_pu S2 (y_vt U ty (.inr ti) 0, v)) s2)
      | none => none)
    | _ => none)
  | _ => none
def y_cln (U : y_WT) (T : y_TB) (pc : Nat) (S : y_S) (s : y_Str) : Option (y_BL × y_Str) := match s_s S with
  | (t + 2, e) :: l => (match w_KT U t with
    | some (.inr ti) => (match (t_at T)[ti]? with
      | some _ => (match y_ck (s_f S) s (g_ac (-1) e) with
        | none => none
        | some s1 => match y_len U (y_st S l) t (.inr ti) (g_ac (-1) e) with
          | none => none
          | some (S1, n) => match y_ck (s_f S1) s1 (g_ac y_h32 (g_k (-1) n)) with
            | none => none
            | some s2 => y_on (pc + 1) (y_pu S1 (0, n)) s2)
      | none => none)
    | _ => none)
  | _ => none
/-- what a step that touches a cell owes -/
def y_CP (U : y_WT) (AT : Nat → List Int → y_W → Prop) (N : List y_MI) (t0 : Option g_LE) (r : Nat → Int) (S : y_S) (w : y_W) (B : y_BL) (f : Option (e_FR × e_ST)) : Prop := ∃ pc' lv' stk' w' S' r', (pc', S') ∈ B ∧ y_ex S S' r r' ∧ y_DD U AT r' S' lv' stk' w' ∧ f = some ((pc', lv', stk'), w'.1) ∧ ∃ Mi, y_Fr r' Mi w w' ∧ ∀ m ∈ Mi, ∀ {kd a k : Nat}, y_cvr r' m kd a k → (∃ n ∈ N, y_cvr r' n kd a k) ∨ (kd < 4 ∧ ∃ t, t0 = some t ∧ g_ev r' t ≤ (a : Int))
section Y_CE
variable {U : y_WT} {AT : Nat → List Int → y_W → Prop} {T : y_TB} {M : e_M} {r r' : Nat → Int} {S S' : y_S} {lv : e_LV} {stk : List Value} {w w' : y_W} {s s' : y_Str} {N : List y_MI} {t0 : Option g_LE} {B : y_BL} {pc : Nat}
theorem y_CP.rd {pc' : Nat} {lv' : e_LV} {stk' : List Value} {f : Option (e_FR × e_ST)} (h : y_on pc' S' s = some (B, s')) (hx : y_ex S S' r r') (k : y_DD U AT r' S' lv' stk' w) (he : f = some ((pc', lv', stk'), w.1)) : y_CP U AT N t0 r S w B f := by
  cases h
  exact ⟨pc', lv', stk', w, S', r', List.mem_cons_self, hx, k, he, [], y_Fr.rf, fun m hm => by cases hm⟩
/-- a pointer's object -/
theorem y_nn1 {t : Nat} {e : g_LE} {v : Value} {st : e_ST} {KT : Nat → Option (Nat ⊕ Nat)} {LT : Nat → Option Nat} (h0 : r 0 = 1) (h : y_dV KT LT r st (t + 2, e) v) (h1 : 0 ≤ g_ev r (g_ac (-1) e)) : ∃ b : Nat, v = .ref b ∧ g_ev r (g_ac (-1) e) = b ∧ y_pt KT LT st t b := by
  obtain ⟨o, rfl, h2, h3⟩ := h
  rw [g_ev_ac r h0] at h1 ⊢
  have h2 : y_en o = g_ev r e := h2
  cases o with
  | none =>
    have h4 : (0 : Int) = g_ev r e := h2
    omega
  | some b =>
    rw [y_en_s] at h2
    exact ⟨b, rfl, by omega, h3 b rfl⟩
theorem y_vf_ok {ty : FieldType} {c : Nat ⊕ Nat} {a k kc : Nat} {v : g_LE} (hI : y_IV U w) (hK : e_K w.1 a = some c) (hk : y_rk c k = kc) (h : y_rd w (y_kd ty) a k = g_ev r v) : y_dV (w_KT U) (w_LT U) r w.1 (y_vt U ty c kc, v) (e_vf w.1 a k ty) := by
  have hp : ∀ b, e_P w.1 a k = some b → y_pt (w_KT U) (w_LT U) w.1 (w_PT U c kc) b := by
    rw [← hk]
    exact (hI.2.2 a c hK).2.2 k
  cases ty with
  | long => exact ⟨_, rfl, h⟩
  | object C => exact (show y_dV (w_KT U) (w_LT U) r w.1 (w_PT U c kc + 2, v) (va_rf (e_P w.1 a k)) from ⟨_, rfl, h, hp⟩)
  | array C => exact (show y_dV (w_KT U) (w_LT U) r w.1 (w_PT U c kc + 2, v) (va_rf (e_P w.1 a k)) from ⟨_, rfl, h, hp⟩)
  | _ => exact ⟨_, rfl, h⟩
theorem y_kd_lt (ty : FieldType) : y_kd ty < 3 := by cases ty <;> simp [y_kd]
theorem y_gx.ex {l : List y_SV} (h : y_gx (y_st S l) S' r r') : y_ex S S' r r' := ⟨h.1, h.2.1⟩
theorem y_cgf_ok {idx : Nat} (h : y_cgf U T (e_mo M) idx pc S s = some (B, s')) (k : y_DD U AT r S lv stk w) : y_CP U AT N t0 r S w B (y_eh T M (.getfield idx) pc lv stk w.1) := by
  have h0 := k.1
  unfold y_cgf at h
  split at h
  · rename_i t e l hs
    split at h
    · rename_i ci kf cj hfl hkt
      split at h
      · cases h
      · rename_i hc
        have hcc := Nat.eq_of_beq_eq_true hc
        subst hcc
        split at h
        · cases h
        · rename_i s1 hck
          split at h
          · cases h
          · rename_i S1 v hg
            obtain ⟨v0, rest, rfl, hv, k1⟩ := y_D_po k hs
            obtain ⟨b, rfl, hb, hpt⟩ := y_nn1 h0 hv (y_ck_ok h0 k.2.2.2.2.1 hck)
            have hK := (hpt _ hkt).1
            have e1 : (g_ev r (g_ac (-1) e)).toNat = b := by rw [hb]; rfl
            have e2 : (g_ev r (g_c (kf : Int))).toNat = kf := by rw [g_ev_c r h0]; rfl
            obtain ⟨r', x1, x2, x3⟩ := y_get_ok hg k1 (Nat.lt_succ_of_lt (y_kd_lt _)) (by rw [e1]; exact hK) (by rw [e2]; rfl) (by rw [hb]; exact Int.natCast_nonneg _) (by rw [g_ev_c r h0]; exact Int.natCast_nonneg _)
            rw [e1, e2] at x3
            refine y_CP.rd h x1.ex (y_D_pu x2 (y_vf_ok x2.2.2.2.2.2.2 hK rfl x3)) ?_
            unfold y_eh e_h
            dsimp only
            rw [hfl]
            dsimp only
            rw [if_pos hK]
    · cases h
  · cases h
theorem y_len_ok {t : Nat} {c : Nat ⊕ Nat} {a n : g_LE} {b : Nat} (h : y_len U S t c a = some (S', n)) (k : y_DD U AT r S lv stk w) (ha : g_ev r a = b) (hpt : y_pt (w_KT U) (w_LT U) w.1 t b) (hkt : w_KT U t = some c) : ∃ r', y_gx S S' r r' ∧ y_DD U AT r' S' lv stk w ∧ (e_N w.1 b : Int) = g_ev r' n := by
  have h0 := k.1
  obtain ⟨hK, hN⟩ := hpt c hkt
  have e1 : (g_ev r a).toNat = b := by rw [ha]; rfl
  have hget : y_get U S 3 c a [] 0 = some (S', n) → ∃ r', y_gx S S' r r' ∧ y_DD U AT r' S' lv stk w ∧ (e_N w.1 b : Int) = g_ev r' n := by
    intro hg
    have hc0 : y_rk c (g_ev r []).toNat = 0 := by cases c <;> rfl
    obtain ⟨r', x1, x2, x3⟩ := y_get_ok hg k (by decide) (by rw [e1]; exact hK) hc0 (by rw [ha]; exact Int.natCast_nonneg _) (Int.le_refl 0)
    rw [e1] at x3
    exact ⟨r', x1, x2, x3⟩
  unfold y_len at h
  split at h
  · rename_i m hm
    cases h
    exact ⟨r, y_gx.rf, k, by rw [g_ev_c r h0, hN m hm]⟩
  · split at h
    · rename_i lo hi hq
      split at h
      · rename_i hlh
        cases h
        have he := g_ieq_ok hlh
        subst he
        refine ⟨r, y_gx.rf, k, ?_⟩
        rw [g_ev_c r h0]
        have hrg := ((k.2.2.2.2.2.2).2.2 b c hK).2.1 3 0 lo lo (by decide)
        have hc0 : y_rk c 0 = 0 := by cases c <;> rfl
        rw [hc0] at hrg
        have h9 : lo ≤ (e_N w.1 b : Int) ∧ (e_N w.1 b : Int) ≤ lo := by
          cases hy : y_adr a with
          | none => rw [hy] at hq; exact hrg (Or.inl hq)
          | some A =>
            have h8 := y_adr_ok h0 hy
            rw [e1] at h8
            rw [hy, ← h8] at hq
            exact hrg (Or.inr hq)
        omega
      · exact hget h
    · exact hget h
theorem y_clamp {x : Int32} (h : 0 ≤ x.toInt) : (x.toNatClampNeg : Int) = x.toInt := Int32.cast_toNatClampNeg x (Int32.le_iff_toInt_le.mpr h)
theorem y_inb {x : Int32} {n : Nat} (h1 : 0 ≤ x.toInt) (h2 : x.toInt < n) : ¬ (x < 0 ∨ n ≤ x.toNatClampNeg) := by
  have h3 := y_clamp h1
  rintro (h | h)
  · have h4 : x.toInt < (0 : Int32).toInt := Int32.lt_iff_toInt_lt.mp h
    have h5 : (0 : Int32).toInt = 0 := rfl
    omega
  · omega
theorem y_cal_ok {ins : Instr} (h : y_cal U T ins pc S s = some (B, s')) (k : y_DD U AT r S lv stk w) : y_CP U AT N t0 r S w B (e_ldr (t_at T) w.1 ins pc lv stk) := by
  have h0 := k.1
  unfold y_cal at h
  split at h
  · rename_i i t e l hs
    split at h
    · rename_i ti hkt
      split at h
      · rename_i ty hty
        split at h
        · cases h
        · rename_i hld
          split at h
          · cases h
          · rename_i s1 hck
            split at h
            · cases h
            · rename_i hold
              rw [Bool.and_eq_true] at hold
              split at h
              · cases h
              · rename_i S1 n hln
                split at h
                · cases h
                · rename_i s2 hck2
                  split at h
                  · cases h
                  · rename_i S2 v hg
                    obtain ⟨v0, rest0, rfl, ⟨x, rfl, hx⟩, k0⟩ := y_D_po k hs
                    obtain ⟨v1, rest, rfl, hv1, k1⟩ := y_D_po (S := y_st S ((t + 2, e) :: l)) (l := l) k0 rfl
                    have hx : x.toInt = g_ev r i := hx
                    have hall := y_cks_ok h0 k.2.2.2.2.1 hck
                    have he1 := hall (g_ac (-1) e) List.mem_cons_self
                    have hi0 := hall i (List.mem_cons_of_mem _ List.mem_cons_self)
                    obtain ⟨b, rfl, hb, hpt⟩ := y_nn1 h0 hv1 he1
                    have hK := (hpt _ hkt).1
                    obtain ⟨r1, x1, x2, x3⟩ := y_len_ok hln k1 hb hpt hkt
                    have hlt := y_ck_ok x2.1 x2.2.2.2.2.1 hck2
                    have ei : g_ev r1 i = g_ev r i := g_sc_ev x1.1 hold.2
                    have ee : g_ev r1 e = g_ev r e := g_sc_ev x1.1 hold.1
                    rw [g_ev_ac r1 x2.1, g_ev_sub, ← x3, ei, ← hx] at hlt
                    rw [← hx] at hi0
                    have hcl := y_clamp hi0
                    have ea : g_ev r1 (g_ac (-1) e) = b := by rw [g_ev_ac r1 x2.1, ee, ← hb, g_ev_ac r h0]
                    have ea2 : (g_ev r1 (g_ac (-1) e)).toNat = b := by rw [ea]; rfl
                    have ek2 : (g_ev r1 i).toNat = x.toNatClampNeg := by rw [ei, ← hx, ← hcl]; rfl
                    obtain ⟨r2, y1, y2, y3⟩ := y_get_ok hg x2 (Nat.lt_succ_of_lt (y_kd_lt _)) (by rw [ea2]; exact hK) rfl (by rw [ea]; exact Int.natCast_nonneg _) (by rw [ei, ← hx]; exact hi0)
                    rw [ea2, ek2] at y3
                    have xx := x1.tr y1
                    refine y_CP.rd h ⟨xx.1, xx.2.1⟩ (y_D_pu y2 (y_vf_ok y2.2.2.2.2.2.2 hK rfl y3)) ?_
                    unfold e_ldr
                    dsimp only
                    rw [hK]
                    dsimp only
                    rw [hty]
                    dsimp only
                    rw [if_pos ⟨hld, y_inb hi0 (by omega)⟩]
      · cases h
    · cases h
  · cases h
theorem y_cln_ok (h : y_cln U T pc S s = some (B, s')) (k : y_DD U AT r S lv stk w) : y_CP U AT N t0 r S w B (y_eh T M .arraylength pc lv stk w.1) := by
  have h0 := k.1
  unfold y_cln at h
  split at h
  · rename_i t e l hs
    split at h
    · rename_i ti hkt
      split at h
      · rename_i ty hty
        split at h
        · cases h
        · rename_i s1 hck
          split at h
          · cases h
          · rename_i S1 n hln
            split at h
            · cases h
            · rename_i s2 hck2
              obtain ⟨v1, rest, rfl, hv1, k1⟩ := y_D_po k hs
              obtain ⟨b, rfl, hb, hpt⟩ := y_nn1 h0 hv1 (y_ck_ok h0 k.2.2.2.2.1 hck)
              have hK := (hpt _ hkt).1
              obtain ⟨r1, x1, x2, x3⟩ := y_len_ok hln k1 hb hpt hkt
              have hlt := y_ck_ok x2.1 x2.2.2.2.2.1 hck2
              rw [g_ev_ac r1 x2.1, g_ev_k, ← x3] at hlt
              unfold y_h32 at hlt
              refine y_CP.rd h ⟨x1.1, x1.2.1⟩ (y_D_pu x2 (v := .int (Int32.ofNat (e_N w.1 b))) ⟨_, rfl, ?_⟩) ?_
              · rw [← x3, Int32.toInt_ofNat_of_lt (by omega)]
              · unfold y_eh e_h
                dsimp only
                rw [hK]
                dsimp only
                rw [hty]
      · cases h
    · cases h
  · cases h
end Y_CE
end
