/-! PART 42: storing in arrays -/
noncomputable section
def y_avl (U : y_WT) (T : y_TB) (ins : Instr) (ty : FieldType) (ti : Nat) (q : y_SV) (S : y_S) (s : y_Str) : Option (y_S × g_LE × y_Str) := match ins, ty, q.1 with
  | .iastore, .int, 0 => some (S, q.2, s)
  | .bastore, .byte, 0 => y_fit S s q.2 (-128) 127
  | .bastore, .boolean, 0 => y_fit S s q.2 0 1
  | .lastore, .long, 1 => some (S, q.2, s)
  | .aastore, .object C, t + 2 => (match g_eq q.2 [] with
    | true => some (S, q.2, s)
    | false => match w_KT U t with
      | some (.inl ci) => (match (t_cl T)[ci]? with
        | some p => (match decide (p.1 = C) && (Nat.beq t (w_PT U (.inr ti) 0) || (w_KT U (w_PT U (.inr ti) 0)).isNone) with
          | true => some (S, q.2, s)
          | false => none)
        | none => none)
      | _ => none)
  | _, _, _ => none
def y_cas (U : y_WT) (fp : Nat → List g_LE → List y_MI) (N : List y_MI) (t0 : Option g_LE) (T : y_TB) (ins : Instr) (pc : Nat) (S : y_S) (s : y_Str) : Option (y_BL × y_Str) := match s_s S with
  | qv :: (0, i) :: (t + 2, e) :: l => (match w_KT U t with
    | some (.inr ti) => (match (t_at T)[ti]? with
      | some ty => (match y_cks (s_f S) s [g_ac (-1) e, i] with
        | none => none
        | some s1 => match y_old S e && y_old S i with
          | false => none
          | true => match y_avl U T ins ty ti qv (y_st S l) s1 with
            | none => none
            | some (S1, v, s2) => match y_old S1 v with
              | false => none
              | true => match y_len U S1 t (.inr ti) (g_ac (-1) e) with
                | none => none
                | some (S2, n) => match y_ck (s_f S2) s2 (g_ac (-1) (g_sub n i)) with
                  | none => none
                  | some s3 => match y_put U fp N t0 S2 (y_kd ty) (.inr ti) (g_ac (-1) e) i 0 v s3 with
                    | none => none
                    | some (S3, s4) => y_on (pc + 1) S3 s4)
      | none => none)
    | _ => none)
  | _ => none
section Y_SA
variable {U : y_WT} {AT : Nat → List Int → y_W → Prop} {fp : Nat → List g_LE → List y_MI} {T : y_TB} {M : e_M} {r r' : Nat → Int} {S S' : y_S} {lv : e_LV} {stk : List Value} {w w' : y_W} {s s' : y_Str} {N : List y_MI} {t0 : Option g_LE} {B : y_BL} {pc : Nat}
theorem y_nZ (x : Int32) : 0 ≤ (vp_nar .boolean x).toInt ∧ (vp_nar .boolean x).toInt ≤ 1 ∧ (0 ≤ x.toInt → x.toInt ≤ 1 → (vp_nar .boolean x).toInt = x.toInt) := by
  have e : vp_nar .boolean x = x &&& 1 := rfl
  have h1 := (y_i_and x 1).1 (by decide)
  rw [e]
  refine ⟨h1.1, h1.2, fun h2 h3 => ?_⟩
  have h : x = 0 ∨ x = 1 := by
    by_cases h3 : x.toInt = 0
    · exact Or.inl (Int32.toInt_inj.mp h3)
    · exact Or.inr (Int32.toInt_inj.mp (by have : x.toInt = 1 := by omega
                                           exact this))
  rcases h with rfl | rfl
  · decide
  · decide
theorem y_nY (x : Int32) : -128 ≤ (vp_nar .byte x).toInt ∧ (vp_nar .byte x).toInt ≤ 127 ∧ (-128 ≤ x.toInt → x.toInt ≤ 127 → (vp_nar .byte x).toInt = x.toInt) := y_i2b x
/-- the store itself, with the value that is kept -/
theorem y_avl_ok {ins : Instr} {ty : FieldType} {ti : Nat} {q : y_SV} {v : g_LE} {val : Value} {w0 : e_ST} (h : y_avl U T ins ty ti q S s = some (S', v, s')) (k : y_DD U AT r S lv stk w) (hq : y_dV (w_KT U) (w_LT U) r w.1 q val) : ∃ r', y_gt S S' r r' ∧ y_DD U AT r' S' lv stk w ∧ ∀ (b j : Nat) (i : Int32) (rest : List Value) (n : Nat), e_K w.1 b = some (.inr ti) → (t_at T)[ti]? = some ty → ¬ (i < 0 ∨ e_N w.1 b ≤ i.toNatClampNeg) → i.toNatClampNeg = j → ∃ st', e_str (t_cl T) (t_at T) w.1 ins pc lv (val :: .int i :: .ref b :: rest) = some ((pc + 1, lv, rest), st') ∧ y_W1 w (st', w.2) (y_kd ty) b j ∧ y_rd (st', w.2) (y_kd ty) b j = g_ev r' v ∧ ∀ z, y_kd ty = 2 → e_P st' b j = some z → y_pt (w_KT U) (w_LT U) w.1 (w_PT U (.inr ti) 0) z := by
  obtain ⟨t, e⟩ := q
  unfold y_avl at h
  split at h
  · rename_i ht
    have ht : t = 0 := ht
    subst ht
    cases h
    obtain ⟨x, rfl, hx⟩ := hq
    refine ⟨r, y_gt.rf, k, fun b j i rest n hK hty hin hj => ?_⟩
    subst hj
    refine ⟨e_sI w.1 b i.toNatClampNeg x, ?_, y_W1_I.1, y_W1_I.2.trans hx, fun z hz => by cases hz⟩
    unfold e_str
    dsimp only
    rw [hK]
    dsimp only
    rw [if_pos hin, hty]
  · rename_i ht
    have ht : t = 0 := ht
    subst ht
    obtain ⟨x, rfl, hx⟩ := hq
    have hx : x.toInt = g_ev r e := hx
    obtain ⟨r', x1, x2, x3⟩ := y_fit_ok h k (y_nY x).1 (y_nY x).2.1 (fun h1 h2 => by rw [← hx] at h1 h2 ⊢; exact (y_nY x).2.2 h1 h2)
    refine ⟨r', x1, x2, fun b j i rest n hK hty hin hj => ?_⟩
    subst hj
    refine ⟨e_sI w.1 b i.toNatClampNeg (vp_nar .byte x), ?_, y_W1_I.1, y_W1_I.2.trans x3, fun z hz => by cases hz⟩
    unfold e_str
    dsimp only
    rw [hK]
    dsimp only
    rw [if_pos hin, hty]
  · rename_i ht
    have ht : t = 0 := ht
    subst ht
    obtain ⟨x, rfl, hx⟩ := hq
    have hx : x.toInt = g_ev r e := hx
    obtain ⟨r', x1, x2, x3⟩ := y_fit_ok h k (y_nZ x).1 (y_nZ x).2.1 (fun h1 h2 => by rw [← hx] at h1 h2 ⊢; exact (y_nZ x).2.2 h1 h2)
    refine ⟨r', x1, x2, fun b j i rest n hK hty hin hj => ?_⟩
    subst hj
    refine ⟨e_sI w.1 b i.toNatClampNeg (vp_nar .boolean x), ?_, y_W1_I.1, y_W1_I.2.trans x3, fun z hz => by cases hz⟩
    unfold e_str
    dsimp only
    rw [hK]
    dsimp only
    rw [if_pos hin, hty]
  · rename_i ht
    have ht : t = 1 := ht
    subst ht
    cases h
    obtain ⟨x, rfl, hx⟩ := hq
    refine ⟨r, y_gt.rf, k, fun b j i rest n hK hty hin hj => ?_⟩
    subst hj
    refine ⟨e_sL w.1 b i.toNatClampNeg x, ?_, y_W1_L.1, y_W1_L.2.trans hx, fun z hz => by cases hz⟩
    unfold e_str
    dsimp only
    rw [hK]
    dsimp only
    rw [if_pos hin, hty]
  · rename_i C t' ht
    have ht : t = t' + 2 := ht
    subst ht
    obtain ⟨o, rfl, ho, hp⟩ := hq
    have ho : y_en o = g_ev r e := ho
    have hnull : ∀ (b : Nat) (i : Int32) (rest : List Value), e_K w.1 b = some (.inr ti) → (t_at T)[ti]? = some (.object C) → ¬ (i < 0 ∨ e_N w.1 b ≤ i.toNatClampNeg) → e_str (t_cl T) (t_at T) w.1 .aastore pc lv (.null :: .int i :: .ref b :: rest) = some ((pc + 1, lv, rest), e_sP w.1 b i.toNatClampNeg none) := by
      intro b i rest hK hty hin
      unfold e_str
      dsimp only
      rw [hK]
      dsimp only
      rw [if_pos hin, hty]
    split at h
    · rename_i he
      cases h
      have he : e = [] := g_eq_ok he
      subst he
      have hn : o = none := y_en_0.mp ho
      subst hn
      refine ⟨r, y_gt.rf, k, fun b j i rest n hK hty hin hj => ?_⟩
      subst hj
      exact ⟨_, hnull b i rest hK hty hin, y_W1_P.1, y_W1_P.2.1.trans ho, fun z _ hz => by rw [y_W1_P.2.2] at hz; cases hz⟩
    · split at h
      · rename_i ci hkt
        split at h
        · rename_i p hcl
          split at h
          · rename_i hc
            cases h
            rw [Bool.and_eq_true, Bool.or_eq_true] at hc
            have hpc := of_decide_eq_true hc.1
            refine ⟨r, y_gt.rf, k, fun b j i rest n hK hty hin hj => ?_⟩
            subst hj
            cases o with
            | none => exact ⟨_, hnull b i rest hK hty hin, y_W1_P.1, y_W1_P.2.1.trans ho, fun z _ hz => by rw [y_W1_P.2.2] at hz; cases hz⟩
            | some q =>
              have hKq := (hp q rfl _ hkt).1
              refine ⟨e_sP w.1 b i.toNatClampNeg (some q), ?_, y_W1_P.1, y_W1_P.2.1.trans ho, fun z _ hz => ?_⟩
              · show e_str (t_cl T) (t_at T) w.1 .aastore pc lv (.ref q :: .int i :: .ref b :: rest) = _
                unfold e_str
                dsimp only
                rw [hK]
                dsimp only
                rw [if_pos hin, hty]
                dsimp only
                rw [hKq]
                dsimp only
                rw [hcl]
                dsimp only
                rw [if_pos hpc]
              · rw [y_W1_P.2.2] at hz
                rcases hc.2 with h5 | h5
                · rw [← Nat.eq_of_beq_eq_true h5]
                  exact hp z hz
                · intro kd hkd
                  rw [hkd] at h5
                  cases h5
          · cases h
        · cases h
      · cases h
  · cases h
theorem y_cas_ok (hU : y_UO U) (hA : y_AO AT fp) {ins : Instr} (h : y_cas U fp N t0 T ins pc S s = some (B, s')) (k : y_DD U AT r S lv stk w) : y_CP U AT N t0 r S w B (e_str (t_cl T) (t_at T) w.1 ins pc lv stk) := by
  have h0 := k.1
  unfold y_cas at h
  split at h
  · rename_i qv i t e l hs
    split at h
    · rename_i ti hkt
      split at h
      · rename_i ty hty
        split at h
        · cases h
        · rename_i s1 hck
          split at h
          · cases h
          · rename_i hold
            rw [Bool.and_eq_true] at hold
            split at h
            · cases h
            · rename_i S1 v s2 hav
              split at h
              · cases h
              · rename_i hov
                split at h
                · cases h
                · rename_i S2 n hln
                  split at h
                  · cases h
                  · rename_i s3 hck2
                    split at h
                    · cases h
                    · rename_i S3 s4 hput
                      cases h
                      obtain ⟨val, rest1, rfl, hval, k0⟩ := y_D_po k hs
                      obtain ⟨v0, rest0, rfl, ⟨x, rfl, hx⟩, k1⟩ := y_D_po (S := y_st S ((0, i) :: (t + 2, e) :: l)) (l := (t + 2, e) :: l) k0 rfl
                      obtain ⟨v1, rest, rfl, hv1, k2⟩ := y_D_po (S := y_st S ((t + 2, e) :: l)) (l := l) k1 rfl
                      have hx : x.toInt = g_ev r i := hx
                      have hall := y_cks_ok h0 k.2.2.2.2.1 hck
                      have he1 := hall (g_ac (-1) e) List.mem_cons_self
                      have hi0 := hall i (List.mem_cons_of_mem _ List.mem_cons_self)
                      obtain ⟨b, rfl, hb, hpt⟩ := y_nn1 h0 hv1 he1
                      have hK := (hpt _ hkt).1
                      obtain ⟨r1, x1, x2, x3⟩ := y_avl_ok (w0 := w.1) (pc := pc) hav k2 hval
                      have ee1 : g_ev r1 e = g_ev r e := g_sc_ev x1.1 hold.1
                      have ei1 : g_ev r1 i = g_ev r i := g_sc_ev x1.1 hold.2
                      have hb1 : g_ev r1 (g_ac (-1) e) = b := by rw [g_ev_ac r1 x2.1, ee1, ← hb, g_ev_ac r h0]
                      obtain ⟨r2, y1, y2, y3⟩ := y_len_ok hln x2 hb1 hpt hkt
                      have hs1 : s_n S ≤ s_n S1 := x1.2.1
                      have ev2 : g_ev r2 v = g_ev r1 v := g_sc_ev y1.1 hov
                      have ee2 : g_ev r2 e = g_ev r e := g_sc_ev (fun q hq => (y1.1 q (Nat.lt_of_lt_of_le hq hs1)).trans (x1.1 q hq)) hold.1
                      have ei2 : g_ev r2 i = g_ev r i := g_sc_ev (fun q hq => (y1.1 q (Nat.lt_of_lt_of_le hq hs1)).trans (x1.1 q hq)) hold.2
                      have hlt := y_ck_ok y2.1 y2.2.2.2.2.1 hck2
                      rw [g_ev_ac r2 y2.1, g_ev_sub, ← y3, ei2, ← hx] at hlt
                      rw [← hx] at hi0
                      have hcl := y_clamp hi0
                      have hb2 : g_ev r2 (g_ac (-1) e) = b := by rw [g_ev_ac r2 y2.1, ee2, ← hb, g_ev_ac r h0]
                      obtain ⟨st', g1, g2, g3, g4⟩ := x3 b x.toNatClampNeg x rest 0 hK hty (y_inb hi0 (by omega)) rfl
                      rw [← ev2] at g3
                      obtain ⟨p1, ⟨p2, p3, p4⟩, p5, p6⟩ := y_put_ok (A := b) (K := x.toNatClampNeg) hU hA hput y2 (y_kd_lt _) hb2 (by rw [ei2, ← hx, hcl]) hK rfl g2 g3 g4
                      exact ⟨pc + 1, lv, rest, (st', w.2), S3, r2, List.mem_cons_self, ⟨fun q hq => (y1.1 q (Nat.lt_of_lt_of_le hq hs1)).trans (x1.1 q hq), by rw [p2]; exact Nat.le_trans hs1 y1.2.1⟩, p1, g1, _, p5, p6⟩
      · cases h
    · cases h
  · cases h
end Y_SA
end
