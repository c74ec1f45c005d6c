/-! PART 34: the instructions that touch no cell are done -/
noncomputable section
section Y_FQ
variable {KT : Nat → Option (Nat ⊕ Nat)} {LT : Nat → Option Nat} {IV : y_W → Prop} {AT : Nat → List Int → y_W → Prop} {r r' : Nat → Int} {S S' : y_S} {lv : e_LV} {stk : List Value} {w : y_W} {s s' : y_Str} {B : y_BL} {pc nL : Nat}
theorem y_dV_i {q : y_SV} {x : Int32} {st : e_ST} {e : g_LE} (hq : q = (0, e)) (h : x.toInt = g_ev r e) : y_dV KT LT r st q (.int x) := by
  subst hq
  exact ⟨x, rfl, h⟩
theorem y_dV_l {q : y_SV} {x : Int64} {st : e_ST} {e : g_LE} (hq : q = (1, e)) (h : x.toInt = g_ev r e) : y_dV KT LT r st q (.long x) := by
  subst hq
  exact ⟨x, rfl, h⟩
theorem y_bp_ok {q : y_SV} {v : Value} {L : List g_LE} {p : Nat} (h : y_bp S q L p s = some (B, s')) (k : y_D KT LT IV AT r S lv stk w) (hv : y_dV KT LT r w.1 q v) (hL : ∀ f ∈ L, 0 ≤ g_ev r f) : (p, y_af (y_pu S q) L) ∈ B ∧ y_D KT LT IV AT r (y_af (y_pu S q) L) lv (v :: stk) w := y_br_ok h (y_D_pu k hv) hL
theorem y_cmpv (x y : Int64) : (x.toInt < y.toInt → lg_cmp x y = -1) ∧ (x.toInt = y.toInt → lg_cmp x y = 0) ∧ (y.toInt < x.toInt → lg_cmp x y = 1) := by
  unfold lg_cmp
  have h1 : (x > y) ↔ y.toInt < x.toInt := Int64.lt_iff_toInt_lt
  have h2 : x = y ↔ x.toInt = y.toInt := Int64.toInt_inj.symm
  refine ⟨fun h => ?_, fun h => ?_, fun h => ?_⟩
  · rw [if_neg (by rw [h1]; omega), if_neg (by rw [h2]; omega)]
  · rw [if_neg (by rw [h1]; omega), if_pos (h2.mpr h)]
  · rw [if_pos (h1.mpr h)]
theorem y_ev_nil {r : Nat → Int} : g_ev r [] = 0 := rfl
theorem y_lcm_ok {d : g_LE} {p : Nat} {x y : Int64} (h : y_lcm S d p s = some (B, s')) (k : y_D KT LT IV AT r S lv stk w) (hd : g_ev r d = x.toInt - y.toInt) : ∃ S' r', (p, S') ∈ B ∧ y_ex S S' r r' ∧ y_D KT LT IV AT r' S' lv (.int (lg_cmp x y) :: stk) w := by
  have h0 := k.1
  obtain ⟨c1, c2, c3⟩ := y_cmpv x y
  have m1 : x.toInt < y.toInt → y_dV KT LT r w.1 (0, g_c (-1)) (.int (lg_cmp x y)) := fun h => ⟨_, rfl, by rw [c1 h, g_ev_c r h0]; rfl⟩
  have m2 : x.toInt = y.toInt → y_dV KT LT r w.1 (0, []) (.int (lg_cmp x y)) := fun h => ⟨_, rfl, by rw [c2 h]; rfl⟩
  have m3 : y.toInt < x.toInt → y_dV KT LT r w.1 (0, g_c 1) (.int (lg_cmp x y)) := fun h => ⟨_, rfl, by rw [c3 h, g_ev_c r h0]; rfl⟩
  unfold y_lcm at h
  split at h
  · rename_i c hc
    have hz := g_cst_ok h0 hc
    split at h
    · rename_i hq
      cases h
      exact ⟨_, r, List.mem_cons_self, y_ex.rf, y_D_pu k (m2 (by have := g_z_ok hq; omega))⟩
    · rename_i hq
      have hne : c ≠ 0 := fun hc0 => by rw [g_z_iff.mpr hc0] at hq; cases hq
      split at h
      · rename_i hq2
        cases h
        exact ⟨_, r, List.mem_cons_self, y_ex.rf, y_D_pu k (m3 (by have := g_nn_ok hq2; omega))⟩
      · rename_i hq2
        cases h
        have hlt : ¬ 0 ≤ c := fun hc0 => by rw [g_nn_iff.mpr hc0] at hq2; cases hq2
        exact ⟨_, r, List.mem_cons_self, y_ex.rf, y_D_pu k (m1 (by omega))⟩
  · split at h
    · obtain ⟨A1, s1, B1, g1, g2, rfl⟩ := y_bb_s h
      obtain ⟨A2, s2, B2, g3, g4, rfl⟩ := y_bb_s g2
      rcases Int.lt_trichotomy x.toInt y.toInt with hl | hl | hl
      · obtain ⟨i1, i2⟩ := y_bp_ok g1 k (m1 hl) (y_sgl (by rw [g_ev_ac r h0, g_ev_k]; omega))
        exact ⟨_, r, List.mem_append_left _ i1, y_ex.rf, i2⟩
      · obtain ⟨i1, i2⟩ := y_bp_ok g3 k (m2 hl) (y_dbl (by omega) (by rw [g_ev_k]; omega))
        exact ⟨_, r, List.mem_append_right _ (List.mem_append_left _ i1), y_ex.rf, i2⟩
      · obtain ⟨i1, i2⟩ := y_bp_ok g4 k (m3 hl) (y_sgl (by rw [g_ev_ac r h0]; omega))
        exact ⟨_, r, List.mem_append_right _ (List.mem_append_right _ i1), y_ex.rf, i2⟩
    · split at h
      · rename_i hs
        rw [Bool.and_eq_true] at hs
        obtain ⟨A1, s1, B1, g1, g2, rfl⟩ := y_bb_s h
        by_cases hl : x.toInt < y.toInt
        · obtain ⟨i1, i2⟩ := y_bp_ok g1 k (m1 hl) (y_sgl (by rw [g_ev_ac r h0, g_ev_k]; omega))
          exact ⟨_, r, List.mem_append_left _ i1, y_ex.rf, i2⟩
        · have hb : 0 ≤ (lg_cmp x y).toInt ∧ (lg_cmp x y).toInt ≤ 1 := by
            by_cases he : x.toInt = y.toInt
            · rw [c2 he]; decide
            · rw [c3 (by omega)]; decide
          have hn : 0 < s_n S := (y_sc_s hs.1).1
          obtain ⟨r', j1, j2, j3⟩ := y_nw_ok hs.1 k (lg_cmp x y).toInt (y_rg_ok ((y_nv_lt hn).trans h0) (by rw [y_nv_at]; exact hb.1) (by rw [y_nv_at]; exact hb.2))
          obtain ⟨i1, i2⟩ := y_bp_ok g2 j2 (v := .int (lg_cmp x y)) ⟨_, rfl, j3⟩ (y_sgl (by rw [g_sc_ev j1.1 hs.2]; omega))
          exact ⟨_, r', List.mem_append_right _ i1, ⟨j1.1, j1.2.1⟩, i2⟩
      · cases h
    · split at h
      · rename_i hs
        rw [Bool.and_eq_true] at hs
        obtain ⟨A1, s1, B1, g1, g2, rfl⟩ := y_bb_s h
        by_cases hl : y.toInt < x.toInt
        · obtain ⟨i1, i2⟩ := y_bp_ok g1 k (m3 hl) (y_sgl (by rw [g_ev_ac r h0]; omega))
          exact ⟨_, r, List.mem_append_left _ i1, y_ex.rf, i2⟩
        · have hb : -1 ≤ (lg_cmp x y).toInt ∧ (lg_cmp x y).toInt ≤ 0 := by
            by_cases he : x.toInt = y.toInt
            · rw [c2 he]; decide
            · rw [c1 (by omega)]; decide
          have hn : 0 < s_n S := (y_sc_s hs.1).1
          obtain ⟨r', j1, j2, j3⟩ := y_nw_ok hs.1 k (lg_cmp x y).toInt (y_rg_ok ((y_nv_lt hn).trans h0) (by rw [y_nv_at]; exact hb.1) (by rw [y_nv_at]; exact hb.2))
          obtain ⟨i1, i2⟩ := y_bp_ok g2 j2 (v := .int (lg_cmp x y)) ⟨_, rfl, j3⟩ (y_sgl (by rw [g_ev_k, g_sc_ev j1.1 hs.2]; omega))
          exact ⟨_, r', List.mem_append_right _ i1, ⟨j1.1, j1.2.1⟩, i2⟩
      · cases h
    · cases h
theorem y_tsw_ok {e : g_LE} {x : Int} (k : y_D KT LT IV AT r S lv stk w) (hx : x = g_ev r e) : ∀ {l : List Int} {q : Int} {s s' : y_Str} {B : y_BL}, y_tsw S e pc q l s = some (B, s') → q ≤ x → x < q + l.length → ∃ off g S', l[(x - q).toNat]? = some off ∧ e_tg pc off = some g ∧ (g, S') ∈ B ∧ y_D KT LT IV AT r S' lv stk w ∧ y_ex S S' r r
  | [], q, s, s', B, h, h1, h2 => by
    rw [List.length_nil] at h2
    omega
  | o :: l, q, s, s', B, h, h1, h2 => by
    have h0 := k.1
    unfold y_tsw at h
    split at h
    · cases h
    · rename_i g hg
      obtain ⟨A1, s1, B1, g1, g2, rfl⟩ := y_bb_s h
      by_cases he : x = q
      · obtain ⟨i1, i2⟩ := y_br_ok g1 k (y_dbl (by rw [g_ev_ac r h0]; omega) (by rw [g_ev_ac r h0, g_ev_k]; omega))
        refine ⟨o, g, _, ?_, hg, List.mem_append_left _ i1, i2, fun _ _ => rfl, Nat.le_refl _⟩
        rw [he, Int.sub_self]
        rfl
      · rw [List.length_cons] at h2
        obtain ⟨off, g', S', j1, j2, j3, j4, j5⟩ := y_tsw_ok k hx g2 (by omega) (by omega)
        refine ⟨off, g', S', ?_, j2, List.mem_append_right _ j3, j4, j5⟩
        rw [show (x - q).toNat = (x - (q + 1)).toNat + 1 by omega, List.getElem?_cons_succ]
        exact j1
theorem y_lsw_ok {e : g_LE} {x d : Int} (k : y_D KT LT IV AT r S lv stk w) (hx : x = g_ev r e) : ∀ {l : List (Int × Int)} {s s' : y_Str} {B : y_BL}, y_lsw S e pc d l s = some (B, s') → ∃ g S', e_tg pc (Op.lookupswitch.offset l d x) = some g ∧ (g, S') ∈ B ∧ y_D KT LT IV AT r S' lv stk w ∧ y_ex S S' r r
  | [], s, s', B, h => by
    unfold y_lsw at h
    split at h
    · cases h
    · rename_i g hg
      obtain ⟨i1, i2⟩ := y_br_ok h k (fun f hf => by cases hf)
      exact ⟨g, _, hg, i1, i2, fun _ _ => rfl, Nat.le_refl _⟩
  | p :: l, s, s', B, h => by
    have h0 := k.1
    unfold y_lsw at h
    split at h
    · cases h
    · rename_i g hg
      obtain ⟨A1, s1, B1, g1, g2, rfl⟩ := y_bb_s h
      by_cases he : p.1 = x
      · obtain ⟨i1, i2⟩ := y_br_ok g1 k (y_dbl (by rw [g_ev_ac r h0]; omega) (by rw [g_ev_ac r h0, g_ev_k]; omega))
        refine ⟨g, _, ?_, List.mem_append_left _ i1, i2, fun _ _ => rfl, Nat.le_refl _⟩
        have e1 : Op.lookupswitch.offset (p :: l) d x = p.2 := by
          rw [show p = (p.1, p.2) from rfl, Op.lookupswitch.offset_cons, if_pos he]
        rw [e1]
        exact hg
      · obtain ⟨g', S', j2, j3, j4, j5⟩ := y_lsw_ok k hx g2
        refine ⟨g', S', ?_, List.mem_append_right _ j3, j4, j5⟩
        have e1 : Op.lookupswitch.offset (p :: l) d x = Op.lookupswitch.offset l d x := by
          rw [show p = (p.1, p.2) from rfl, Op.lookupswitch.offset_cons, if_neg he]
        rw [e1]
        exact j2
end Y_FQ
end
