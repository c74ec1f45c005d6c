/-! PART 44: the table of the instructions that touch a cell -/
noncomputable section
def y_cna (U : y_WT) (fp : Nat → List g_LE → List y_MI) (N : List y_MI) (t0 : Option g_LE) (T : y_TB) (at_ : ArrayType) (pc : Nat) (S : y_S) (s : y_Str) : Option (y_BL × y_Str) := match s_s S, s with
  | (0, n) :: l, ((tag, _) :: zs) :: s0 => (match e_fi (newarray.typeOf at_) (t_at T) with
    | none => none
    | some t => match y_cks (s_f S) s0 [n, g_ac 536870912 (g_k (-(componentBytes (newarray.typeOf at_) : Int)) n)] with
      | none => none
      | some s1 => match decide (newarray.typeOf at_ ≠ .float ∧ newarray.typeOf at_ ≠ .double) with
        | false => none
        | true => match y_mk U fp N t0 (y_st S l) (.inr t) n tag zs s1 with
          | none => none
          | some (S1, v, s2) => y_on (pc + 2) (y_pu S1 (tag + 2, v)) s2)
  | _, _ => none
def y_cno (U : y_WT) (fp : Nat → List g_LE → List y_MI) (N : List y_MI) (t0 : Option g_LE) (T : y_TB) (o idx pc : Nat) (S : y_S) (s : y_Str) : Option (y_BL × y_Str) := match s with
  | ((tag, _) :: zs) :: s0 => (match t_nl T o idx with
    | none => none
    | some ci => match (t_cl T)[ci]? with
      | none => none
      | some q => match y_mk U fp N t0 S (.inl ci) (g_c (q.2.2 : Int)) tag zs s0 with
        | none => none
        | some (S1, v, s2) => y_on (pc + 3) (y_pu S1 (tag + 2, v)) s2)
  | _ => none
def y_cel (U : y_WT) (fp : Nat → List g_LE → List y_MI) (N : List y_MI) (t0 : Option g_LE) (T : y_TB) (o : Nat) (ini : Option String) (ins : Instr) (pc : Nat) (S : y_S) (s : y_Str) : Option (y_BL × y_Str) := match ins with
  | .getfield idx => y_cgf U T o idx pc S s
  | .putfield idx => y_cpf U fp N t0 T o ini idx pc S s
  | .iaload => y_cal U T .iaload pc S s
  | .baload => y_cal U T .baload pc S s
  | .laload => y_cal U T .laload pc S s
  | .aaload => y_cal U T .aaload pc S s
  | .iastore => y_cas U fp N t0 T .iastore pc S s
  | .bastore => y_cas U fp N t0 T .bastore pc S s
  | .lastore => y_cas U fp N t0 T .lastore pc S s
  | .aastore => y_cas U fp N t0 T .aastore pc S s
  | .arraylength => y_cln U T pc S s
  | .newarray a => y_cna U fp N t0 T a pc S s
  | .new idx => y_cno U fp N t0 T o idx pc S s
  | .ldc idx => (match t_kI T o idx with
    | some v => y_on (pc + 2) (y_pu S (0, g_c v.toInt)) s
    | none => none)
  | .ldc_w idx => (match t_kI T o idx with
    | some v => y_on (pc + 3) (y_pu S (0, g_c v.toInt)) s
    | none => none)
  | .ldc2_w idx => (match t_kL T o idx with
    | some v => y_on (pc + 3) (y_pu S (1, g_c v.toInt)) s
    | none => none)
  | _ => none
section Y_CS
variable {U : y_WT} {AT : Nat → List Int → y_W → Prop} {fp : Nat → List g_LE → List y_MI} {T : y_TB} {M : e_M} {r r' : Nat → Int} {S S' : y_S} {lv : e_LV} {stk : List Value} {w w' : y_W} {s s' : y_Str} {N : List y_MI} {t0 : Option g_LE} {B : y_BL} {pc : Nat}
theorem y_cna_ok (hU : y_UO U) (hZ : y_UZ U) (hA : y_AO AT fp) {at_ : ArrayType} (h : y_cna U fp N t0 T at_ pc S s = some (B, s')) (k : y_DD U AT r S lv stk w) : y_CP U AT N t0 r S w B (y_eh T M (.newarray at_) pc lv stk w.1) := by
  have h0 := k.1
  unfold y_cna at h
  split at h
  · rename_i n l tag _ zs s0 hs
    split at h
    · cases h
    · rename_i t ht
      split at h
      · cases h
      · rename_i s1 hck
        split at h
        · cases h
        · rename_i hfd
          split at h
          · cases h
          · rename_i S1 v s2 hmk
            cases h
            obtain ⟨v0, rest, rfl, ⟨x, rfl, hx⟩, k1⟩ := y_D_po k hs
            have hx : x.toInt = g_ev r n := hx
            have hall := y_cks_ok h0 k.2.2.2.2.1 hck
            have hn0 := hall n List.mem_cons_self
            have hn1 := hall _ (List.mem_cons_of_mem _ List.mem_cons_self)
            rw [← hx] at hn0
            have hcl := y_clamp hn0
            rw [g_ev_ac r h0, g_ev_k, ← hx, ← hcl, Int.neg_mul] at hn1
            obtain ⟨g1, g2, ⟨g3, g4, g5⟩, g6, g7, g8⟩ := y_mk_ok (m := x.toNatClampNeg) hU hZ hA hmk k1 (by rw [← hx, hcl])
            refine ⟨pc + 2, lv, .ref (e_T w.1) :: rest, (e_new w.1 (.inr t) x.toNatClampNeg, w.2), _, r, List.mem_cons_self, ⟨fun _ _ => rfl, Nat.le_of_eq g3.symm⟩, y_D_pu g2 g6, ?_, _, g7, g8⟩
            unfold y_eh e_h
            dsimp only
            rw [ht]
            dsimp only
            have hfd2 := of_decide_eq_true hfd
            have hneg : ¬ x < 0 := fun hc => by
              have h4 : x.toInt < (0 : Int32).toInt := Int32.lt_iff_toInt_lt.mp hc
              have h5 : (0 : Int32).toInt = 0 := rfl
              omega
            have hby : x.toNatClampNeg * componentBytes (newarray.typeOf at_) ≤ 536870912 := by
              rw [Nat.mul_comm]
              have h9 : ((componentBytes (newarray.typeOf at_) * x.toNatClampNeg : Nat) : Int) ≤ ((536870912 : Nat) : Int) := by
                rw [Int.natCast_mul]
                omega
              exact Int.ofNat_le.mp h9
            rw [if_pos ⟨hneg, hby, hfd2, g1⟩]
  · cases h
theorem y_cno_ok (hU : y_UO U) (hZ : y_UZ U) (hA : y_AO AT fp) {idx : Nat} (h : y_cno U fp N t0 T (e_mo M) idx pc S s = some (B, s')) (k : y_DD U AT r S lv stk w) : y_CP U AT N t0 r S w B (y_eh T M (.new idx) pc lv stk w.1) := by
  have h0 := k.1
  unfold y_cno at h
  split at h
  · rename_i tag _ zs s0
    split at h
    · cases h
    · rename_i ci hci
      split at h
      · cases h
      · rename_i q hq
        split at h
        · cases h
        · rename_i S1 v s2 hmk
          cases h
          obtain ⟨g1, g2, ⟨g3, g4, g5⟩, g6, g7, g8⟩ := y_mk_ok (m := q.2.2) hU hZ hA hmk k (g_ev_c r h0 _)
          refine ⟨pc + 3, lv, .ref (e_T w.1) :: stk, (e_new w.1 (.inl ci) q.2.2, w.2), _, r, List.mem_cons_self, ⟨fun _ _ => rfl, Nat.le_of_eq g3.symm⟩, y_D_pu g2 g6, ?_, _, g7, g8⟩
          unfold y_eh e_h
          dsimp only
          rw [hci]
          dsimp only
          rw [hq]
          dsimp only
          rw [if_pos g1]
  · cases h
theorem y_cel_ok (hU : y_UO U) (hZ : y_UZ U) (hA : y_AO AT fp) {ins : Instr} (h : y_cel U fp N t0 T (e_mo M) (e_ini M) ins pc S s = some (B, s')) (k : y_DD U AT r S lv stk w) : y_CP U AT N t0 r S w B (y_eh T M ins pc lv stk w.1) := by
  have h0 := k.1
  unfold y_cel at h
  split at h
  · exact y_cgf_ok h k
  · exact y_cpf_ok hU hA h k
  · exact y_cal_ok h k
  · exact y_cal_ok h k
  · exact y_cal_ok h k
  · exact y_cal_ok h k
  · exact y_cas_ok hU hA h k
  · exact y_cas_ok hU hA h k
  · exact y_cas_ok hU hA h k
  · exact y_cas_ok hU hA h k
  · exact y_cln_ok h k
  · exact y_cna_ok hU hZ hA h k
  · exact y_cno_ok hU hZ hA h k
  · split at h
    · rename_i idx v hv
      refine y_CP.rd h y_ex.rf (y_D_pu k (v := .int v) ⟨_, rfl, (g_ev_c r h0 _).symm⟩) ?_
      unfold y_eh e_h
      dsimp only
      rw [hv]
    · cases h
  · split at h
    · rename_i idx v hv
      refine y_CP.rd h y_ex.rf (y_D_pu k (v := .int v) ⟨_, rfl, (g_ev_c r h0 _).symm⟩) ?_
      unfold y_eh e_h
      dsimp only
      rw [hv]
    · cases h
  · split at h
    · rename_i idx v hv
      refine y_CP.rd h y_ex.rf (y_D_pu k (v := .long v) (show y_dV _ _ _ _ (1, _) _ from ⟨_, rfl, (g_ev_c r h0 _).symm⟩)) ?_
      unfold y_eh e_h
      dsimp only
      rw [hv]
    · cases h
  · cases h
end Y_CS
end
