/-! PART 60: a family is shown from the ground; all rules with it -/
noncomputable section
/-- every relation of it, of any number -/
def i_pes (U : y_WT) (FS : List y_FA) (W : List y_WE) (AF : List g_LE) (S1 : y_S) (σ0 : List g_LE) : List y_RR → y_Str → Option y_Str
  | [], s => some s
  | R :: l, s => match i_pw U FS W AF 99 [] [] [] R.2 100000 S1 σ0 R.1 s with
    | some s1 => i_pes U FS W AF S1 σ0 l s1
    | none => none
/-- nothing is owed of the heap: what is not there yet holds 0 -/
def i_hc (_ : y_S) (_ : List g_LE) (_ : List y_WE) (s : y_Str) : Option y_Str := some s
def i_g7 (U : y_WT) (FS : List y_FA) (S : y_S) (f n : Nat) (s : y_Str) : Option (List y_S × y_Str) := match FS[f]?, (y_sc S && y_sc (y_nw S [])) && (Nat.beq (s.take n).length n && (s.take n).all (y_old S)) with
  | some F, true => (match i_hc S (s.take n) F.1 (s.drop n) with
    | some s1 => (match i_pes U FS F.1 (s.take n) (i_n2 S) (g_s (s_n S) :: g_s (s_n S + 1) :: s.take n) F.2 s1 with
      | some s2 => some ([y_aa S (16 * f + 15, s.take n)], s2)
      | none => none)
    | none => none)
  | _, _ => none
def i_R3 (U : y_WT) (FS : List y_FA) (fp : Nat → List g_LE → List y_MI) : y_R2 := fun c id S as s => match Nat.beq id 7 with
  | false => i_R2 U FS fp c id S as s
  | true => match as with
    | [(f, n)] => i_g7 U FS S f n.toNat s
    | _ => none
section I_ES
variable {U : y_WT} {FS : List y_FA} {n0 : Nat} {r : Nat → Int} {S S' : y_S} {lv : e_LV} {stk : List Value} {w : y_W} {s s' : y_Str} {L : List y_S}
theorem i_up99 {W : List y_WE} {AV : List Int} (hW : W.all (i_ok1 n0) = true) {ρ : y_RHO} {a q v : Int} : i_mk W AV (i_vw (i_up ρ 99 a q v)) = i_mk W AV (i_vw ρ) := by
  refine i_mk_cg fun kd b k lo hi hm _ _ => ?_
  rw [i_up_sw, if_neg]
  rintro ⟨h, -⟩
  rcases i_ok1_s (List.all_eq_true.mp hW _ hm) with ⟨hb, h1⟩ | ⟨hb, h1⟩
  · rw [i_kd_f hb] at h
    omega
  · rw [i_kd_t hb] at h
    omega
theorem i_hc_ok {A : List g_LE} {W : List y_WE} {s s' : y_Str} (_ : i_hc S A W s = some s') : i_hT W (A.map (g_ev r)) w := trivial
theorem i_pes_ok {W : List y_WE} {AF : List g_LE} {AV : List Int} (hok : i_ok FS n0 = true) (hW : W.all (i_ok1 n0) = true) {A : List Int} {S1 : y_S} {σ0 : List g_LE} (hs : i_od S1 σ0) (κ : Int) {r1 : Nat → Int} (hr : σ0.map (g_ev r1) = κ :: A) (k : y_DD U (i_AT FS n0) r1 S1 lv stk w) (hoA : i_od S1 AF) (hAV : AF.map (g_ev r1) = AV) : ∀ {l : List y_RR} {s s' : y_Str}, i_pes U FS W AF S1 σ0 l s = some s' → ∀ R ∈ l, i_at (i_mk W AV (i_vw (y_rd w))) R (κ :: A)
  | [], _, _, _, R, hR => by cases hR
  | R0 :: l, s, s', h, R, hR => by
    unfold i_pes at h
    split at h
    · rename_i s1 hpw
      rcases List.mem_cons.mp hR with hR | hR
      · rw [hR]
        have h1 := i_pw_ok (av := g_ev r1 []) (qv := g_ev r1 []) (vv := g_ev r1 []) hok hW _ _ _ _ _ _ _ hpw k hs hoA hAV rfl rfl rfl rfl rfl rfl
        rw [hr, i_up99 hW] at h1
        exact h1
      · exact i_pes_ok hok hW hs κ hr k hoA hAV h R hR
    · cases h
theorem i_g7_ok (hok : i_ok FS n0 = true) (hn0 : n0 ≤ w_NF U) {f n : Nat} (h : i_g7 U FS S f n s = some (L, s')) (k : y_DD U (i_AT FS n0) r S lv stk w) : y_GP U (i_AT FS n0) r S lv stk w L := by
  unfold i_g7 at h
  split at h
  · rename_i F hF hc
    split at h
    rotate_left
    · cases h
    rename_i s1 hhc
    split at h
    · rename_i s2 hpe
      cases h
      rw [Bool.and_eq_true, Bool.and_eq_true, Bool.and_eq_true] at hc
      obtain ⟨⟨hs, hs2⟩, -, ho⟩ := hc
      refine ⟨_, List.mem_singleton.mpr rfl, r, y_ex.rf, y_D_aa k ?_⟩
      unfold i_AT
      refine ⟨Nat.le_trans hn0 k.2.2.2.2.2.2.1.1, ?_⟩
      have e1 : (16 * f + 15) / 16 = f := by omega
      have e2 : (16 * f + 15) % 16 = 15 := by omega
      dsimp only
      rw [e1, e2, hF]
      dsimp only
      have hW := List.all_eq_true.mp hok F (List.mem_of_getElem? hF)
      refine ⟨i_hc_ok hhc, ?_⟩
      intro R hR κ μ
      obtain ⟨r1, hx, hD, hκ, hμ⟩ := i_n2_ok hs hs2 k κ μ
      have hot : i_od S (s.take n) := fun e he => List.all_eq_true.mp ho e he
      refine i_pes_ok hok hW (S1 := i_n2 S) (fun e he => ?_) κ (A := μ :: (s.take n).map (g_ev r)) ?_ hD (i_od_ex hx hot) (i_map_ex hx hot) hpe R hR
      · rcases List.mem_cons.mp he with he | he
        · rw [he]
          exact i_sc_s (Nat.lt_succ_of_lt (Nat.lt_succ_self _))
        rcases List.mem_cons.mp he with he | he
        · rw [he]
          exact i_sc_s (Nat.lt_succ_self _)
        · exact i_od_ex hx hot e he
      · rw [List.map_cons, List.map_cons, i_map_ex hx hot, g_ev_s, g_ev_s, hκ, hμ]
    · cases h
  · cases h
theorem i_R3_ok (hok : i_ok FS n0 = true) (hn0 : n0 ≤ w_NF U) : y_RO2 U (i_AT FS n0) (i_R3 U FS (i_fp FS)) := by
  intro c id S it s s' L r lv stk w h k
  unfold i_R3 at h
  split at h
  · exact i_R2_ok hok c id S it s s' L r lv stk w h k
  · split at h
    · exact y_GP2.of (i_g7_ok hok hn0 h k)
    · cases h
end I_ES
end
