/-! PART 35: each of them -/
noncomputable section
section Y_FR2
variable {KT : Nat → Option (Nat ⊕ Nat)} {LT : Nat → Option Nat} {IV : y_W → Prop} {AT : Nat → List Int → y_W → Prop} {r r' : Nat → Int} {S S' : y_S} {lv : e_LV} {stk : List Value} {w : y_W} {s s' : y_Str} {B : y_BL} {pc nL : Nat}
theorem y_push {q : y_SV} {v : Value} {ins : Instr} {pc' : Nat} (h : y_on pc' (y_pu S q) s = some (B, s')) (k : y_D KT LT IV AT r S lv stk w) (hv : y_dV KT LT r w.1 q v) (he : e_s nL ins pc lv stk = some (pc', lv, v :: stk)) : y_FP KT LT IV AT r S lv stk w B nL ins pc := y_FP.on h y_ex.rf (y_D_pu k hv) he
/-- a jump that depends on t -/
theorem y_jmp {l : List y_SV} {rest : List Value} {ins : Instr} {off : Int} {g : Nat} {t : Bool} (hg : e_tg pc off = some g) (hB : ∃ S', (if t = true then g else pc + 3, S') ∈ B ∧ y_D KT LT IV AT r S' lv rest w ∧ y_ex (y_st S l) S' r r) (he : e_s nL ins pc lv stk = e_jp pc off lv rest t) : y_FP KT LT IV AT r S lv stk w B nL ins pc := by
  obtain ⟨S', h1, h2, h3⟩ := hB
  refine ⟨_, lv, rest, S', r, h1, h3, h2, ?_⟩
  rw [he]
  unfold e_jp
  rw [hg]
  rfl
theorem y_jmp' {l : List y_SV} {rest : List Value} {ins : Instr} {off : Int} {g : Nat} {t : Bool} (hg : e_tg pc off = some g) (hB : ∃ S', (if t = true then pc + 3 else g, S') ∈ B ∧ y_D KT LT IV AT r S' lv rest w ∧ y_ex (y_st S l) S' r r) (he : e_s nL ins pc lv stk = e_jp pc off lv rest (!t)) : y_FP KT LT IV AT r S lv stk w B nL ins pc := by
  refine y_jmp (l := l) (t := !t) hg ?_ he
  cases t <;> exact hB
theorem y_flo_ok {ins : Instr} (h : y_flo nL ins pc S s = some (B, s')) (k : y_D KT LT IV AT r S lv stk w) : y_FP KT LT IV AT r S lv stk w B nL ins pc := by
  have h0 := k.1
  unfold y_flo at h
  split at h
  · exact y_push h k ⟨_, rfl, (g_ev_c r h0 _).symm⟩ rfl
  · exact y_push h k ⟨_, rfl, (g_ev_c r h0 _).symm⟩ rfl
  · exact y_push h k ⟨_, rfl, (g_ev_c r h0 _).symm⟩ rfl
  · exact y_push h k (q := (1, _)) ⟨_, rfl, (g_ev_c r h0 _).symm⟩ rfl
  · exact y_push (v := .null) h k (show y_dV KT LT r w.1 (900 + 2, []) .null from ⟨none, rfl, rfl, fun b hb => by cases hb⟩) rfl
  · exact y_ldi_ok (fun _ _ => y_isI_ok) h k rfl
  · exact y_ldi_ok (fun _ _ => y_isI_ok) h k rfl
  · exact y_ldi_ok (fun _ _ => y_isL_ok) h k rfl
  · exact y_ldi_ok (fun _ _ => y_isL_ok) h k rfl
  · exact y_ldi_ok (fun _ _ => y_isA_ok) h k rfl
  · exact y_ldi_ok (fun _ _ => y_isA_ok) h k rfl
  · exact y_sti_ok (fun _ _ => y_isI_ok) h k rfl
  · exact y_sti_ok (fun _ _ => y_isI_ok) h k rfl
  · exact y_sti_ok (fun _ _ => y_isL_ok) h k rfl
  · exact y_sti_ok (fun _ _ => y_isL_ok) h k rfl
  · exact y_sti_ok (fun _ _ => y_isA_ok) h k rfl
  · exact y_sti_ok (fun _ _ => y_isA_ok) h k rfl
  · rename_i i n
    split at h
    · rename_i q hq
      split at h
      · rename_i hi
        rw [Bool.and_eq_true] at hi
        split at h
        · rename_i S1 e s1 hf
          obtain ⟨v, e1, e2⟩ := k.2.1 _ (y_lok_mem hq)
          obtain ⟨t, eq⟩ := q
          have ht : t = 0 := Nat.eq_of_beq_eq_true hi.1
          subst ht
          obtain ⟨x, rfl, hx⟩ := e2
          obtain ⟨r', j1, j2, j3⟩ := y_fit_ok hf k (y_r32 (x + Int32.ofInt n)).1 (y_r32 (x + Int32.ofInt n)).2 (fun q1 q2 => by
            rw [g_ev_ac r h0, ← hx] at q1 q2 ⊢
            exact y_i_add x (Int32.ofInt n) q1 q2)
          refine y_FP.on h (lv' := e_s1 i (.int (x + Int32.ofInt n)) lv) (stk' := stk) (r' := r') ⟨j1.1, j1.2.1⟩ (y_D_lo j2 (y_dL_s1 ⟨_, rfl, j3⟩ j2.2.1)) ?_
          show (match e_lk lv i with
            | some (.int x) => if i < nL then some (pc + 3, e_s1 i (.int (x + Int32.ofInt n)) lv, stk) else none
            | _ => none) = _
          rw [e1]
          show (if i < nL then _ else _) = _
          rw [if_pos (Nat.blt_eq.mp hi.2)]
        · cases h
      · cases h
    · cases h
  · split at h
    · rename_i q l hq
      split at h
      · rename_i hc
        obtain ⟨v, rest, rfl, hv, k1⟩ := y_D_po k hq
        refine y_FP.on h y_ex.rf (stk' := v :: v :: rest) (y_D_st k ⟨hv, hv, k1.2.2.1⟩) ?_
        exact if_pos (y_c1_ok hc hv)
      · cases h
    · cases h
  · split at h
    · rename_i q l hq
      split at h
      · rename_i hc
        obtain ⟨v, rest, rfl, hv, k1⟩ := y_D_po k hq
        refine y_FP.on h y_ex.rf (stk' := rest) k1 ?_
        exact if_pos (y_c1_ok hc hv)
      · cases h
    · cases h
  · split at h
    · rename_i q p l hq
      split at h
      · rename_i hc
        rw [Bool.and_eq_true] at hc
        obtain ⟨v, rest, rfl, hv, k1⟩ := y_D_po k hq
        obtain ⟨v2, rest2, rfl, hv2, k2⟩ := y_D_po (S := y_st S (p :: l)) (l := l) k1 rfl
        refine y_FP.on h y_ex.rf (stk' := v :: v2 :: v :: rest2) (y_D_st k ⟨hv, hv2, hv, k2.2.2.1⟩) ?_
        exact if_pos ⟨y_c1_ok hc.1 hv, y_c1_ok hc.2 hv2⟩
      · cases h
    · cases h
  · split at h
    · cases h
    · rename_i q l hq
      obtain ⟨v, rest, rfl, hv, k1⟩ := y_D_po k hq
      split at h
      · rename_i hc
        obtain ⟨t, eq⟩ := q
        have ht : t = 1 := by
          unfold y_c1 at hc
          cases hb : Nat.beq t 1 with
          | true => exact Nat.eq_of_beq_eq_true hb
          | false => rw [show Nat.beq (t, eq).1 1 = false from hb] at hc; cases hc
        subst ht
        obtain ⟨x, rfl, hx⟩ := hv
        exact y_FP.on h y_ex.rf (stk' := .long x :: .long x :: rest) (y_D_st k ⟨⟨x, rfl, hx⟩, ⟨x, rfl, hx⟩, k1.2.2.1⟩) rfl
      · rename_i hc
        split at h
        · cases h
        · rename_i p l1
          split at h
          · rename_i hc2
            obtain ⟨v2, rest2, rfl, hv2, k2⟩ := y_D_po (S := y_st S (p :: l1)) (l := l1) k1 rfl
            refine y_FP.on h y_ex.rf (stk' := v :: v2 :: v :: v2 :: rest2) (y_D_st k ⟨hv, hv2, hv, hv2, k2.2.2.1⟩) ?_
            have g1 := y_c1_ok hc hv
            have g2 := y_c1_ok hc2 hv2
            cases v with
            | long x => cases g1
            | _ => exact if_pos (And.intro g1 g2)
          · cases h
  · rename_i off
    split at h
    · rename_i g hg
      refine y_FP.on h y_ex.rf (stk' := stk) k ?_
      show e_jp pc off lv stk true = _
      unfold e_jp
      rw [hg]
      rfl
    · cases h
  · rename_i c off
    split at h
    · rename_i e l g hs hg
      obtain ⟨v, rest, rfl, ⟨x, rfl, hx⟩, k1⟩ := y_D_po k hs
      exact y_jmp (l := l) (rest := rest) hg (y_if_ok h k1 (e_cmp c x 0) (by rw [y_cmp_iff, ← hx, show (0 : Int32).toInt = 0 from rfl, Int.sub_zero])) rfl
    · cases h
  · rename_i c off
    split at h
    · rename_i e2 e1 l g hs hg
      obtain ⟨v, rest, rfl, ⟨y, rfl, hy⟩, k1⟩ := y_D_po k hs
      obtain ⟨v2, rest2, rfl, ⟨x, rfl, hx⟩, k2⟩ := y_D_po (S := y_st S ((0, e1) :: l)) (l := l) k1 rfl
      exact y_jmp (l := l) (rest := rest2) hg (y_if_ok h k2 (e_cmp c x y) (by rw [y_cmp_iff, g_ev_sub, ← hx, ← hy])) rfl
    · cases h
  · rename_i off
    split at h
    · rename_i t e l g hs hg
      obtain ⟨v, rest, rfl, ⟨o, rfl, ho, -⟩, k1⟩ := y_D_po k hs
      exact y_jmp (l := l) (rest := rest) (t := o.isNone) hg (y_nul_ok h k1 ho) (by cases o <;> rfl)
    · cases h
  · rename_i off
    split at h
    · rename_i t e l g hs hg
      obtain ⟨v, rest, rfl, ⟨o, rfl, ho, -⟩, k1⟩ := y_D_po k hs
      exact y_jmp' (l := l) (rest := rest) (t := o.isNone) hg (y_nul_ok h k1 ho) (by cases o <;> rfl)
    · cases h
  · split at h
    · rename_i e2 e1 l hs
      obtain ⟨v, rest, rfl, ⟨y, rfl, hy⟩, k1⟩ := y_D_po k hs
      obtain ⟨v2, rest2, rfl, ⟨x, rfl, hx⟩, k2⟩ := y_D_po (S := y_st S ((1, e1) :: l)) (l := l) k1 rfl
      obtain ⟨S', r', j1, j2, j3⟩ := y_lcm_ok (x := x) (y := y) h k2 (by rw [g_ev_sub, ← hx, ← hy])
      exact ⟨pc + 1, lv, _, S', r', j1, j2, j3, rfl⟩
    · cases h
  · rename_i d lo hi offs
    split at h
    · rename_i e l g hs hg
      split at h
      · rename_i hlen
        have hl := y_le2_ok hlen
        obtain ⟨v, rest, rfl, ⟨x, rfl, hx⟩, k1⟩ := y_D_po k hs
        have hx : x.toInt = g_ev r e := hx
        obtain ⟨A1, s1, B1, g1, g2, rfl⟩ := y_bb_s h
        obtain ⟨A2, s2, B2, g3, g4, rfl⟩ := y_bb_s g2
        by_cases h1 : x.toInt < lo
        · obtain ⟨i1, i2⟩ := y_br_ok g1 k1 (y_sgl (by rw [g_ev_ac r h0, g_ev_k]; omega))
          refine ⟨g, lv, rest, _, r, List.mem_append_left _ i1, y_ex.rf, i2, ?_⟩
          show (if x.toInt < lo ∨ hi < x.toInt then (e_tg pc d).map fun g => (g, lv, rest) else _) = _
          rw [if_pos (Or.inl h1), hg]
          rfl
        · by_cases h2 : hi < x.toInt
          · obtain ⟨i1, i2⟩ := y_br_ok g3 k1 (y_sgl (by rw [g_ev_ac r h0]; omega))
            refine ⟨g, lv, rest, _, r, List.mem_append_right _ (List.mem_append_left _ i1), y_ex.rf, i2, ?_⟩
            show (if x.toInt < lo ∨ hi < x.toInt then (e_tg pc d).map fun g => (g, lv, rest) else _) = _
            rw [if_pos (Or.inr h2), hg]
            rfl
          · obtain ⟨off, g', S', j1, j2, j3, j4, j5⟩ := y_tsw_ok k1 hx g4 (by omega) (by omega)
            refine ⟨g', lv, rest, S', r, List.mem_append_right _ (List.mem_append_right _ j3), j5, j4, ?_⟩
            have j6 : offs[(x.toInt - lo).toNat]? = some off := by rw [← Array.getElem?_toList]; exact j1
            show (if x.toInt < lo ∨ hi < x.toInt then (e_tg pc d).map fun g => (g, lv, rest) else match offs[(x.toInt - lo).toNat]? with
              | some off => (e_tg pc off).map fun g => (g, lv, rest)
              | none => none) = _
            rw [if_neg (by omega), j6]
            show (e_tg pc off).map _ = _
            rw [j2]
            rfl
      · cases h
    · cases h
  · rename_i d ps
    split at h
    · rename_i e l hs
      split at h
      · rename_i hsort
        obtain ⟨v, rest, rfl, ⟨x, rfl, hx⟩, k1⟩ := y_D_po k hs
        obtain ⟨g', S', j2, j3, j4, j5⟩ := y_lsw_ok k1 hx h
        refine ⟨g', lv, rest, S', r, j3, j5, j4, ?_⟩
        show (if (ps.toList.zip (ps.toList.drop 1)).all (fun (a, next) => a.1 < next.1) = true then (e_tg pc (Op.lookupswitch.offset ps.toList d x.toInt)).map fun g => (g, lv, rest) else none) = _
        rw [if_pos hsort, j2]
        rfl
      · cases h
    · cases h
  · cases h
end Y_FR2
end
