/-! PART 51: a walk that ends shows what the method promises -/
noncomputable section
section Y_IN
variable {cl : List vw_C} {mt : Nat → Option e_M} {cn : Nat → Nat} {xo : Nat → Option Nat} {call : Nat → List Value → e_ST → Option e_RS} {j : Nat} {stk As ts : List Value} {st : e_ST} {M' : e_M} {b ci : Nat}
theorem y_inv0 (hmt : mt j = some M') (htk : e_take (e_mn M') stk = some (As, .ref b :: ts)) (hxo : xo b = none) (hK : e_K st b = some (.inl ci)) (h1 : (cl[ci]?).isSome = true) (h2 : cn ci = e_mo M') (h3 : e_cat ts ≤ 8) : e_inv cl mt cn xo call 0 j stk st = (call j (.ref b :: As) st).map fun r => (r, ts) := by
  unfold e_inv
  simp only [hmt, htk, hxo, hK]
  rw [if_pos ⟨h1, h2, h3⟩]
theorem y_inv0x {o : Nat} (hmt : mt j = some M') (htk : e_take (e_mn M') stk = some (As, .ref b :: ts)) (hxo : xo b = some o) (h2 : o = e_mo M') (h3 : e_cat ts ≤ 8) : e_inv cl mt cn xo call 0 j stk st = (call j (.ref b :: As) st).map fun r => (r, ts) := by
  unfold e_inv
  simp only [hmt, htk, hxo]
  rw [if_pos ⟨h2, h3⟩]
theorem y_inv1 (hmt : mt j = some M') (htk : e_take (e_mn M') stk = some (As, ts)) (h3 : e_cat ts ≤ 8) : e_inv cl mt cn xo call 1 j stk st = (call j As st).map fun r => (r, ts) := by
  unfold e_inv
  simp only [hmt, htk]
  rw [if_pos h3]
theorem y_inv2 (hmt : mt j = some M') (htk : e_take (e_mn M') stk = some (As, .ref b :: ts)) (h3 : e_cat ts ≤ 8) : e_inv cl mt cn xo call 2 j stk st = (call j (.ref b :: As) st).map fun r => (r, ts) := by
  unfold e_inv
  simp only [hmt, htk]
  rw [if_pos h3]
end Y_IN
section Y_RN
variable {T : y_TB} {U : y_WT} {AT : Nat → List Int → y_W → Prop} {fp : Nat → List g_LE → List y_MI} {RL : y_R2} {XR : y_XR} {XN : e_M → Instr → y_S → Bool} {CS : List y_CX} {M : e_M} {c : y_CX} {hd : List y_HD} {r r' r0 r1 : Nat → Int} {S S' P : y_S} {lv : e_LV} {stk : List Value} {w w' w0 : y_W} {s s' : y_Str} {σ : List g_LE} {N : List y_MI} {t0 : Option g_LE} {D : g_LE} {d pc : Nat} {F : List g_LE}
theorem y_cts_ok {st : e_ST} {KT : Nat → Option (Nat ⊕ Nat)} {LT : Nat → Option Nat} : ∀ {l : List y_SV} {vs : List Value}, y_dS KT LT r st l vs → e_cat vs = y_cts l
  | [], [], _ => rfl
  | q :: l, v :: vs, h => by
    have ih := y_cts_ok h.2
    have e1 : e_cat (v :: vs) = v.category + e_cat vs := by
      unfold e_cat
      rw [List.map_cons, List.sum_cons]
    rw [e1, ih]
    show v.category + y_cts l = (match Nat.beq q.1 1 with
      | true => 2
      | false => 1) + y_cts l
    split
    · rename_i hq
      obtain ⟨t, e⟩ := q
      have ht : t = 1 := Nat.eq_of_beq_eq_true hq
      subst ht
      obtain ⟨x, rfl, -⟩ := h.1
      rfl
    · rename_i hq
      obtain ⟨t, e⟩ := q
      have ht : t ≠ 1 := by
        intro hc
        rw [hc] at hq
        cases hq
      rw [y_cat h.1 ht]
  | [], _ :: _, h => h.elim
  | _ :: _, [], h => h.elim
theorem y_dS_take {st : e_ST} {KT : Nat → Option (Nat ⊕ Nat)} {LT : Nat → Option Nat} {n : Nat} {l : List y_SV} {vs : List Value} (h : y_dS KT LT r st l vs) : y_dS KT LT r st (l.take n) (vs.take n) ∧ y_dS KT LT r st (l.drop n) (vs.drop n) ∧ vs.length = l.length := by
  have hl : vs.length = l.length := by
    obtain ⟨us, ts, e, h1, h2, h3⟩ := y_dS_spl (l := l) (m := []) (vs := vs) (by rw [List.append_nil]; exact h)
    match ts, h2 with
    | [], _ => rw [e, List.append_nil, h3]
  have h2 := h
  rw [← List.take_append_drop n l] at h2
  obtain ⟨us, ts, e, h3, h4, h5⟩ := y_dS_spl h2
  have e1 : us.length = min n vs.length := by rw [h5, List.length_take, hl]
  have e2 : vs.take n = us := by
    rw [e]
    by_cases hn : n ≤ vs.length
    · rw [Nat.min_eq_left hn] at e1
      rw [List.take_append_of_le_length (by omega), List.take_of_length_le (by omega)]
    · rw [Nat.min_eq_right (by omega)] at e1
      have : ts.length = 0 := by
        have := congrArg List.length e
        rw [List.length_append] at this
        omega
      rw [List.length_eq_zero_iff.mp this, List.append_nil, List.take_of_length_le (by omega)]
  have e3 : vs.drop n = ts := by
    have := List.take_append_drop n vs
    rw [e2] at this
    rw [e] at this ⊢
    exact List.append_cancel_left this
  rw [e2, e3]
  exact ⟨h3, h4, hl⟩
theorem y_scr {l : List y_SV} (hs : y_sc S = true) (h : ∀ q ∈ l, q ∈ s_s S) : l.all (fun q => g_sc (s_n S) q.2) = true := by
  have h1 := (y_sc_s hs).2.2.1
  exact List.all_eq_true.mpr fun q hq => List.all_eq_true.mp h1 q (h q hq)
/-- the promise that is called by -/
theorem y_iv1_ok (hA : y_AO AT fp) {j : Nat} {args rest : List y_SV} {Bs : List y_X} {us ts : List Value} (hCS : ∀ c' ∈ CS, y_CT T U AT d c') (h : y_iv1 fp CS N t0 D j S args rest s = some (Bs, s')) (hd : g_ev r D ≤ (d : Int) + 1) (k : y_DD U AT r S lv stk w) (hargs : y_dS (w_KT U) (w_LT U) r w.1 args us) (hrest : y_dS (w_KT U) (w_LT U) r w.1 rest ts) (hsub : ∀ q ∈ rest, q ∈ s_s S) : e_cat ts ≤ 8 ∧ ∃ (res : Option (Option Value)) (w' : y_W), y_Run T d j us w.1 (res, w'.1) ∧ (∃ Mi, y_Fr r Mi w w' ∧ ∀ m ∈ Mi, ∀ {kd a k : Nat}, y_cvr r m kd a k → (∃ n ∈ N, y_cvr r n kd a k) ∨ (kd < 4 ∧ ∃ t, t0 = some t ∧ g_ev r t ≤ (a : Int))) ∧ ∃ x ∈ Bs, ∃ r2, y_ex S x.2 r r2 ∧ match x.1 with
    | 0 => ∃ v, res = some v ∧ y_DD U AT r2 x.2 lv (v.toList ++ ts) w'
    | _ => res = none ∧ y_DD U AT r2 x.2 lv ts w' := by
  unfold y_iv1 at h
  split at h
  · split at h
    · rename_i c' hc'
      split at h
      · rename_i hq
        rw [Bool.and_eq_true] at hq
        have hj := Nat.eq_of_beq_eq_true hq.1
        have hsc : y_sc S = true := by
          unfold y_cal2 at h
          split at h
          · cases h
          · split at h
            · cases h
            · rename_i hchk
              rw [Bool.and_eq_true, Bool.and_eq_true, Bool.and_eq_true, Bool.and_eq_true] at hchk
              exact hchk.2.1
        have h1 := y_cal2_ok hA h (hCS c' (List.mem_of_getElem? hc')) hd k hargs hrest (y_scr hsc hsub)
        rw [hj] at h1
        refine ⟨?_, h1⟩
        rw [y_cts_ok hrest]
        exact Nat.le_of_ble_eq_true hq.2
      · cases h
    · cases h
  · cases h
/-- what an invocation is: a call, or nothing -/
theorem y_ivk_ok (hA : y_AO AT fp) (hXO : ∀ q o, t_xo T q = some o → e_lim ≤ q) (hCS : ∀ c' ∈ CS, y_CT T U AT d c') {ins : Instr} {len : Nat} {Bs : List y_X} (h : y_ivk U fp T CS M N t0 D ins S s = some (Bs, s')) (hx : t_ex T d M ins len pc lv stk w.1 = none) (hl : len = 3) (hd : g_ev r D ≤ (d : Int) + 1) (k : y_DD U AT r S lv stk w) : ∃ (res : Option (Option Value)) (w' : y_W) (ts : List Value), (∃ fu, y_N T d (y_C T fu d) M ins len pc lv stk w.1 = some (e_bk pc lv ((res, w'.1), ts))) ∧ (∃ Mi, y_Fr r Mi w w' ∧ ∀ m ∈ Mi, ∀ {kd a k : Nat}, y_cvr r m kd a k → (∃ n ∈ N, y_cvr r n kd a k) ∨ (kd < 4 ∧ ∃ t, t0 = some t ∧ g_ev r t ≤ (a : Int))) ∧ ∃ x ∈ Bs, ∃ r2, y_ex S x.2 r r2 ∧ match x.1 with
    | 0 => ∃ v, res = some v ∧ y_DD U AT r2 x.2 lv (v.toList ++ ts) w'
    | _ => res = none ∧ y_DD U AT r2 x.2 lv ts w' := by
  have h0 := k.1
  have hst := k.2.2.1
  have hdrop : ∀ n, ∀ q ∈ (s_s S).drop n, q ∈ s_s S := fun n q hq => List.mem_of_mem_drop hq
  unfold y_ivk at h
  split at h
  · rename_i idx
    split at h
    · rename_i j hml
      split at h
      · cases h
      · rename_i M' hmt
        split at h
        · rename_i t e rest hlen hdr
          split at h
          · rename_i ci hkt
            split at h
            · rename_i s1 hcl hck
              rw [Bool.and_eq_true] at hcl
              have hlen := Nat.le_of_ble_eq_true hlen
              obtain ⟨d1, d2, d3⟩ := y_dS_take (n := e_mn M') hst
              rw [hdr] at d2
              obtain ⟨v, ts, hts, hv, hrest⟩ : ∃ v ts, stk.drop (e_mn M') = v :: ts ∧ y_dV (w_KT U) (w_LT U) r w.1 (t + 2, e) v ∧ y_dS (w_KT U) (w_LT U) r w.1 rest ts := by
                match hq : stk.drop (e_mn M'), d2 with
                | v :: ts, d2 => first | exact ⟨v, ts, hq, d2.1, d2.2⟩ | exact ⟨v, ts, rfl, d2.1, d2.2⟩
                | [], d2 => exact d2.elim
              obtain ⟨b, rfl, hb, hpt⟩ := y_nn1 h0 hv (y_ck_ok h0 k.2.2.2.2.1 hck)
              have hKb := (hpt _ hkt).1
              have hargs : y_dS (w_KT U) (w_LT U) r w.1 ((t + 2, e) :: ((s_s S).take (e_mn M')).reverse) (.ref b :: (stk.take (e_mn M')).reverse) := ⟨hv, y_dS_rev d1⟩
              obtain ⟨hcat, res, w', hrun, hfr, hxs⟩ := y_iv1_ok hA hCS h hd k hargs hrest (fun q hq => hdrop _ q (by rw [hdr]; exact List.mem_cons_of_mem _ hq))
              obtain ⟨fu, hfu⟩ := hrun
              refine ⟨res, w', ts, ⟨fu, y_N_c (how := 0) hx (Or.inl ⟨rfl, rfl⟩) hml hl ?_⟩, hfr, hxs⟩
              have hI := k.2.2.2.2.2.2
              have hxo : t_xo T b = none := by
                cases hq : t_xo T b with
                | none => rfl
                | some o =>
                  have h1 := hXO b o hq
                  have h2 := (hI.2.2 b _ hKb).1
                  have h3 := hI.2.1
                  omega
              have htk : e_take (e_mn M') stk = some ((stk.take (e_mn M')).reverse, .ref b :: ts) := by
                unfold e_take
                rw [if_pos (by omega), hts]
              rw [y_inv0 hmt htk hxo hKb hcl.1 (Nat.eq_of_beq_eq_true hcl.2) hcat, hfu]
              rfl
            · cases h
          · cases h
          · split at h
            · rename_i s1 hxw hck
              have hlen := Nat.le_of_ble_eq_true hlen
              obtain ⟨d1, d2, d3⟩ := y_dS_take (n := e_mn M') hst
              rw [hdr] at d2
              obtain ⟨v, ts, hts, hv, hrest⟩ : ∃ v ts, stk.drop (e_mn M') = v :: ts ∧ y_dV (w_KT U) (w_LT U) r w.1 (t + 2, e) v ∧ y_dS (w_KT U) (w_LT U) r w.1 rest ts := by
                match hq : stk.drop (e_mn M'), d2 with
                | v :: ts, d2 => first | exact ⟨v, ts, hq, d2.1, d2.2⟩ | exact ⟨v, ts, rfl, d2.1, d2.2⟩
                | [], d2 => exact d2.elim
              obtain ⟨b, rfl, hb, hpt⟩ := y_nn1 h0 hv (y_ck_ok h0 k.2.2.2.2.1 hck)
              have hargs : y_dS (w_KT U) (w_LT U) r w.1 ((t + 2, e) :: ((s_s S).take (e_mn M')).reverse) (.ref b :: (stk.take (e_mn M')).reverse) := ⟨hv, y_dS_rev d1⟩
              obtain ⟨hcat, res, w', hrun, hfr, hxs⟩ := y_iv1_ok hA hCS h hd k hargs hrest (fun q hq => hdrop _ q (by rw [hdr]; exact List.mem_cons_of_mem _ hq))
              obtain ⟨fu, hfu⟩ := hrun
              refine ⟨res, w', ts, ⟨fu, y_N_c (how := 0) hx (Or.inl ⟨rfl, rfl⟩) hml hl ?_⟩, hfr, hxs⟩
              have htk : e_take (e_mn M') stk = some ((stk.take (e_mn M')).reverse, .ref b :: ts) := by
                unfold e_take
                rw [if_pos (by omega), hts]
              unfold y_xow at hxw
              split at hxw
              · rename_i q hq
                split at hxw
                · rename_i o' hxo
                  have e1 := y_adr_ok h0 hq
                  have e2 : q = b := by omega
                  subst e2
                  rw [y_inv0x hmt htk hxo (Nat.eq_of_beq_eq_true hxw) hcat, hfu]
                  rfl
                · cases hxw
              · cases hxw
            · cases h
        · cases h
    · cases h
  · rename_i idx
    split at h
    · rename_i j hml
      split at h
      · cases h
      · rename_i M' hmt
        split at h
        · rename_i hlen
          have hlen := Nat.le_of_ble_eq_true hlen
          obtain ⟨d1, d2, d3⟩ := y_dS_take (n := e_mn M') hst
          obtain ⟨hcat, res, w', hrun, hfr, hxs⟩ := y_iv1_ok hA hCS h hd k (y_dS_rev d1) d2 (hdrop _)
          obtain ⟨fu, hfu⟩ := hrun
          refine ⟨res, w', stk.drop (e_mn M'), ⟨fu, y_N_c (how := 1) hx (Or.inr (Or.inl ⟨rfl, rfl⟩)) hml hl ?_⟩, hfr, hxs⟩
          have htk : e_take (e_mn M') stk = some ((stk.take (e_mn M')).reverse, stk.drop (e_mn M')) := by
            unfold e_take
            rw [if_pos (by omega)]
          rw [y_inv1 hmt htk hcat, hfu]
          rfl
        · cases h
    · cases h
  · rename_i idx
    split at h
    · rename_i j hml
      split at h
      · cases h
      · rename_i M' hmt
        split at h
        · rename_i t e rest hlen hdr
          split at h
          · rename_i s1 hck
            have hlen := Nat.le_of_ble_eq_true hlen
            obtain ⟨d1, d2, d3⟩ := y_dS_take (n := e_mn M') hst
            rw [hdr] at d2
            obtain ⟨v, ts, hts, hv, hrest⟩ : ∃ v ts, stk.drop (e_mn M') = v :: ts ∧ y_dV (w_KT U) (w_LT U) r w.1 (t + 2, e) v ∧ y_dS (w_KT U) (w_LT U) r w.1 rest ts := by
              match hq : stk.drop (e_mn M'), d2 with
              | v :: ts, d2 => first | exact ⟨v, ts, hq, d2.1, d2.2⟩ | exact ⟨v, ts, rfl, d2.1, d2.2⟩
              | [], d2 => exact d2.elim
            obtain ⟨b, rfl, hb, hpt⟩ := y_nn1 h0 hv (y_ck_ok h0 k.2.2.2.2.1 hck)
            have hargs : y_dS (w_KT U) (w_LT U) r w.1 ((t + 2, e) :: ((s_s S).take (e_mn M')).reverse) (.ref b :: (stk.take (e_mn M')).reverse) := ⟨hv, y_dS_rev d1⟩
            obtain ⟨hcat, res, w', hrun, hfr, hxs⟩ := y_iv1_ok hA hCS h hd k hargs hrest (fun q hq => hdrop _ q (by rw [hdr]; exact List.mem_cons_of_mem _ hq))
            obtain ⟨fu, hfu⟩ := hrun
            refine ⟨res, w', ts, ⟨fu, y_N_c (how := 2) hx (Or.inr (Or.inr ⟨rfl, rfl⟩)) hml hl ?_⟩, hfr, hxs⟩
            have htk : e_take (e_mn M') stk = some ((stk.take (e_mn M')).reverse, .ref b :: ts) := by
              unfold e_take
              rw [if_pos (by omega), hts]
            rw [y_inv2 hmt htk hcat, hfu]
            rfl
          · cases h
        · cases h
    · rename_i j hml
      split at h
      · rename_i t e l hs
        split at h
        · rename_i s1 hck hcat
          cases h
          obtain ⟨v, rest, rfl, hv, k1⟩ := y_D_po k hs
          obtain ⟨b, rfl, hb, hpt⟩ := y_nn1 h0 hv (y_ck_ok h0 k.2.2.2.2.1 hck)
          refine ⟨some none, w, rest, ⟨0, ?_⟩, ⟨[], y_Fr.rf, fun m hm => by cases hm⟩, (0, y_st S l), List.mem_cons_self, r, ⟨fun _ _ => rfl, Nat.le_refl _⟩, none, rfl, k1⟩
          exact y_N_9 hx hml hl (by rw [y_cts_ok k1.2.2.1]; exact Nat.le_of_ble_eq_true hcat)
        · cases h
      · cases h
    · cases h
  · cases h
end Y_RN
end
