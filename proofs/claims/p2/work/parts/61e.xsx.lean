/-! PART 61e: what is read of constant Strings and of statics, in symbols -/
noncomputable section
def x_te (a b : FieldType) : Bool := match a, b with
  | .int, .int => true
  | .long, .long => true
  | .byte, .byte => true
  | _, _ => false
theorem x_te_ok {a b : FieldType} (h : x_te a b = true) : a = b := by
  unfold x_te at h
  split at h
  all_goals first | rfl | cases h
/-- an entry of an array of the world's own: at a place that is known, or anywhere -/
def x_ld (xa : Nat → Option (FieldType × Nat × (Nat → Value))) (xr : Nat → Option (Nat × Int × Int)) (ty : FieldType) (pc : Nat) (S : y_S) (s : y_Str) : Option (y_BL × y_Str) := match s_s S with
  | (0, i) :: (_ + 2, e) :: l => (match y_adr (g_ac (-1) e) with
    | some q => (match xa q with
      | some x => (match x_te x.1 ty with
        | true => (match y_adr i with
          | some k => (match Nat.blt k x.2.1, x.2.2 k with
            | true, .int z => y_on pc (y_pu (y_st S l) (0, g_c z.toInt)) s
            | true, .long z => y_on pc (y_pu (y_st S l) (1, g_c z.toInt)) s
            | _, _ => none)
          | none => (match xr q, y_cks (s_f S) s [i, g_ac (-1) (g_sub (g_c (x.2.1 : Int)) i)] with
            | some t, some s1 => (match y_sc (y_st S l) with
              | true => y_on pc (y_pu (y_nw (y_st S l) (y_rg (s_n S) t.2.1 t.2.2)) (t.1, g_s (s_n S))) s1
              | false => none)
            | _, _ => none))
        | false => none)
      | none => none)
    | none => none)
  | _ => none
def x_sx (U : y_WT) (fp : Nat → List g_LE → List y_MI) (ats : List FieldType) (N : List y_MI) (t0 : Option g_LE) (pm sf : Nat → Nat → Nat) (xa : Nat → Option (FieldType × Nat × (Nat → Value))) (xr : Nat → Option (Nat × Int × Int)) (gs sr : Nat → Nat → Option Nat) (xo : Nat → Option Nat) (si : Nat → Nat → Option Nat) (xi : Nat → Option (String × String × String × Int32)) : y_XR := fun M ins len pc S s => match ins with
  | .invokestatic idx => (match Nat.beq len 3 && Nat.beq (pm (e_mo M) idx) 5 with
    | true => x_cpy U fp ats N t0 pc S s
    | false => x_num pm M (.invokestatic idx) len pc S s)
  | .if_acmp c off => x_acm U M (.if_acmp c off) len pc S s
  | .ldc idx => (match Nat.beq len 2, sr (e_mo M) idx with
    | true, some q => y_on (pc + 2) (y_pu S (952, g_c ((q : Int) + 1))) s
    | _, _ => none)
  | .ldc_w idx => (match Nat.beq len 3, sr (e_mo M) idx with
    | true, some q => y_on (pc + 3) (y_pu S (952, g_c ((q : Int) + 1))) s
    | _, _ => none)
  | .getstatic idx => (match Nat.beq len 3 with
    | true => (match gs (e_mo M) idx with
      | some q => y_on (pc + 3) (y_pu S (960, g_c ((q : Int) + 1))) s
      | none => (match si (e_mo M) idx with
        | some k => (match xi k with
          | some x => y_on (pc + 3) (y_pu S (0, g_c x.2.2.2.toInt)) s
          | none => none)
        | none => none))
    | false => none)
  | .getfield idx => (match Nat.beq len 3, s_s S with
    | true, (_ + 2, e) :: l => (match y_adr (g_ac (-1) e) with
      | some q => (match sf (e_mo M) idx, xo q with
        | 1, some v => y_on (pc + 3) (y_pu (y_st S l) (960, g_c ((v : Int) + 1))) s
        | 2, some _ => y_on (pc + 3) (y_pu (y_st S l) (0, g_c 0)) s
        | _, _ => none)
      | none => none)
    | _, _ => none)
  | .arraylength => (match Nat.beq len 1, s_s S with
    | true, (_ + 2, e) :: l => (match y_adr (g_ac (-1) e) with
      | some q => (match xa q with
        | some x => (match Nat.blt x.2.1 2147483648 with
          | true => y_on (pc + 1) (y_pu (y_st S l) (0, g_c (x.2.1 : Int))) s
          | false => none)
        | none => none)
      | none => none)
    | _, _ => none)
  | .iaload => (match Nat.beq len 1 with
    | true => x_ld xa xr .int (pc + 1) S s
    | false => none)
  | .laload => (match Nat.beq len 1 with
    | true => x_ld xa xr .long (pc + 1) S s
    | false => none)
  | .baload => (match Nat.beq len 1 with
    | true => x_ld xa xr .byte (pc + 1) S s
    | false => none)
  | _ => none
/-- the bounds of what such an array holds -/
def x_RG (xa : Nat → Option (FieldType × Nat × (Nat → Value))) (xr : Nat → Option (Nat × Int × Int)) : Prop := ∀ q x t, xa q = some x → xr q = some t → ∀ j, j < x.2.1 → (t.1 = 0 ∧ ∃ z : Int32, x.2.2 j = .int z ∧ t.2.1 ≤ z.toInt ∧ z.toInt ≤ t.2.2) ∨ (t.1 = 1 ∧ ∃ z : Int64, x.2.2 j = .long z ∧ t.2.1 ≤ z.toInt ∧ z.toInt ≤ t.2.2)
section X_SX
variable {T : y_TB} {U : y_WT} {AT : Nat → List Int → y_W → Prop} {r r' : Nat → Int} {S S' : y_S} {lv : e_LV} {stk rest : List Value} {w w' : y_W} {s s' : y_Str} {N : List y_MI} {t0 : Option g_LE} {B : y_BL} {pc : Nat}
variable {ats : List FieldType} {pm sf : Nat → Nat → Nat} {xa : Nat → Option (FieldType × Nat × (Nat → Value))} {xr : Nat → Option (Nat × Int × Int)} {gs sr an si : Nat → Nat → Option Nat} {mn : Nat → Nat → Option (Nat × Nat)} {xo : Nat → Option Nat} {xi : Nat → Option (String × String × String × Int32)}
theorem x_ref {t q : Nat} {e : g_LE} {v : Value} {st : e_ST} {KT : Nat → Option (Nat ⊕ Nat)} {LT : Nat → Option Nat} (h0 : r 0 = 1) (h : y_dV KT LT r st (t + 2, e) v) (ha : y_adr (g_ac (-1) e) = some q) : v = .ref q := by
  obtain ⟨o, rfl, h2, -⟩ := h
  have h2 : y_en o = g_ev r e := h2
  unfold y_adr at ha
  split at ha
  · rename_i n hc
    cases ha
    have h3 := g_cst_ok h0 hc
    rw [g_ev_ac r h0] at h3
    have h4 : (Int.ofNat q) = (q : Int) := rfl
    rw [h4] at h3
    cases o with
    | none =>
      have h5 : (0 : Int) = g_ev r e := h2
      omega
    | some b =>
      rw [y_en_s] at h2
      have h6 : b = q := by omega
      rw [h6]
      rfl
  · cases ha
theorem x_idx {k : Nat} {i : g_LE} (h0 : r 0 = 1) (ha : y_adr i = some k) : g_ev r i = k := by
  unfold y_adr at ha
  split at ha
  · rename_i n hc
    cases ha
    exact g_cst_ok h0 hc
  · cases ha
theorem x_ld_ok (hxr : x_RG xa xr) {ty : FieldType} (h : x_ld xa xr ty pc S s = some (B, s')) (k : y_DD U AT r S lv stk w) : ∃ (q : Nat) (x : FieldType × Nat × (Nat → Value)) (i : Int32) (rest : List Value), stk = .int i :: .ref q :: rest ∧ xa q = some x ∧ x.1 = ty ∧ ¬ (i < 0 ∨ x.2.1 ≤ i.toNatClampNeg) ∧ e_pv (x.2.2 i.toNatClampNeg) = true ∧ ∃ S' r', (pc, S') ∈ B ∧ y_ex S S' r r' ∧ y_DD U AT r' S' lv (x.2.2 i.toNatClampNeg :: rest) w := by
  have h0 := k.1
  unfold x_ld at h
  split at h
  · rename_i i t e l hs
    obtain ⟨vi, st1, rfl, hi, k1⟩ := y_D_po k hs
    obtain ⟨ve, rest, rfl, he, k2⟩ := y_D_po (S := y_st S ((t + 2, e) :: l)) k1 rfl
    have k2 : y_DD U AT r (y_st S l) lv rest w := k2
    obtain ⟨z, rfl, hz⟩ := hi
    have hz : z.toInt = g_ev r i := hz
    split at h
    · rename_i q hq
      have hv := x_ref h0 he hq
      subst hv
      split at h
      · rename_i x hx
        split at h
        · rename_i hte
          have hte := x_te_ok hte
          split at h
          · rename_i c hc
            have hci := x_idx h0 hc
            have hnz : z.toNatClampNeg = c := by
              show z.toInt.toNat = c
              rw [hz, hci]
              rfl
            have hneg : ¬ z < 0 := fun hn => by
              have h1 := Int32.lt_iff_toInt_lt.mp hn
              have h2 : (0 : Int32).toInt = 0 := rfl
              omega
            split at h
            · rename_i y hb hy
              have hb := Nat.blt_eq.mp hb
              cases h
              refine ⟨q, x, z, rest, rfl, hx, hte, ?_, ?_, _, r, List.mem_cons_self, ⟨fun _ _ => rfl, Nat.le_refl _⟩, ?_⟩
              · rintro (h1 | h1)
                · exact hneg h1
                · omega
              · rw [hnz, hy]
                rfl
              · rw [hnz, hy]
                exact y_D_pu k2 ⟨y, rfl, (g_ev_c r h0 _).symm⟩
            · rename_i y hb hy
              have hb := Nat.blt_eq.mp hb
              cases h
              refine ⟨q, x, z, rest, rfl, hx, hte, ?_, ?_, _, r, List.mem_cons_self, ⟨fun _ _ => rfl, Nat.le_refl _⟩, ?_⟩
              · rintro (h1 | h1)
                · exact hneg h1
                · omega
              · rw [hnz, hy]
                rfl
              · rw [hnz, hy]
                exact y_D_pu k2 ⟨y, rfl, (g_ev_c r h0 _).symm⟩
            · cases h
          · split at h
            · rename_i t3 s1 ht3 hck
              split at h
              · rename_i hsc
                cases h
                have hc := y_cks_ok h0 k.2.2.2.2.1 hck
                have c1 := hc _ List.mem_cons_self
                have c2 := hc _ (List.mem_cons_of_mem _ List.mem_cons_self)
                rw [g_ev_ac r h0, g_ev_sub, g_ev_c r h0] at c2
                have hlt : z.toNatClampNeg < x.2.1 := by
                  show z.toInt.toNat < x.2.1
                  omega
                have hneg : ¬ z < 0 := fun hn => by
                  have h1 := Int32.lt_iff_toInt_lt.mp hn
                  have h2 : (0 : Int32).toInt = 0 := rfl
                  omega
                have hn0 : 0 < s_n (y_st S l) := (y_sc_s hsc).1
                rcases hxr q x t3 hx ht3 z.toNatClampNeg hlt with ⟨ht, y, hy, b1, b2⟩ | ⟨ht, y, hy, b1, b2⟩
                · obtain ⟨r', x1, x2, x3⟩ := y_nw_ok (L := y_rg (s_n S) t3.2.1 t3.2.2) hsc k2 y.toInt (fun f hf => y_rg_ok (r := y_nv r (s_n (y_st S l)) y.toInt) (n := s_n S) ((y_nv_lt hn0).trans h0) (by rw [show s_n S = s_n (y_st S l) from rfl, y_nv_at]; exact b1) (by rw [show s_n S = s_n (y_st S l) from rfl, y_nv_at]; exact b2) f hf)
                  refine ⟨q, x, z, rest, rfl, hx, hte, ?_, by rw [hy]; rfl, _, r', List.mem_cons_self, ⟨x1.1, x1.2.1⟩, ?_⟩
                  · rintro (h1 | h1)
                    · exact hneg h1
                    · omega
                  · rw [hy, ht]
                    exact y_D_pu x2 ⟨y, rfl, x3⟩
                · obtain ⟨r', x1, x2, x3⟩ := y_nw_ok (L := y_rg (s_n S) t3.2.1 t3.2.2) hsc k2 y.toInt (fun f hf => y_rg_ok (r := y_nv r (s_n (y_st S l)) y.toInt) (n := s_n S) ((y_nv_lt hn0).trans h0) (by rw [show s_n S = s_n (y_st S l) from rfl, y_nv_at]; exact b1) (by rw [show s_n S = s_n (y_st S l) from rfl, y_nv_at]; exact b2) f hf)
                  refine ⟨q, x, z, rest, rfl, hx, hte, ?_, by rw [hy]; rfl, _, r', List.mem_cons_self, ⟨x1.1, x1.2.1⟩, ?_⟩
                  · rintro (h1 | h1)
                    · exact hneg h1
                    · omega
                  · rw [hy, ht]
                    exact y_D_pu x2 ⟨y, rfl, x3⟩
              · cases h
            · cases h
        · cases h
      · cases h
    · cases h
  · cases h
theorem x_sx_ok {fp : Nat → List g_LE → List y_MI} (hU : y_UO U) (hA : y_AO AT fp) (hK : w_KT U 950 = none) (hK2 : w_KT U 958 = none) (hxr : x_RG xa xr) (ht : ∀ d, t_ex T d = x_ex ats pm xa gs sr an mn sf xo si xi) : y_XO T U AT N t0 (x_sx U fp ats N t0 pm sf xa xr gs sr xo si xi) := by
  intro d M ins len pc S s s' B r lv stk w h k
  rw [ht]
  have h0 := k.1
  unfold x_ex
  have str : ∀ (t q : Nat), w_KT U t = none → y_dV (w_KT U) (w_LT U) r w.1 (t + 2, g_c ((q : Int) + 1)) (.ref q) := by
    intro t q hKt
    refine ⟨some q, rfl, ?_, fun b _ kd hkd => ?_⟩
    · show (q : Int) + 1 = g_ev r (g_c ((q : Int) + 1))
      rw [g_ev_c r h0]
    · rw [hKt] at hkd
      cases hkd
  unfold x_sx at h
  split at h
  · rename_i idx
    split at h
    · rename_i hb
      rw [Bool.and_eq_true] at hb
      have h1 := Nat.eq_of_beq_eq_true hb.1
      have h2 := Nat.eq_of_beq_eq_true hb.2
      subst h1
      have n1 : e_pM pm M (.invokestatic idx) 3 pc lv stk w.1 = none := by
        unfold e_pM
        dsimp only
        rw [if_pos rfl, h2]
        split <;> first | rfl | contradiction | omega
      have n2 : e_pF pm M (.invokestatic idx) 3 pc lv stk w.1 = none := by
        unfold e_pF
        dsimp only
        rw [if_pos rfl, h2]
        split <;> first | rfl | contradiction | omega
      refine (x_cpy_ok hU hA h2 h k).ex fun x hx => ?_
      rw [x_or_r (by rw [x_or_r (x_x0n n1)]; exact x_x0n n2), x_or_r rfl, x_or_r rfl, x_or_r rfl]
      exact x_or_l hx
    · exact (x_num_ok h k).ex fun x hx => x_or_l hx
  · exact (x_acm_ok h k).ex fun x hx => by
      rw [x_or_r rfl]
      exact x_or_l hx
  · rename_i idx
    split at h
    · rename_i q hlen hq
      have hlen := Nat.eq_of_beq_eq_true hlen
      subst hlen
      cases h
      refine y_CP.br List.mem_cons_self ⟨fun _ _ => rfl, Nat.le_refl _⟩ (y_D_pu k (str 950 q hK)) ?_
      rw [x_or_r rfl, x_or_r rfl]
      refine x_or_l (x_x0 (x := (_, _)) ?_)
      unfold e_pR
      dsimp only
      rw [if_pos rfl, hq]
      rfl
    · cases h
  · rename_i idx
    split at h
    · rename_i q hlen hq
      have hlen := Nat.eq_of_beq_eq_true hlen
      subst hlen
      cases h
      refine y_CP.br List.mem_cons_self ⟨fun _ _ => rfl, Nat.le_refl _⟩ (y_D_pu k (str 950 q hK)) ?_
      rw [x_or_r rfl, x_or_r rfl]
      refine x_or_l (x_x0 (x := (_, _)) ?_)
      unfold e_pR
      dsimp only
      rw [if_pos rfl, hq]
      rfl
    · cases h
  · rename_i idx
    split at h
    · rename_i hlen
      have hlen := Nat.eq_of_beq_eq_true hlen
      subst hlen
      split at h
      · rename_i q hq
        cases h
        refine y_CP.br List.mem_cons_self ⟨fun _ _ => rfl, Nat.le_refl _⟩ (y_D_pu k (str 958 q hK2)) ?_
        rw [x_or_r rfl, x_or_r rfl]
        refine x_or_l (x_x0 (x := (_, _)) ?_)
        unfold e_pR
        dsimp only
        rw [if_pos rfl, hq]
        rfl
      · rename_i hg
        split at h
        · rename_i k9 hk9
          split at h
          · rename_i x hx
            cases h
            refine y_CP.br List.mem_cons_self ⟨fun _ _ => rfl, Nat.le_refl _⟩ (y_D_pu k (v := .int x.2.2.2) ⟨x.2.2.2, rfl, (g_ev_c r h0 _).symm⟩) ?_
            rw [x_or_r rfl, x_or_r rfl, x_or_r (x_x0n (by
              unfold e_pR
              dsimp only
              rw [if_pos rfl, hg]
              rfl))]
            refine x_or_l (x_x0 (x := (_, _)) ?_)
            unfold e_pG
            dsimp only
            rw [if_pos rfl, hk9]
            dsimp only
            rw [hx]
            rfl
          · cases h
        · cases h
    · cases h
  · rename_i idx
    split at h
    · rename_i t e l hlen hs
      have hlen := Nat.eq_of_beq_eq_true hlen
      subst hlen
      obtain ⟨v, rest, rfl, hv, k1⟩ := y_D_po k hs
      split at h
      · rename_i q hq
        have hv := x_ref h0 hv hq
        subst hv
        split at h
        · rename_i v9 hsf hxo
          cases h
          refine y_CP.br List.mem_cons_self ⟨fun _ _ => rfl, Nat.le_refl _⟩ (y_D_pu k1 (str 958 v9 hK2)) ?_
          rw [x_or_r rfl, x_or_r rfl, x_or_r rfl]
          refine x_or_l (x_x0 (x := (_, _)) ?_)
          unfold e_pG
          dsimp only
          rw [if_pos rfl, hsf]
          rw [hxo]
          rfl
        · rename_i v9 hsf hxo
          cases h
          refine y_CP.br List.mem_cons_self ⟨fun _ _ => rfl, Nat.le_refl _⟩ (y_D_pu k1 (v := .int 0) ⟨0, rfl, (g_ev_c r h0 _).symm⟩) ?_
          rw [x_or_r rfl, x_or_r rfl, x_or_r rfl]
          refine x_or_l (x_x0 (x := (_, _)) ?_)
          unfold e_pG
          dsimp only
          rw [if_pos rfl, hsf]
          rw [hxo]
          rfl
        · cases h
      · cases h
    · cases h
  · split at h
    · rename_i t e l hlen hs
      have hlen := Nat.eq_of_beq_eq_true hlen
      subst hlen
      obtain ⟨v, rest, rfl, hv, k1⟩ := y_D_po k hs
      split at h
      · rename_i q hq
        have hv := x_ref h0 hv hq
        subst hv
        split at h
        · rename_i x hx
          split at h
          · rename_i hb
            have hb := Nat.blt_eq.mp hb
            cases h
            refine y_CP.br List.mem_cons_self ⟨fun _ _ => rfl, Nat.le_refl _⟩ (y_D_pu k1 (v := .int (Int32.ofNat x.2.1)) ⟨_, rfl, ?_⟩) ?_
            · show (Int32.ofNat x.2.1).toInt = g_ev r (g_c (x.2.1 : Int))
              rw [g_ev_c r h0, Int32.toInt_ofNat_of_lt (by omega)]
            · rw [x_or_r rfl, x_or_r rfl]
              refine x_or_l (x_x0 (x := (_, _)) ?_)
              unfold e_pR
              dsimp only
              rw [if_pos rfl, hx]
              rfl
          · cases h
        · cases h
      · cases h
    · cases h
  · split at h
    · rename_i hlen
      have hlen := Nat.eq_of_beq_eq_true hlen
      subst hlen
      obtain ⟨q, x, i, rest, rfl, hx, hty, hb, hpv, S', r', m1, m2, m3⟩ := x_ld_ok hxr h k
      refine y_CP.br m1 m2 m3 ?_
      rw [x_or_r rfl, x_or_r rfl]
      refine x_or_l (x_x0 (x := (_, _)) ?_)
      unfold e_pR
      dsimp only
      rw [hx]
      exact if_pos ⟨rfl, hty, hpv, hb⟩
    · cases h
  · split at h
    · rename_i hlen
      have hlen := Nat.eq_of_beq_eq_true hlen
      subst hlen
      obtain ⟨q, x, i, rest, rfl, hx, hty, hb, hpv, S', r', m1, m2, m3⟩ := x_ld_ok hxr h k
      refine y_CP.br m1 m2 m3 ?_
      rw [x_or_r rfl, x_or_r rfl]
      refine x_or_l (x_x0 (x := (_, _)) ?_)
      unfold e_pR
      dsimp only
      rw [hx]
      exact if_pos ⟨rfl, hty, hpv, hb⟩
    · cases h
  · split at h
    · rename_i hlen
      have hlen := Nat.eq_of_beq_eq_true hlen
      subst hlen
      obtain ⟨q, x, i, rest, rfl, hx, hty, hb, hpv, S', r', m1, m2, m3⟩ := x_ld_ok hxr h k
      refine y_CP.br m1 m2 m3 ?_
      rw [x_or_r rfl, x_or_r rfl]
      refine x_or_l (x_x0 (x := (_, _)) ?_)
      unfold e_pR
      dsimp only
      rw [hx]
      exact if_pos ⟨rfl, hty, hpv, hb⟩
    · cases h
  · cases h
end X_SX
end
