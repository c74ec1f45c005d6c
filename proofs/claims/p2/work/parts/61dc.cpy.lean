/-! PART 61dc: System.arraycopy, in symbols -/
noncomputable section
/-- bounds of what comes imply bounds of where it goes -/
def x_imp (s t : Option (Int × Int)) : Bool := match t with
  | none => true
  | some (l, h) => match s with
    | some (l', h') => decide (l ≤ l') && decide (h' ≤ h)
    | none => false
def x_ims (L : List (Option (Int × Int))) (t : Option (Int × Int)) : Bool := L.any fun s => x_imp s t
/-- the bounds of what stands in the source -/
def x_src (U : y_WT) (c : Nat ⊕ Nat) (a : g_LE) : List (Option (Int × Int)) := w_RG U 0 none c 0 :: (match y_adr a with
  | some B => [w_RG U 0 (some B) c 0]
  | none => [])
/-- the bounds of the target hold for what comes -/
def x_cpw (U : y_WT) (c : Nat ⊕ Nat) (L : List (Option (Int × Int))) (a : g_LE) (F : List g_LE) (ms : List y_ME) (s : y_Str) : Option y_Str := match y_adr a with
  | some A => (match x_ims L (w_RG U 0 (some A) c 0) with
    | true => some s
    | false => none)
  | none => match s with
    | [(_, .ofNat _)] :: s1 => y_ck F s1 (g_ac (-(w_NF U : Int)) a)
    | [(lo, .negSucc 7), (n, _)] :: s1 => (match (List.range n).all fun i => x_ims L (w_RG U 0 (some (lo + i)) c 0) with
      | true => y_cks F s1 [g_ac (-(lo : Int)) a, g_ac ((lo : Int) + (n : Int) - 1) (g_k (-1) a)]
      | false => none)
    | [(_, .negSucc 8), _] :: s1 => (match y_ent ms 3 a [] with
      | some Le => (match y_adr Le with
        | some n' => (match y_rgn U 0 c 0 (n' : Int) with
          | true => some s1
          | false => none)
        | none => none)
      | none => none)
    | _ => none
/-- how long an array is, as it is written down -/
def x_cln (U : y_WT) (t : Nat) (c : Nat ⊕ Nat) (a : g_LE) (ms : List y_ME) : Option g_LE := match w_LT U t with
  | some n => some (g_c (n : Int))
  | none => match w_RG U 3 (y_adr a) c 0 with
    | some (lo, hi) => (match g_ieq lo hi with
      | true => some (g_c lo)
      | false => y_ent ms 3 a [])
    | none => y_ent ms 3 a []
/-- what is copied fits -/
def x_fib (U : y_WT) (ats : List FieldType) (ti : Nat) : Bool := match ats[ti]? with
  | some .int => true
  | some .byte => x_imp (w_RG U 0 none (.inr ti) 0) (some (-128, 127))
  | _ => false
def x_cpi (d dp k : g_LE) : List y_MI := [(0, g_ac (-1) d, g_ac (-1) d, some (dp, g_ac (-1) (g_add dp k)))]
def x_cpy (U : y_WT) (fp : Nat → List g_LE → List y_MI) (ats : List FieldType) (N : List y_MI) (t0 : Option g_LE) (pc : Nat) (S : y_S) (s : y_Str) : Option (y_BL × y_Str) := match s_s S with
  | (0, k) :: (0, dp) :: (t + 2, d) :: (0, sp) :: (t1 + 2, e) :: l => (match Nat.ble (y_cts l) 8, w_KT U t, w_KT U t1 with
    | true, some (.inr ti), some (.inr ti1) => (match Nat.beq ti ti1 && x_fib U ats ti, x_cln U t (.inr ti) (g_ac (-1) d) (s_m S), x_cln U t1 (.inr ti1) (g_ac (-1) e) (s_m S) with
      | true, some ld, some ls => (match y_cks (s_f S) s [g_ac (-1) e, g_ac (-1) d, sp, dp, k, g_sub (g_sub ls sp) k, g_sub (g_sub ld dp) k] with
        | none => none
        | some s1 => match x_cpw U (.inr ti) (x_src U (.inr ti) (g_ac (-1) e)) (g_ac (-1) d) (s_f S) (s_m S) s1 with
          | none => none
          | some s2 => match y_covs (s_f S) N t0 (x_cpi d dp k) s2 with
            | none => none
            | some s3 => match y_flt (s_f S) (x_cpi d dp k) (s_m S) s3 with
              | none => none
              | some (ms, s4) => match y_fla fp (s_f S) (x_cpi d dp k) (s_a S) s4 with
                | none => none
                | some (as, s5) => y_on (pc + 3) (y_chS (y_st S l) ms as) s5)
      | _, _, _ => none)
    | _, _, _ => none)
  | _ => none
section X_CY
variable {T : y_TB} {U : y_WT} {AT : Nat → List Int → y_W → Prop} {fp : Nat → List g_LE → List y_MI} {r r' : Nat → Int} {S S' : y_S} {lv : e_LV} {stk rest : List Value} {w w' : y_W} {s s' : y_Str} {N : List y_MI} {t0 : Option g_LE} {B : y_BL} {pc : Nat} {ats : List FieldType}
theorem x_ims_ok {L : List (Option (Int × Int))} {t : Option (Int × Int)} (h : x_ims L t = true) {v : Int} (hv : ∀ q ∈ L, ∀ l h, q = some (l, h) → l ≤ v ∧ v ≤ h) {lo hi : Int} (ht : t = some (lo, hi)) : lo ≤ v ∧ v ≤ hi := by
  subst ht
  obtain ⟨q, hq, h1⟩ := List.any_eq_true.mp h
  cases q with
  | none =>
    have h1 : false = true := h1
    cases h1
  | some q =>
    obtain ⟨a, b⟩ := q
    have h1 : (decide (lo ≤ a) && decide (b ≤ hi)) = true := h1
    rw [Bool.and_eq_true] at h1
    have h2 := of_decide_eq_true h1.1
    have h3 := of_decide_eq_true h1.2
    have h4 := hv _ hq a b rfl
    omega
theorem x_cpw_ok (hU : y_UO U) (h0 : r 0 = 1) (hI : y_IV U w) {ms : List y_ME} (hm : ∀ m ∈ ms, y_dM r w m) {F : List g_LE} (hF : g_FF r F) {c : Nat ⊕ Nat} {L : List (Option (Int × Int))} {a : g_LE} {A : Nat} (h : x_cpw U c L a F ms s = some s') (ha : g_ev r a = A) (hK : e_K w.1 A = some c) (hL : w_RG U 0 none c 0 ∈ L) {v : Int} (hv : ∀ q ∈ L, ∀ l h, q = some (l, h) → l ≤ v ∧ v ≤ h) {lo hi : Int} (hq : w_RG U 0 (some A) c 0 = some (lo, hi)) : lo ≤ v ∧ v ≤ hi := by
  unfold x_cpw at h
  split at h
  · rename_i A' hA'
    have h1 := y_adr_ok h0 hA'
    rw [ha] at h1
    have h1 : A = A' := h1
    subst h1
    split at h
    · rename_i h2
      exact x_ims_ok h2 hv hq
    · cases h
  · split at h
    · have h2 := y_ck_ok h0 hF h
      rw [g_ev_ac r h0, ha] at h2
      rw [hU.2 A (by omega)] at hq
      exact hv _ hL _ _ hq
    · rename_i lo0 n0 z0 s1
      split at h
      · rename_i h2
        have g := y_cks_ok h0 hF h
        have g1 := g _ List.mem_cons_self
        have g2 := g _ (List.mem_cons_of_mem _ List.mem_cons_self)
        rw [g_ev_ac r h0, ha] at g1
        rw [g_ev_ac r h0, g_ev_k, ha] at g2
        have h3 := List.all_eq_true.mp h2 (A - lo0) (List.mem_range.mpr (by omega))
        have e3 : lo0 + (A - lo0) = A := by omega
        rw [e3] at h3
        exact x_ims_ok h3 hv hq
      · cases h
    · split at h
      · rename_i Le hLe
        split at h
        · rename_i n' hn'
          split at h
          · rename_i h2
            have e1 := (y_ent_ok hm (by decide) hLe).1
            rw [ha, Int.toNat_natCast] at e1
            have e2 := y_adr_ok h0 hn'
            have e3 := y_rd_nn (w := w) (a := A) (k := (g_ev r []).toNat) (Or.inr rfl : 3 = 2 ∨ 3 = 3)
            have e4 : (g_ev r ([] : g_LE)).toNat = 0 := rfl
            rw [e4] at e1 e3
            exact hv _ hL _ _ (y_rgn_ok hU hI h2 hK (show y_rd w 3 A 0 = (n' : Int) by omega) (by cases c <;> rfl) hq)
          · cases h
        · cases h
      · cases h
    · cases h
theorem x_cln_ok {t : Nat} {c : Nat ⊕ Nat} {a n : g_LE} {b : Nat} (h : x_cln U t c a (s_m S) = some n) (k : y_DD U AT r S lv stk w) (ha : g_ev r a = b) (hpt : y_pt (w_KT U) (w_LT U) w.1 t b) (hkt : w_KT U t = some c) : (e_N w.1 b : Int) = g_ev r n := by
  have h0 := k.1
  obtain ⟨hK, hN⟩ := hpt c hkt
  have e1 : (g_ev r a).toNat = b := by rw [ha]; rfl
  have hget : y_ent (s_m S) 3 a [] = some n → (e_N w.1 b : Int) = g_ev r n := by
    intro hg
    have h1 := (y_ent_ok k.2.2.2.1 (by decide) hg).1
    rw [e1] at h1
    exact h1
  unfold x_cln at h
  split at h
  · rename_i m hm
    cases h
    rw [g_ev_c r h0, hN m hm]
  · split at h
    · rename_i lo hi hq
      split at h
      · rename_i hlh
        cases h
        have he := g_ieq_ok hlh
        subst he
        rw [g_ev_c r h0]
        have hrg := ((k.2.2.2.2.2.2).2.2 b c hK).2.1 3 0 lo lo (by decide)
        have hc0 : y_rk c 0 = 0 := by cases c <;> rfl
        rw [hc0] at hrg
        have h9 : lo ≤ (e_N w.1 b : Int) ∧ (e_N w.1 b : Int) ≤ lo := by
          cases hy : y_adr a with
          | none => rw [hy] at hq; exact hrg (Or.inl hq)
          | some A =>
            have h8 := y_adr_ok h0 hy
            rw [e1] at h8
            rw [hy, ← h8] at hq
            exact hrg (Or.inr hq)
        omega
      · exact hget h
    · exact hget h
theorem x_fib_ok {ti : Nat} (h : x_fib U ats ti = true) : ∃ ty, ats[ti]? = some ty ∧ e_ib ty = true ∧ ∀ x : Int32, (∀ l hh, w_RG U 0 none (.inr ti) 0 = some (l, hh) → l ≤ x.toInt ∧ x.toInt ≤ hh) → fits ty (.int x) = true := by
  unfold x_fib at h
  split at h
  · rename_i ha
    exact ⟨_, ha, rfl, fun _ _ => rfl⟩
  · rename_i ha
    refine ⟨_, ha, rfl, fun x hx => ?_⟩
    have h3 : -128 ≤ x.toInt ∧ x.toInt ≤ 127 := x_ims_ok (L := [w_RG U 0 none (.inr ti) 0]) (t := some (-128, 127)) (by
      show (x_imp (w_RG U 0 none (.inr ti) 0) (some (-128, 127)) || false) = true
      rw [Bool.or_false]
      exact h) (fun q hq l hh he => hx l hh (by rw [← List.mem_singleton.mp hq]; exact he)) rfl
    show (decide (-128 ≤ x) && decide (x ≤ 127)) = true
    rw [Bool.and_eq_true]
    exact ⟨decide_eq_true (Int32.le_iff_toInt_le.mpr (by rw [show (-128 : Int32).toInt = -128 from rfl]; exact h3.1)), decide_eq_true (Int32.le_iff_toInt_le.mpr (by rw [show (127 : Int32).toInt = 127 from rfl]; exact h3.2))⟩
  · cases h
theorem x_cI_K {st : e_ST} {b : Nat} {g : Nat → Int32} : e_K (e_cI st b g) = e_K st := rfl
theorem x_cI_L {st : e_ST} {b : Nat} {g : Nat → Int32} : e_L (e_cI st b g) = e_L st := rfl
theorem x_cI_P {st : e_ST} {b : Nat} {g : Nat → Int32} : e_P (e_cI st b g) = e_P st := rfl
theorem x_cI_N {st : e_ST} {b : Nat} {g : Nat → Int32} : e_N (e_cI st b g) = e_N st := rfl
theorem x_cI_T {st : e_ST} {b : Nat} {g : Nat → Int32} : e_T (e_cI st b g) = e_T st := rfl
theorem x_cI_Z {st : e_ST} {b : Nat} {g : Nat → Int32} : e_Z (e_cI st b g) = e_Z st := rfl
theorem x_cI_I {st : e_ST} {b : Nat} {g : Nat → Int32} {a k : Nat} : e_I (e_cI st b g) a k = (if a = b then g else e_I st a) k := rfl
/-- what stands where behind a copy -/
theorem x_cI_rd {b b0 ti sp dp n : Nat} (hK : e_K w.1 b = some (.inr ti)) : (∀ kd a k, ¬ (kd = 0 ∧ a = b ∧ dp ≤ k ∧ k < dp + n) → y_rd (e_cI w.1 b (va_cpy (e_I w.1 b0) (e_I w.1 b) sp dp n), w.2) kd a k = y_rd w kd a k) ∧ ∀ k, dp ≤ k → k < dp + n → y_rd (e_cI w.1 b (va_cpy (e_I w.1 b0) (e_I w.1 b) sp dp n), w.2) 0 b k = y_rd w 0 b0 (sp + (k - dp)) := by
  have hI : ∀ a k, e_I (e_cI w.1 b (va_cpy (e_I w.1 b0) (e_I w.1 b) sp dp n)) a k = (if a = b then va_cpy (e_I w.1 b0) (e_I w.1 b) sp dp n else e_I w.1 a) k := fun _ _ => x_cI_I
  refine ⟨fun kd a k h => ?_, fun k h1 h2 => ?_⟩
  · have h9 : (a ≠ b ∨ ¬ (dp ≤ k ∧ k < dp + n)) → e_I (e_cI w.1 b (va_cpy (e_I w.1 b0) (e_I w.1 b) sp dp n)) a k = e_I w.1 a k := by
      intro hh
      rw [hI]
      by_cases hb : a = b
      · rw [if_pos hb]
        unfold va_cpy
        rw [if_neg (fun q => hh.elim (fun z => z hb) (fun z => z q)), hb]
      · rw [if_neg hb]
    match kd with
    | 0 =>
      rw [y_rd_0, y_rd_0]
      rw [h9 (by
        by_cases hb : a = b
        · exact Or.inr (fun q => h ⟨rfl, hb, q⟩)
        · exact Or.inl hb)]
    | 1 =>
      rw [y_rd_1, y_rd_1, x_cI_L]
    | 2 =>
      rw [y_rd_2, y_rd_2, x_cI_P]
    | 3 =>
      rw [y_rd_3, y_rd_3, x_cI_N]
    | 4 =>
      rw [y_rd_4, y_rd_4, x_cI_T]
    | 5 =>
      rw [y_rd_5, y_rd_5, x_cI_Z]
    | 6 => rw [y_rd_66, y_rd_66]
    | 7 => rw [y_rd_77, y_rd_77]
    | 8 =>
      rw [y_rd_88, y_rd_88]
      by_cases hb : a = b
      · subst hb
        rw [y_r8_0 (c := .inr ti) hK (by intro q; cases q), y_r8_0 (c := .inr ti) (w := (e_cI w.1 a (va_cpy (e_I w.1 b0) (e_I w.1 a) sp dp n), w.2)) hK (by intro q; cases q)]
      · exact y_r8_cg x_cI_T x_cI_K (h9 (Or.inl hb))
    | n + 9 => rw [y_rd_99, y_rd_99]
  · rw [y_rd_0, y_rd_0]
    rw [hI, if_pos rfl]
    unfold va_cpy
    rw [if_pos ⟨h1, h2⟩]
theorem x_nlt {x : Int32} (h : 0 ≤ x.toInt) : ¬ x < 0 := fun hn => by
  have h1 := Int32.lt_iff_toInt_lt.mp hn
  have h2 : (0 : Int32).toInt = 0 := rfl
  omega
theorem x_cpy_ok (hU : y_UO U) (hA : y_AO AT fp) {pm : Nat → Nat → Nat} {M : e_M} {idx : Nat} (hpm : pm (e_mo M) idx = 5) (h : x_cpy U fp ats N t0 pc S s = some (B, s')) (k : y_DD U AT r S lv stk w) : y_CP U AT N t0 r S w B (e_pC ats pm M (.invokestatic idx) 3 pc lv stk w.1) := by
  have h0 := k.1
  have hF := k.2.2.2.2.1
  unfold x_cpy at h
  split at h
  · rename_i kk dp t d sp t1 e l hs
    split at h
    · rename_i ti ti1 hcat hkt hkt1
      split at h
      · rename_i ld ls hb hld hls
        split at h
        · cases h
        · rename_i s1 hck
          split at h
          · cases h
          · rename_i s2 hcw
            split at h
            · cases h
            · rename_i s3 hcv
              split at h
              · cases h
              · rename_i ms s4 hms
                split at h
                · cases h
                · rename_i as s5 has
                  cases h
                  rw [Bool.and_eq_true] at hb
                  have hti := Nat.eq_of_beq_eq_true hb.1
                  subst hti
                  obtain ⟨vk, stk1, rfl, ⟨xk, rfl, hxk⟩, k1⟩ := y_D_po k hs
                  obtain ⟨vp, stk2, rfl, ⟨xp, rfl, hxp⟩, k2⟩ := y_D_po (S := y_st S ((0, dp) :: (t + 2, d) :: (0, sp) :: (t1 + 2, e) :: l)) k1 rfl
                  obtain ⟨vd, stk3, rfl, hvd, k3⟩ := y_D_po (S := y_st S ((t + 2, d) :: (0, sp) :: (t1 + 2, e) :: l)) k2 rfl
                  obtain ⟨vs, stk4, rfl, ⟨xs, rfl, hxs⟩, k4⟩ := y_D_po (S := y_st S ((0, sp) :: (t1 + 2, e) :: l)) k3 rfl
                  obtain ⟨ve, rest, rfl, hve, k5⟩ := y_D_po (S := y_st S ((t1 + 2, e) :: l)) k4 rfl
                  have k5 : y_DD U AT r (y_st S l) lv rest w := k5
                  have hxk : xk.toInt = g_ev r kk := hxk
                  have hxp : xp.toInt = g_ev r dp := hxp
                  have hxs : xs.toInt = g_ev r sp := hxs
                  have g := y_cks_ok h0 hF hck
                  have q1 := g (g_ac (-1) e) List.mem_cons_self
                  have q2 := g (g_ac (-1) d) (List.mem_cons_of_mem _ List.mem_cons_self)
                  have q3 := g sp (List.mem_cons_of_mem _ (List.mem_cons_of_mem _ List.mem_cons_self))
                  have q4 := g dp (List.mem_cons_of_mem _ (List.mem_cons_of_mem _ (List.mem_cons_of_mem _ List.mem_cons_self)))
                  have q5 := g kk (List.mem_cons_of_mem _ (List.mem_cons_of_mem _ (List.mem_cons_of_mem _ (List.mem_cons_of_mem _ List.mem_cons_self))))
                  have q6 := g (g_sub (g_sub ls sp) kk) (List.mem_cons_of_mem _ (List.mem_cons_of_mem _ (List.mem_cons_of_mem _ (List.mem_cons_of_mem _ (List.mem_cons_of_mem _ List.mem_cons_self)))))
                  have q7 := g (g_sub (g_sub ld dp) kk) (List.mem_cons_of_mem _ (List.mem_cons_of_mem _ (List.mem_cons_of_mem _ (List.mem_cons_of_mem _ (List.mem_cons_of_mem _ (List.mem_cons_of_mem _ List.mem_cons_self))))))
                  obtain ⟨b0, rfl, hb0, hpt0⟩ := y_nn1 h0 hve q1
                  obtain ⟨b, rfl, hbd, hptd⟩ := y_nn1 h0 hvd q2
                  have hK0 := (hpt0 _ hkt1).1
                  have hK := (hptd _ hkt).1
                  have hN0 := x_cln_ok hls k hb0 hpt0 hkt1
                  have hN := x_cln_ok hld k hbd hptd hkt
                  rw [g_ev_sub, g_ev_sub, ← hN0, ← hxs, ← hxk] at q6
                  rw [g_ev_sub, g_ev_sub, ← hN, ← hxp, ← hxk] at q7
                  rw [← hxs] at q3
                  rw [← hxp] at q4
                  rw [← hxk] at q5
                  have c3 := y_clamp q3
                  have c4 := y_clamp q4
                  have c5 := y_clamp q5
                  obtain ⟨ty, hty, hib, hfit⟩ := x_fib_ok hb.2
                  obtain ⟨r1, r2⟩ := x_cI_rd (w := w) (b := b) (b0 := b0) (sp := xs.toNatClampNeg) (dp := xp.toNatClampNeg) (n := xk.toNatClampNeg) hK
                  have hIv := k.2.2.2.2.2.2
                  obtain ⟨hT, hL, hI⟩ := hIv
                  have hsrc : ∀ j lo hi, w_RG U 0 none (.inr ti) 0 = some (lo, hi) ∨ w_RG U 0 (some b0) (.inr ti) 0 = some (lo, hi) → lo ≤ y_rd w 0 b0 j ∧ y_rd w 0 b0 j ≤ hi := fun j lo hi hq => (hI b0 _ hK0).2.1 0 j lo hi (by decide) hq
                  have hfr : y_Fr r (x_cpi d dp kk) w (e_cI w.1 b (va_cpy (e_I w.1 b0) (e_I w.1 b) xs.toNatClampNeg xp.toNatClampNeg xk.toNatClampNeg), w.2) := by
                    refine ⟨fun kd a k' _ hn => r1 kd a k' (fun hq => ?_), fun a c hc => ⟨hc, rfl⟩, Nat.le_refl _, Nat.le_refl _⟩
                    obtain ⟨z1, z2, z3, z4⟩ := hq
                    subst z1
                    subst z2
                    refine hn _ List.mem_cons_self ⟨rfl, Or.inr (Or.inr ⟨Int.le_of_eq hbd, Int.le_of_eq hbd.symm, fun p hp => ?_⟩)⟩
                    cases hp
                    refine ⟨?_, ?_⟩
                    · show g_ev r dp ≤ (k' : Int)
                      omega
                    · show (k' : Int) ≤ g_ev r (g_ac (-1) (g_add dp kk))
                      rw [g_ev_ac r h0, g_ev_add]
                      omega
                  have hI' : y_IV U (e_cI w.1 b (va_cpy (e_I w.1 b0) (e_I w.1 b) xs.toNatClampNeg xp.toNatClampNeg xk.toNatClampNeg), w.2) := by
                    refine ⟨hT, ⟨hL.1, fun kd' a' k' h3 hge => ?_⟩, fun a' c' hc' => ?_⟩
                    · have hge : e_T w.1 ≤ a' := hge
                      rw [r1 _ _ _ (fun q => by have h8 := (hI b _ hK).1; omega)]
                      exact hL.2 kd' a' k' h3 hge
                    · have hc2 : e_K w.1 a' = some c' := hc'
                      clear hc'
                      obtain ⟨i1, i2, i3⟩ := hI a' c' hc2
                      refine ⟨i1, fun kd' k' lo hi h4 hq => ?_, fun k' b' hb' => i3 k' b' hb'⟩
                      by_cases hz : kd' = 0 ∧ a' = b ∧ xp.toNatClampNeg ≤ k' ∧ k' < xp.toNatClampNeg + xk.toNatClampNeg
                      · obtain ⟨z1, z2, z3, z4⟩ := hz
                        subst z1
                        subst z2
                        rw [hK] at hc2
                        cases hc2
                        rw [r2 k' z3 z4]
                        rcases hq with hq | hq
                        · exact hsrc _ lo hi (Or.inl hq)
                        · refine x_cpw_ok hU h0 k.2.2.2.2.2.2 k.2.2.2.1 hF hcw hbd hK List.mem_cons_self (fun q hq l9 h9 he => ?_) hq
                          unfold x_src at hq
                          rcases List.mem_cons.mp hq with hq | hq
                          · subst hq
                            exact hsrc _ l9 h9 (Or.inl he)
                          · split at hq
                            · rename_i B9 hB9
                              have h8 := y_adr_ok h0 hB9
                              rw [hb0] at h8
                              have h8 : b0 = B9 := h8
                              subst h8
                              rw [List.mem_singleton.mp hq] at he
                              exact hsrc _ l9 h9 (Or.inr he)
                            · cases hq
                      · rw [r1 _ _ _ hz]
                        exact i2 kd' k' lo hi h4 hq
                  refine ⟨pc + 3, lv, rest, _, _, r, List.mem_cons_self, ⟨fun _ _ => rfl, Nat.le_refl _⟩, y_chg hA k5 hfr hI' hms has, ?_, _, hfr, fun m hm kd' a' k' hc => y_covs_ok h0 hF hcv m hm hc⟩
                  unfold e_pC
                  dsimp only
                  rw [if_pos ⟨rfl, hpm, by rw [y_cts_ok k5.2.2.1]; exact Nat.le_of_ble_eq_true hcat⟩, hK0, hK]
                  dsimp only
                  rw [hty]
                  dsimp only
                  rw [if_pos ⟨rfl, hib, x_nlt q3, x_nlt q4, x_nlt q5, by omega, by omega, fun i hi => hfit _ (fun l9 h9 hq => hsrc _ l9 h9 (Or.inl hq))⟩]
      · cases h
    · cases h
  · cases h
end X_CY
end
