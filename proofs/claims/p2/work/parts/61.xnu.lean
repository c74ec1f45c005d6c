/-! PART 61: steps from outside, in symbols: Math's min, max, abs, floorDiv, floorMod; references compared -/
noncomputable section
def x_mm (t : Nat) (mx : Bool) (ea eb : g_LE) (l : List y_SV) (pc : Nat) (S : y_S) (s : y_Str) : Option (y_BL × y_Str) := y_bb (y_bp (y_st S l) (t, eb) [match mx with
    | false => g_ac (-1) (g_sub ea eb)
    | true => g_ac (-1) (g_k (-1) (g_sub ea eb))] pc s) fun s1 => y_bp (y_st S l) (t, ea) [match mx with
    | false => g_k (-1) (g_sub ea eb)
    | true => g_sub ea eb] pc s1
/-- a number that nothing is said of -/
def x_fl (_ eb : g_LE) (l : List y_SV) (pc : Nat) (S : y_S) (s : y_Str) : Option (y_BL × y_Str) := match y_ck (s_f S) s (g_ac (-1) eb) with
  | none => none
  | some s1 => match y_any y_l64 y_h64 (y_st S l) s1 with
    | none => none
    | some (S1, e, s2) => y_on pc (y_pu S1 (1, e)) s2
def x_bin (t : Nat) (f : g_LE → g_LE → List y_SV → Nat → y_S → y_Str → Option (y_BL × y_Str)) (pc : Nat) (S : y_S) (s : y_Str) : Option (y_BL × y_Str) := match s_s S with
  | (tb, eb) :: (ta, ea) :: l => (match Nat.beq tb t && (Nat.beq ta t && Nat.ble (y_cts l) 8) with
    | true => f ea eb l pc S s
    | false => none)
  | _ => none
def x_abs (pc : Nat) (S : y_S) (s : y_Str) : Option (y_BL × y_Str) := match s_s S with
  | (t, e) :: l => (match Nat.beq t 1 && Nat.ble (y_cts l) 8, y_ck (s_f S) s (g_ac y_h64 e) with
    | true, some s1 => y_bb (y_bp (y_st S l) (1, e) [e] pc s1) fun s2 => y_bp (y_st S l) (1, g_k (-1) e) [g_ac (-1) (g_k (-1) e)] pc s2
    | _, _ => none)
  | _ => none
/-- what abs gives: any long -/
def x_abf (pc : Nat) (S : y_S) (s : y_Str) : Option (y_BL × y_Str) := match s_s S with
  | (t, _) :: l => (match Nat.beq t 1 && Nat.ble (y_cts l) 8, y_any y_l64 y_h64 (y_st S l) s with
    | true, some (S1, e, s2) => y_on pc (y_pu S1 (1, e)) s2
    | _, _ => none)
  | _ => none
def x_num (pm : Nat → Nat → Nat) : y_XR := fun M ins len pc S s => match ins, Nat.beq len 3 with
  | .invokestatic idx, true => (match pm (e_mo M) idx with
    | 1 => x_bin 0 (x_mm 0 false) (pc + 3) S s
    | 2 => x_bin 0 (x_mm 0 true) (pc + 3) S s
    | 3 => (match s with
      | [(0, .negSucc 9)] :: s0 => x_abf (pc + 3) S s0
      | s => x_abs (pc + 3) S s)
    | 4 => x_bin 1 (x_mm 1 false) (pc + 3) S s
    | 6 => x_bin 1 x_fl (pc + 3) S s
    | 7 => x_bin 1 x_fl (pc + 3) S s
    | _ => none)
  | _, _ => none
def x_acm (U : y_WT) : y_XR := fun _ ins len pc S s => match ins, Nat.beq len 3 with
  | .if_acmp c off, true => (match s_s S, e_tg pc off with
    | (t2 + 2, e2) :: (t1 + 2, e1) :: l, some g => (match (w_KT U t1).isSome || g_eq e1 [], (w_KT U t2).isSome || g_eq e2 [], c with
      | true, true, .eq => y_if (y_st S l) .eq (g_sub e1 e2) g (pc + 3) s
      | true, true, .ne => y_if (y_st S l) .ne (g_sub e1 e2) g (pc + 3) s
      | _, _, _ => none)
    | _, _ => none)
  | _, _ => none
section X_NU
variable {T : y_TB} {U : y_WT} {AT : Nat → List Int → y_W → Prop} {r r' : Nat → Int} {S S' : y_S} {lv : e_LV} {stk rest : List Value} {w w' : y_W} {s s' : y_Str} {N : List y_MI} {t0 : Option g_LE} {B : y_BL} {pc : Nat} {l : List y_SV} {ea eb : g_LE}
theorem y_CP.br {pc' : Nat} {lv' : e_LV} {stk' : List Value} {f : Option (e_FR × e_ST)} (hm : (pc', S') ∈ B) (hx : y_ex S S' r r') (k : y_DD U AT r' S' lv' stk' w) (he : f = some ((pc', lv', stk'), w.1)) : y_CP U AT N t0 r S w B f :=
  ⟨pc', lv', stk', w, S', r', hm, hx, k, he, [], y_Fr.rf, fun m hm => by cases hm⟩
theorem x_mm_ok {t : Nat} {mx : Bool} {va vb vr : Value} {x y : Int} (h : x_mm t mx ea eb l pc S s = some (B, s')) (k : y_DD U AT r (y_st S l) lv rest w) (ka : y_dV (w_KT U) (w_LT U) r w.1 (t, ea) va) (kb : y_dV (w_KT U) (w_LT U) r w.1 (t, eb) vb) (hx : x = g_ev r ea) (hy : y = g_ev r eb) (hr : (match mx with
    | false => (y < x → vr = vb) ∧ (x ≤ y → vr = va)
    | true => (x < y → vr = vb) ∧ (y ≤ x → vr = va))) : ∃ S', (pc, S') ∈ B ∧ y_ex S S' r r ∧ y_DD U AT r S' lv (vr :: rest) w := by
  have h0 := k.1
  unfold x_mm at h
  obtain ⟨A, s1, C, h1, h2, rfl⟩ := y_bb_s h
  have one : ∀ {e : g_LE}, 0 ≤ g_ev r e → ∀ f ∈ [e], 0 ≤ g_ev r f := by
    intro e he f hf
    rw [List.mem_singleton.mp hf]
    exact he
  cases mx with
  | false =>
    by_cases hq : y < x
    · obtain ⟨g1, g2⟩ := y_bp_ok h1 k kb (one (by rw [g_ev_ac r h0, g_ev_sub]; omega))
      rw [hr.1 hq]
      exact ⟨_, List.mem_append_left _ g1, ⟨fun _ _ => rfl, Nat.le_refl _⟩, g2⟩
    · obtain ⟨g1, g2⟩ := y_bp_ok h2 k ka (one (by rw [g_ev_k, g_ev_sub]; omega))
      rw [hr.2 (by omega)]
      exact ⟨_, List.mem_append_right _ g1, ⟨fun _ _ => rfl, Nat.le_refl _⟩, g2⟩
  | true =>
    by_cases hq : x < y
    · obtain ⟨g1, g2⟩ := y_bp_ok h1 k kb (one (by rw [g_ev_ac r h0, g_ev_k, g_ev_sub]; omega))
      rw [hr.1 hq]
      exact ⟨_, List.mem_append_left _ g1, ⟨fun _ _ => rfl, Nat.le_refl _⟩, g2⟩
    · obtain ⟨g1, g2⟩ := y_bp_ok h2 k ka (one (by rw [g_ev_sub]; omega))
      rw [hr.2 (by omega)]
      exact ⟨_, List.mem_append_right _ g1, ⟨fun _ _ => rfl, Nat.le_refl _⟩, g2⟩
theorem x_fl_ok {va vb : Value} {z : Int64} (h : x_fl ea eb l pc S s = some (B, s')) (k : y_DD U AT r (y_st S l) lv rest w) : 0 < g_ev r eb ∧ ∃ S' r', (pc, S') ∈ B ∧ y_ex S S' r r' ∧ y_DD U AT r' S' lv (.long z :: rest) w := by
  have h0 := k.1
  unfold x_fl at h
  split at h
  · cases h
  · rename_i s1 hck
    have h1 := y_ck_ok h0 k.2.2.2.2.1 hck
    rw [g_ev_ac r h0] at h1
    split at h
    · cases h
    · rename_i S1 e s2 hany
      obtain ⟨r', g1, g2, g3⟩ := y_any_ok (z := z.toInt) hany k (y_r64 z).1 (y_r64 z).2
      cases h
      exact ⟨by omega, _, r', List.mem_cons_self, ⟨g1.1, g1.2.1⟩, y_D_pu g2 (show y_dV _ _ r' w.1 (1, e) (.long z) from ⟨z, rfl, g3⟩)⟩
/-- both numbers are there -/
theorem x_bin_s {t : Nat} {f : g_LE → g_LE → List y_SV → Nat → y_S → y_Str → Option (y_BL × y_Str)} (h : x_bin t f pc S s = some (B, s')) (k : y_DD U AT r S lv stk w) : ∃ (ea eb : g_LE) (l : List y_SV) (va vb : Value) (rest : List Value), f ea eb l pc S s = some (B, s') ∧ stk = vb :: va :: rest ∧ y_dV (w_KT U) (w_LT U) r w.1 (t, ea) va ∧ y_dV (w_KT U) (w_LT U) r w.1 (t, eb) vb ∧ y_DD U AT r (y_st S l) lv rest w ∧ e_cat rest ≤ 8 := by
  unfold x_bin at h
  split at h
  · rename_i tb eb ta ea l hs
    split at h
    · rename_i hc
      rw [Bool.and_eq_true, Bool.and_eq_true] at hc
      obtain ⟨c1, c2, c3⟩ := hc
      have c1 := Nat.eq_of_beq_eq_true c1
      have c2 := Nat.eq_of_beq_eq_true c2
      subst c1
      subst c2
      obtain ⟨vb, st1, rfl, q1, k1⟩ := y_D_po k hs
      obtain ⟨va, st2, rfl, q2, k2⟩ := y_D_po (S := y_st S ((ta, ea) :: l)) k1 rfl
      exact ⟨ea, eb, l, va, vb, st2, h, rfl, q2, q1, k2, by rw [y_cts_ok k2.2.2.1]; exact Nat.le_of_ble_eq_true c3⟩
    · cases h
  · cases h
theorem x_or_l {a b : e_EX} {M : e_M} {ins : Instr} {len : Nat} {st : e_ST} {x : e_FR × e_ST} (h : a M ins len pc lv stk st = some x) : e_or a b M ins len pc lv stk st = some x := by
  unfold e_or
  rw [h]
theorem x_or_r {a b : e_EX} {M : e_M} {ins : Instr} {len : Nat} {st : e_ST} (h : a M ins len pc lv stk st = none) : e_or a b M ins len pc lv stk st = b M ins len pc lv stk st := by
  unfold e_or
  rw [h]
theorem x_x0 {a : e_EX0} {M : e_M} {ins : Instr} {len : Nat} {st : e_ST} {x : Nat × List Value} (h : a M ins len pc lv stk st = some x) : e_x0 a M ins len pc lv stk st = some ((x.1, lv, x.2), st) := by
  unfold e_x0
  rw [h]
  rfl
theorem x_x0n {a : e_EX0} {M : e_M} {ins : Instr} {len : Nat} {st : e_ST} (h : a M ins len pc lv stk st = none) : e_x0 a M ins len pc lv stk st = none := by
  unfold e_x0
  rw [h]
  rfl
theorem x_num_ok {pm : Nat → Nat → Nat} {M : e_M} {ins : Instr} {len : Nat} (h : x_num pm M ins len pc S s = some (B, s')) (k : y_DD U AT r S lv stk w) : y_CP U AT N t0 r S w B (e_or (e_x0 (e_pM pm)) (e_x0 (e_pF pm)) M ins len pc lv stk w.1) := by
  have h0 := k.1
  unfold x_num at h
  split at h
  · rename_i idx hlen
    have hlen := Nat.eq_of_beq_eq_true hlen
    subst hlen
    split at h
    · rename_i hp
      obtain ⟨ea, eb, l, va, vb, rest, h1, rfl, ka, kb, k2, hcat⟩ := x_bin_s h k
      obtain ⟨x, rfl, hx⟩ := ka
      obtain ⟨y, rfl, hy⟩ := kb
      obtain ⟨S', g1, g2, g3⟩ := x_mm_ok (vr := .int (if y < x then y else x)) h1 k2 ⟨x, rfl, hx⟩ ⟨y, rfl, hy⟩ hx hy ⟨fun q => by rw [if_pos (Int32.lt_iff_toInt_lt.mpr q)], fun q => by rw [if_neg (fun z => by have := Int32.lt_iff_toInt_lt.mp z; omega)]⟩
      refine y_CP.br g1 g2 g3 ?_
      refine x_or_l (x_x0 (x := (_, _)) ?_)
      unfold e_pM
      try dsimp only
      rw [if_pos rfl, hp]
      exact if_pos hcat
    · rename_i hp
      obtain ⟨ea, eb, l, va, vb, rest, h1, rfl, ka, kb, k2, hcat⟩ := x_bin_s h k
      obtain ⟨x, rfl, hx⟩ := ka
      obtain ⟨y, rfl, hy⟩ := kb
      obtain ⟨S', g1, g2, g3⟩ := x_mm_ok (vr := .int (if x < y then y else x)) h1 k2 ⟨x, rfl, hx⟩ ⟨y, rfl, hy⟩ hx hy ⟨fun q => by rw [if_pos (Int32.lt_iff_toInt_lt.mpr q)], fun q => by rw [if_neg (fun z => by have := Int32.lt_iff_toInt_lt.mp z; omega)]⟩
      refine y_CP.br g1 g2 g3 ?_
      refine x_or_l (x_x0 (x := (_, _)) ?_)
      unfold e_pM
      try dsimp only
      rw [if_pos rfl, hp]
      exact if_pos hcat
    · rename_i hp
      split at h
      · unfold x_abf at h
        split at h
        · rename_i t e l hs
          split at h
          · rename_i S1 e1 s2 hc hany
            rw [Bool.and_eq_true] at hc
            have c1 := Nat.eq_of_beq_eq_true hc.1
            subst c1
            obtain ⟨v, rest, rfl, q1, k1⟩ := y_D_po k hs
            have hcat : e_cat rest ≤ 8 := by rw [y_cts_ok k1.2.2.1]; exact Nat.le_of_ble_eq_true hc.2
            obtain ⟨x, rfl, hx⟩ := q1
            have hex : e_or (e_x0 (e_pM pm)) (e_x0 (e_pF pm)) M (.invokestatic idx) 3 pc lv (.long x :: rest) w.1 = some ((pc + 3, lv, .long (if 0 < x then x else -x) :: rest), w.1) := by
              refine x_or_l (x_x0 (x := (_, _)) ?_)
              unfold e_pM
              try dsimp only
              rw [if_pos rfl, hp]
              exact if_pos hcat
            obtain ⟨r', g1, g2, g3⟩ := y_any_ok (z := (if 0 < x then x else -x).toInt) hany k1 (y_r64 _).1 (y_r64 _).2
            cases h
            exact y_CP.br List.mem_cons_self ⟨g1.1, g1.2.1⟩ (y_D_pu g2 (show y_dV _ _ r' w.1 (1, e1) (.long (if 0 < x then x else -x)) from ⟨_, rfl, g3⟩)) hex
          · cases h
        · cases h
      unfold x_abs at h
      split at h
      · rename_i t e l hs
        split at h
        · rename_i s1 hc hck
          rw [Bool.and_eq_true] at hc
          have c1 := Nat.eq_of_beq_eq_true hc.1
          subst c1
          obtain ⟨v, rest, rfl, q1, k1⟩ := y_D_po k hs
          have hcat : e_cat rest ≤ 8 := by rw [y_cts_ok k1.2.2.1]; exact Nat.le_of_ble_eq_true hc.2
          obtain ⟨x, rfl, hx⟩ := q1
          have hx : x.toInt = g_ev r e := hx
          have h1 := y_ck_ok h0 k.2.2.2.2.1 hck
          rw [g_ev_ac r h0] at h1
          obtain ⟨A, s2, C, h2, h3, rfl⟩ := y_bb_s h
          have one : ∀ {e : g_LE}, 0 ≤ g_ev r e → ∀ f ∈ [e], 0 ≤ g_ev r f := by
            intro e he f hf
            rw [List.mem_singleton.mp hf]
            exact he
          have hex : e_or (e_x0 (e_pM pm)) (e_x0 (e_pF pm)) M (.invokestatic idx) 3 pc lv (.long x :: rest) w.1 = some ((pc + 3, lv, .long (if 0 < x then x else -x) :: rest), w.1) := by
            refine x_or_l (x_x0 (x := (_, _)) ?_)
            unfold e_pM
            try dsimp only
            rw [if_pos rfl, hp]
            exact if_pos hcat
          have hneg : y_l64 ≤ -x.toInt → (-x).toInt = -x.toInt := fun q => y_l_neg x q (by unfold y_h64 at *; omega)
          by_cases hq : 0 ≤ x.toInt
          · have hv : (if 0 < x then x else -x).toInt = g_ev r e := by
              split
              · exact hx
              · rename_i hn
                have : ¬ 0 < x.toInt := fun z => hn (Int64.lt_iff_toInt_lt.mpr z)
                rw [hneg (by unfold y_l64; omega)]
                omega
            obtain ⟨g1, g2⟩ := y_bp_ok (v := .long (if 0 < x then x else -x)) h2 k1 (show y_dV _ _ r w.1 (1, e) _ from ⟨_, rfl, hv⟩) (one (by rw [← hx]; exact hq))
            exact y_CP.br (List.mem_append_left _ g1) ⟨fun _ _ => rfl, Nat.le_refl _⟩ g2 hex
          · have hv : (if 0 < x then x else -x).toInt = g_ev r (g_k (-1) e) := by
              rw [if_neg (fun z => by have := Int64.lt_iff_toInt_lt.mp z; have h9 : (0 : Int64).toInt = 0 := rfl; omega), hneg (by unfold y_l64; omega), g_ev_k, ← hx]
              omega
            obtain ⟨g1, g2⟩ := y_bp_ok (v := .long (if 0 < x then x else -x)) h3 k1 (show y_dV _ _ r w.1 (1, g_k (-1) e) _ from ⟨_, rfl, hv⟩) (one (by rw [g_ev_ac r h0, g_ev_k, ← hx]; omega))
            exact y_CP.br (List.mem_append_right _ g1) ⟨fun _ _ => rfl, Nat.le_refl _⟩ g2 hex
        · cases h
      · cases h
    · rename_i hp
      obtain ⟨ea, eb, l, va, vb, rest, h1, rfl, ka, kb, k2, hcat⟩ := x_bin_s h k
      obtain ⟨x, rfl, hx⟩ := ka
      obtain ⟨y, rfl, hy⟩ := kb
      obtain ⟨S', g1, g2, g3⟩ := x_mm_ok (t := 1) (vr := .long (if y < x then y else x)) h1 k2 ⟨x, rfl, hx⟩ ⟨y, rfl, hy⟩ hx hy ⟨fun q => by rw [if_pos (Int64.lt_iff_toInt_lt.mpr q)], fun q => by rw [if_neg (fun z => by have := Int64.lt_iff_toInt_lt.mp z; omega)]⟩
      refine y_CP.br g1 g2 g3 ?_
      refine x_or_l (x_x0 (x := (_, _)) ?_)
      unfold e_pM
      try dsimp only
      rw [if_pos rfl, hp]
      exact if_pos hcat
    · rename_i hp
      obtain ⟨ea, eb, l, va, vb, rest, h1, rfl, ka, kb, k2, hcat⟩ := x_bin_s h k
      obtain ⟨x, rfl, hx⟩ := ka
      obtain ⟨y, rfl, hy⟩ := kb
      obtain ⟨gp, S', r', g1, g2, g3⟩ := x_fl_ok (va := .long x) (vb := .long y) (z := Jvm.Free.JP.Math_floorDiv_JJ.val x y) h1 k2
      have hy : y.toInt = g_ev r eb := hy
      refine y_CP.br g1 g2 g3 ?_
      refine (x_or_r (x_x0n ?_)).trans (x_x0 (x := (_, _)) ?_)
      · unfold e_pM
        try dsimp only
        rw [if_pos rfl, hp]
        rfl
      · unfold e_pF
        try dsimp only
        rw [if_pos rfl, hp]
        exact if_pos ⟨hcat, fun z => by rw [z] at hy; have h9 : (0 : Int64).toInt = 0 := rfl; omega⟩
    · rename_i hp
      obtain ⟨ea, eb, l, va, vb, rest, h1, rfl, ka, kb, k2, hcat⟩ := x_bin_s h k
      obtain ⟨x, rfl, hx⟩ := ka
      obtain ⟨y, rfl, hy⟩ := kb
      obtain ⟨gp, S', r', g1, g2, g3⟩ := x_fl_ok (va := .long x) (vb := .long y) (z := Jvm.Free.JP.Math_floorMod_JJ.val x y) h1 k2
      have hy : y.toInt = g_ev r eb := hy
      refine y_CP.br g1 g2 g3 ?_
      refine (x_or_r (x_x0n ?_)).trans (x_x0 (x := (_, _)) ?_)
      · unfold e_pM
        try dsimp only
        rw [if_pos rfl, hp]
        rfl
      · unfold e_pF
        try dsimp only
        rw [if_pos rfl, hp]
        exact if_pos ⟨hcat, fun z => by rw [z] at hy; have h9 : (0 : Int64).toInt = 0 := rfl; omega⟩
    · cases h
  · cases h
/-- a reference that may be compared -/
theorem x_ro {t : Nat} {e : g_LE} {v : Value} (hI : y_IV U w) (h : y_dV (w_KT U) (w_LT U) r w.1 (t + 2, e) v) (hc : ((w_KT U t).isSome || g_eq e []) = true) : ∃ o, e_ro v = some o ∧ y_en o = g_ev r e := by
  obtain ⟨o, rfl, h2, h3⟩ := h
  have h2 : y_en o = g_ev r e := h2
  refine ⟨o, ?_, h2⟩
  cases o with
  | none => rfl
  | some b =>
    rcases Bool.or_eq_true_iff.mp hc with hc | hc
    · obtain ⟨kd, hkd⟩ := Option.isSome_iff_exists.mp hc
      have hK := (h3 b rfl kd hkd).1
      have hlt := (hI.2.2 b kd hK).1
      have hlim := hI.2.1
      show (if b < e_lim then some (some b) else none) = _
      rw [if_pos (by omega)]
    · rw [g_eq_ok hc, y_en_s] at h2
      have h4 : (b : Int) + 1 = 0 := h2
      omega
theorem y_en_inj {o p : Option Nat} (h : y_en o = y_en p) : o = p := by
  cases o with
  | none => exact (y_en_0.mp h.symm).symm
  | some a =>
    cases p with
    | none => exact y_en_0.mp h
    | some b =>
      rw [y_en_s, y_en_s] at h
      have : a = b := by omega
      rw [this]
theorem x_acm_ok {M : e_M} {ins : Instr} {len : Nat} (h : x_acm U M ins len pc S s = some (B, s')) (k : y_DD U AT r S lv stk w) : y_CP U AT N t0 r S w B (e_x0 e_pA M ins len pc lv stk w.1) := by
  have hI := k.2.2.2.2.2.2
  unfold x_acm at h
  split at h
  · rename_i c off hlen
    have hlen := Nat.eq_of_beq_eq_true hlen
    subst hlen
    split at h
    · rename_i t2 e2 t1 e1 l g hs hg
      obtain ⟨v2, st1, rfl, q2, k1⟩ := y_D_po k hs
      obtain ⟨v1, rest, rfl, q1, k2⟩ := y_D_po (S := y_st S ((t1 + 2, e1) :: l)) k1 rfl
      have k2 : y_DD U AT r (y_st S l) lv rest w := k2
      split at h
      · rename_i c1 c2
        obtain ⟨o1, p1, p2⟩ := x_ro hI q1 c1
        obtain ⟨o2, p3, p4⟩ := x_ro hI q2 c2
        obtain ⟨S', g1, g2, g3⟩ := y_if_ok h k2 (decide (o1 = o2)) (by
          rw [decide_eq_true_eq, g_ev_sub, ← p2, ← p4]
          show o1 = o2 ↔ y_en o1 - y_en o2 = 0
          exact ⟨fun z => by rw [z]; omega, fun z => y_en_inj (by omega)⟩)
        refine y_CP.br g1 g3 g2 ?_
        refine x_x0 (x := (_, _)) ?_
        unfold e_pA
        try dsimp only
        rw [if_pos rfl, p1, p3, hg]
        show some (if o1 = o2 then g else pc + 3, _) = some (if decide (o1 = o2) = true then g else pc + 3, _)
        by_cases hq : o1 = o2
        · rw [if_pos hq, if_pos (decide_eq_true hq)]
        · rw [if_neg hq, if_neg (by rw [decide_eq_true_eq]; exact hq)]
      · rename_i c1 c2
        obtain ⟨o1, p1, p2⟩ := x_ro hI q1 c1
        obtain ⟨o2, p3, p4⟩ := x_ro hI q2 c2
        obtain ⟨S', g1, g2, g3⟩ := y_if_ok h k2 (decide (o1 ≠ o2)) (by
          rw [decide_eq_true_eq, g_ev_sub, ← p2, ← p4]
          show o1 ≠ o2 ↔ y_en o1 - y_en o2 ≠ 0
          exact ⟨fun z q => z (y_en_inj (by omega)), fun z q => z (by rw [q]; omega)⟩)
        refine y_CP.br g1 g3 g2 ?_
        refine x_x0 (x := (_, _)) ?_
        unfold e_pA
        try dsimp only
        rw [if_pos rfl, p1, p3, hg]
        show some (if o1 = o2 then pc + 3 else g, _) = some (if decide (o1 ≠ o2) = true then g else pc + 3, _)
        by_cases hq : o1 = o2
        · rw [if_pos hq, if_neg (by rw [decide_eq_true_eq]; exact fun z => z hq)]
        · rw [if_neg hq, if_pos (decide_eq_true hq)]
      · cases h
    · cases h
  · cases h
end X_NU
end
