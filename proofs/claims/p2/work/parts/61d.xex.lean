/-! PART 61d: all steps from outside, in one; those that the reference takes, in symbols -/
noncomputable section
def x_ex (ats : List FieldType) (pm : Nat → Nat → Nat) (xa : Nat → Option (FieldType × Nat × (Nat → Value))) (gs : Nat → Nat → Option Nat) (sr : Nat → Nat → Option Nat) (an : Nat → Nat → Option Nat) (mn : Nat → Nat → Option (Nat × Nat)) (sf : Nat → Nat → Nat) (xo : Nat → Option Nat) (si : Nat → Nat → Option Nat) (xi : Nat → Option (String × String × String × Int32)) : e_EX := e_or (e_or (e_x0 (e_pM pm)) (e_x0 (e_pF pm))) (e_or (e_x0 e_pA) (e_or (e_x0 (e_pR xa gs sr)) (e_or (e_x0 (e_pG sf xo si xi)) (e_or (e_pC ats pm) (e_or (e_pN ats an) (e_pQ ats mn))))))
/-- a pointer of a kind that is known -/
def x_ht (U : y_WT) (q : y_SV) : Bool := match q.1 with
  | t + 2 => (w_KT U t).isSome
  | _ => false
def x_rf (U : y_WT) (pm : Nat → Nat → Nat) (sr : Nat → Nat → Option Nat) : y_XR := fun M ins len pc S s => match ins with
  | .invokestatic idx => x_num pm M (.invokestatic idx) len pc S s
  | .if_acmp c off => x_acm U M (.if_acmp c off) len pc S s
  | .ldc idx => (match Nat.beq len 2, sr (e_mo M) idx with
    | true, some q => y_on (pc + 2) (y_pu S (952, g_c ((q : Int) + 1))) s
    | _, _ => none)
  | .ldc_w idx => (match Nat.beq len 3, sr (e_mo M) idx with
    | true, some q => y_on (pc + 3) (y_pu S (952, g_c ((q : Int) + 1))) s
    | _, _ => none)
  | _ => none
def x_nf (U : y_WT) (pm sf : Nat → Nat → Nat) (sr : Nat → Nat → Option Nat) : e_M → Instr → y_S → Bool := fun M ins S => match ins with
  | .invokestatic idx => Nat.beq (pm (e_mo M) idx) 0
  | .if_acmp _ _ => false
  | .getstatic _ => false
  | .ldc idx => (sr (e_mo M) idx).isNone
  | .ldc_w idx => (sr (e_mo M) idx).isNone
  | .getfield idx => Nat.beq (sf (e_mo M) idx) 0
  | .arraylength => (match s_s S with
    | q :: _ => x_ht U q
    | _ => false)
  | .iaload => (match s_s S with
    | _ :: q :: _ => x_ht U q
    | _ => false)
  | .laload => (match s_s S with
    | _ :: q :: _ => x_ht U q
    | _ => false)
  | .baload => (match s_s S with
    | _ :: q :: _ => x_ht U q
    | _ => false)
  | .anewarray _ => false
  | .multianewarray _ _ => false
  | _ => true
section X_EX
variable {T : y_TB} {U : y_WT} {AT : Nat → List Int → y_W → Prop} {r r' : Nat → Int} {S S' : y_S} {lv : e_LV} {stk rest : List Value} {w w' : y_W} {s s' : y_Str} {N : List y_MI} {t0 : Option g_LE} {B : y_BL} {pc : Nat}
variable {ats : List FieldType} {pm sf : Nat → Nat → Nat} {xa : Nat → Option (FieldType × Nat × (Nat → Value))} {gs sr an si : Nat → Nat → Option Nat} {mn : Nat → Nat → Option (Nat × Nat)} {xo : Nat → Option Nat} {xi : Nat → Option (String × String × String × Int32)}
theorem x_or_n {a b : e_EX} {M : e_M} {ins : Instr} {len : Nat} {st : e_ST} (h : a M ins len pc lv stk st = none) (k : b M ins len pc lv stk st = none) : e_or a b M ins len pc lv stk st = none := by
  rw [x_or_r h]
  exact k
theorem y_CP.ex {f g : Option (e_FR × e_ST)} (h : y_CP U AT N t0 r S w B f) (hfg : ∀ x, f = some x → g = some x) : y_CP U AT N t0 r S w B g := by
  obtain ⟨pc', lv', stk', w', S', r', h1, h2, h3, h4, h5⟩ := h
  exact ⟨pc', lv', stk', w', S', r', h1, h2, h3, hfg _ h4, h5⟩
theorem x_ht_ok (hxa : ∀ q x, xa q = some x → e_lim ≤ q) (hI : y_IV U w) {q : y_SV} {v : Value} (h : x_ht U q = true) (hv : y_dV (w_KT U) (w_LT U) r w.1 q v) : ∀ b, v = .ref b → xa b = none := by
  intro b hb
  obtain ⟨t, e⟩ := q
  unfold x_ht at h
  split at h
  · rename_i t' ht
    have ht : t = t' + 2 := ht
    subst ht
    obtain ⟨o, h1, -, h3⟩ := hv
    rw [hb] at h1
    cases o with
    | none => cases h1
    | some z =>
      cases h1
      obtain ⟨kd, hkd⟩ := Option.isSome_iff_exists.mp h
      have h4 := (h3 b rfl kd hkd).1
      have h5 := (hI.2.2 b kd h4).1
      have h6 := hI.2.1
      cases hx : xa b with
      | none => rfl
      | some x =>
        have h7 := hxa b x hx
        omega
  · cases h
theorem x_nf_ok (hxa : ∀ q x, xa q = some x → e_lim ≤ q) (ht : ∀ d, t_ex T d = x_ex ats pm xa gs sr an mn sf xo si xi) : y_XN T U AT (x_nf U pm sf sr) := by
  intro d M ins len pc S r lv stk w h k
  rw [ht]
  have hI := k.2.2.2.2.2.2
  have hst := k.2.2.1
  unfold x_nf at h
  unfold x_ex
  cases ins
  case invokestatic idx =>
    have hp : pm (e_mo M) idx = 0 := Nat.eq_of_beq_eq_true h
    refine x_or_n (x_or_n (x_x0n ?_) (x_x0n ?_)) (x_or_n rfl (x_or_n rfl (x_or_n rfl (x_or_n ?_ (x_or_n rfl rfl)))))
    · unfold e_pM
      dsimp only
      rw [hp]
      split <;> rfl
    · unfold e_pF
      dsimp only
      rw [hp]
      split <;> rfl
    · unfold e_pC
      split
      · rename_i heq
        cases heq
        rw [if_neg (fun hq => by rw [hp] at hq; exact absurd hq.2.1 (by decide))]
      · rfl
  case if_acmp c off => cases h
  case getstatic idx => cases h
  case ldc idx =>
    have hp : sr (e_mo M) idx = none := Option.isNone_iff_eq_none.mp h
    refine x_or_n rfl (x_or_n rfl (x_or_n (x_x0n ?_) (x_or_n rfl (x_or_n rfl (x_or_n rfl rfl)))))
    unfold e_pR
    dsimp only
    rw [hp]
    split <;> rfl
  case ldc_w idx =>
    have hp : sr (e_mo M) idx = none := Option.isNone_iff_eq_none.mp h
    refine x_or_n rfl (x_or_n rfl (x_or_n (x_x0n ?_) (x_or_n rfl (x_or_n rfl (x_or_n rfl rfl)))))
    unfold e_pR
    dsimp only
    rw [hp]
    split <;> rfl
  case getfield idx =>
    have hp : sf (e_mo M) idx = 0 := Nat.eq_of_beq_eq_true h
    refine x_or_n rfl (x_or_n rfl (x_or_n rfl (x_or_n (x_x0n ?_) (x_or_n rfl (x_or_n rfl rfl)))))
    unfold e_pG
    dsimp only
    rw [hp]
    split
    · split <;> rfl
    · rfl
  case arraylength =>
    refine x_or_n rfl (x_or_n rfl (x_or_n (x_x0n ?_) (x_or_n rfl (x_or_n rfl (x_or_n rfl rfl)))))
    dsimp only at h
    split at h
    · rename_i q l hs
      rw [hs] at hst
      match stk, hst with
      | v :: rest, hst =>
        have hn := x_ht_ok hxa hI h hst.1
        unfold e_pR
        cases v <;> first | rfl | skip
        rename_i b
        dsimp only
        rw [hn b rfl]
        split <;> rfl
      | [], hst => exact hst.elim
    · cases h
  case iaload =>
    refine x_or_n rfl (x_or_n rfl (x_or_n (x_x0n ?_) (x_or_n rfl (x_or_n rfl (x_or_n rfl rfl)))))
    dsimp only at h
    split at h
    · rename_i q0 q l hs
      rw [hs] at hst
      match stk, hst with
      | u :: v :: rest, hst =>
        have hn := x_ht_ok hxa hI h hst.2.1
        unfold e_pR
        cases u <;> first | rfl | skip
        cases v <;> first | rfl | skip
        rename_i b
        dsimp only
        rw [hn b rfl]
      | [_], hst => exact hst.2.elim
      | [], hst => exact hst.elim
    · cases h
  case laload =>
    refine x_or_n rfl (x_or_n rfl (x_or_n (x_x0n ?_) (x_or_n rfl (x_or_n rfl (x_or_n rfl rfl)))))
    dsimp only at h
    split at h
    · rename_i q0 q l hs
      rw [hs] at hst
      match stk, hst with
      | u :: v :: rest, hst =>
        have hn := x_ht_ok hxa hI h hst.2.1
        unfold e_pR
        cases u <;> first | rfl | skip
        cases v <;> first | rfl | skip
        rename_i b
        dsimp only
        rw [hn b rfl]
      | [_], hst => exact hst.2.elim
      | [], hst => exact hst.elim
    · cases h
  case baload =>
    refine x_or_n rfl (x_or_n rfl (x_or_n (x_x0n ?_) (x_or_n rfl (x_or_n rfl (x_or_n rfl rfl)))))
    dsimp only at h
    split at h
    · rename_i q0 q l hs
      rw [hs] at hst
      match stk, hst with
      | u :: v :: rest, hst =>
        have hn := x_ht_ok hxa hI h hst.2.1
        unfold e_pR
        cases u <;> first | rfl | skip
        cases v <;> first | rfl | skip
        rename_i b
        dsimp only
        rw [hn b rfl]
      | [_], hst => exact hst.2.elim
      | [], hst => exact hst.elim
    · cases h
  case anewarray idx => cases h
  case multianewarray idx dims => cases h
  all_goals rfl
theorem x_rf_ok (hK : w_KT U 950 = none) (ht : ∀ d, t_ex T d = x_ex ats pm xa gs sr an mn sf xo si xi) : y_XO T U AT N t0 (x_rf U pm sr) := by
  intro d M ins len pc S s s' B r lv stk w h k
  rw [ht]
  have h0 := k.1
  unfold x_ex
  have str : ∀ (q : Nat), y_dV (w_KT U) (w_LT U) r w.1 (952, g_c ((q : Int) + 1)) (.ref q) := by
    intro q
    refine ⟨some q, rfl, ?_, fun b _ kd hkd => ?_⟩
    · show (q : Int) + 1 = g_ev r (g_c ((q : Int) + 1))
      rw [g_ev_c r h0]
    · rw [hK] at hkd
      cases hkd
  unfold x_rf at h
  split at h
  · exact (x_num_ok h k).ex fun x hx => x_or_l hx
  · exact (x_acm_ok h k).ex fun x hx => by
      rw [x_or_r rfl]
      exact x_or_l hx
  · rename_i idx
    split at h
    · rename_i q hlen hq
      have hlen := Nat.eq_of_beq_eq_true hlen
      subst hlen
      cases h
      refine y_CP.br List.mem_cons_self ⟨fun _ _ => rfl, Nat.le_refl _⟩ (y_D_pu k (str q)) ?_
      rw [x_or_r rfl, x_or_r rfl]
      refine x_or_l (x_x0 (x := (_, _)) ?_)
      unfold e_pR
      dsimp only
      rw [if_pos rfl, hq]
      rfl
    · cases h
  · rename_i idx
    split at h
    · rename_i q hlen hq
      have hlen := Nat.eq_of_beq_eq_true hlen
      subst hlen
      cases h
      refine y_CP.br List.mem_cons_self ⟨fun _ _ => rfl, Nat.le_refl _⟩ (y_D_pu k (str q)) ?_
      rw [x_or_r rfl, x_or_r rfl]
      refine x_or_l (x_x0 (x := (_, _)) ?_)
      unfold e_pR
      dsimp only
      rw [if_pos rfl, hq]
      rfl
    · cases h
  · cases h
end X_EX
end
