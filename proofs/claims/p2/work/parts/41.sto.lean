/-! PART 41: instructions that write a cell -/
noncomputable section
def y_nrw (ty : FieldType) (v : g_LE) : Option (List g_LE) := match ty with
  | .int => some []
  | .boolean => some [v, g_ac 1 (g_k (-1) v)]
  | .byte => some [g_ac 128 v, g_ac 127 (g_k (-1) v)]
  | .long => some []
  | .object _ => some []
  | .array _ => some []
  | _ => none
def y_tgk (U : y_WT) (ty : FieldType) (q : y_SV) (p : Nat) : Bool := match y_kd ty with
  | 0 => Nat.beq q.1 0
  | 1 => Nat.beq q.1 1
  | _ => Nat.ble 2 q.1 && (Nat.beq q.1 (p + 2) || (g_eq q.2 [] || (w_KT U p).isNone))
/-- whose constructor it is -/
def e_ini (M : e_M) : Option String := if (e_my M).name = "<init>" then some (e_my M).cls else none
/-- a field may be written: it isn't final, or its own class's constructor writes it -/
def y_fno (ini : Option String) (c : String) (f : Bool) : Bool := match f with
  | false => true
  | true => match ini with
    | some n => decide (n = c)
    | none => false
theorem y_fno_ok {ini : Option String} {c : String} {f : Bool} (h : y_fno ini c f = true) : f = false ∨ ini = some c := by
  unfold y_fno at h
  split at h
  · exact Or.inl rfl
  · split at h
    · rw [of_decide_eq_true h]
      exact Or.inr rfl
    · cases h
def y_cpf (U : y_WT) (fp : Nat → List g_LE → List y_MI) (N : List y_MI) (t0 : Option g_LE) (T : y_TB) (o : Nat) (ini : Option String) (idx pc : Nat) (S : y_S) (s : y_Str) : Option (y_BL × y_Str) := match s_s S with
  | qv :: (t + 2, e) :: l => (match t_fl T o idx, w_KT U t with
    | some (ci, k), some (.inl cj) => (match Nat.beq ci cj && y_tgk U (t_ft T ci k) qv (w_PT U (.inl ci) k) with
      | false => none
      | true => match (t_cl T)[ci]?, y_nrw (t_ft T ci k) qv.2 with
        | some q, some L => (match y_fno ini (q.2.1 k).1 (q.2.1 k).2.2.2 with
          | false => none
          | true => match y_cks (s_f S) s (g_ac (-1) e :: L) with
            | none => none
            | some s1 => match y_put U fp N t0 (y_st S l) (y_kd (t_ft T ci k)) (.inl ci) (g_ac (-1) e) (g_c (k : Int)) k qv.2 s1 with
              | none => none
              | some (S1, s2) => y_on (pc + 3) S1 s2)
        | _, _ => none)
    | _, _ => none)
  | _ => none
section Y_ST
variable {U : y_WT} {AT : Nat → List Int → y_W → Prop} {fp : Nat → List g_LE → List y_MI} {T : y_TB} {M : e_M} {r r' : Nat → Int} {S S' : y_S} {lv : e_LV} {stk : List Value} {w w' : y_W} {s s' : y_Str} {N : List y_MI} {t0 : Option g_LE} {B : y_BL} {pc : Nat}
theorem y_sI_I {st : e_ST} {a k b : Nat} {x : Int32} : e_I (e_sI st a k x) b = if b = a then upd (e_I st a) k x else e_I st b := rfl
theorem y_sI_L {st : e_ST} {a k : Nat} {x : Int32} : e_L (e_sI st a k x) = e_L st := rfl
theorem y_sI_P {st : e_ST} {a k : Nat} {x : Int32} : e_P (e_sI st a k x) = e_P st := rfl
theorem y_sI_N {st : e_ST} {a k : Nat} {x : Int32} : e_N (e_sI st a k x) = e_N st := rfl
theorem y_sI_T {st : e_ST} {a k : Nat} {x : Int32} : e_T (e_sI st a k x) = e_T st := rfl
theorem y_sI_Z {st : e_ST} {a k : Nat} {x : Int32} : e_Z (e_sI st a k x) = e_Z st := rfl
theorem y_sL_L {st : e_ST} {a k b : Nat} {x : Int64} : e_L (e_sL st a k x) b = if b = a then vp_updL (e_L st a) k x else e_L st b := rfl
theorem y_sL_I {st : e_ST} {a k : Nat} {x : Int64} : e_I (e_sL st a k x) = e_I st := rfl
theorem y_sL_P {st : e_ST} {a k : Nat} {x : Int64} : e_P (e_sL st a k x) = e_P st := rfl
theorem y_sL_N {st : e_ST} {a k : Nat} {x : Int64} : e_N (e_sL st a k x) = e_N st := rfl
theorem y_sL_T {st : e_ST} {a k : Nat} {x : Int64} : e_T (e_sL st a k x) = e_T st := rfl
theorem y_sL_Z {st : e_ST} {a k : Nat} {x : Int64} : e_Z (e_sL st a k x) = e_Z st := rfl
theorem y_rd_0 {a k : Nat} : y_rd w 0 a k = (e_I w.1 a k).toInt := rfl
theorem y_rd_1 {a k : Nat} : y_rd w 1 a k = (e_L w.1 a k).toInt := rfl
theorem y_rd_2 {a k : Nat} : y_rd w 2 a k = y_en (e_P w.1 a k) := rfl
theorem y_rd_3 {a k : Nat} : y_rd w 3 a k = (e_N w.1 a : Int) := rfl
theorem y_rd_4 {a k : Nat} : y_rd w 4 a k = (e_T w.1 : Int) := rfl
theorem y_rd_5 {a k : Nat} : y_rd w 5 a k = (e_Z w.1 : Int) := rfl
theorem y_rd_6 {n a k : Nat} : y_rd w (n + 6) a k = (match n with
  | 0 => w.2 a k
  | 2 => y_r8 w a k
  | _ => 0) := by
  match n with
  | 0 => rfl
  | 1 => rfl
  | 2 => rfl
  | m + 3 => rfl
theorem y_rd_66 {a k : Nat} : y_rd w 6 a k = w.2 a k := rfl
theorem y_rd_77 {a k : Nat} : y_rd w 7 a k = 0 := rfl
theorem y_rd_88 {a k : Nat} : y_rd w 8 a k = y_r8 w a k := rfl
theorem y_rd_99 {n a k : Nat} : y_rd w (n + 9) a k = 0 := rfl
theorem y_W1_I {a k : Nat} {x : Int32} : y_W1 w (e_sI w.1 a k x, w.2) 0 a k ∧ y_rd (e_sI w.1 a k x, w.2) 0 a k = x.toInt := by
  refine ⟨⟨fun kd b j h => ?_, rfl, rfl, rfl, rfl⟩, ?_⟩
  · match kd with
    | 0 =>
      rw [y_rd_0, y_rd_0, y_sI_I]
      by_cases hb : b = a
      · rw [if_pos hb]
        unfold upd
        rw [if_neg (fun hj => h ⟨Or.inl rfl, hb, hj⟩), hb]
      · rw [if_neg hb]
    | 1 => rw [y_rd_1, y_rd_1, y_sI_L]
    | 2 => rw [y_rd_2, y_rd_2, y_sI_P]
    | 3 => rw [y_rd_3, y_rd_3, y_sI_N]
    | 4 => rw [y_rd_4, y_rd_4, y_sI_T]
    | 5 => rw [y_rd_5, y_rd_5, y_sI_Z]
    | 6 => rw [y_rd_66, y_rd_66]
    | 7 => rw [y_rd_77, y_rd_77]
    | 8 =>
      rw [y_rd_88, y_rd_88]
      refine y_r8_cg y_sI_T rfl ?_
      show e_I (e_sI w.1 a k x) b j = e_I w.1 b j
      rw [y_sI_I]
      by_cases hb : b = a
      · rw [if_pos hb]
        unfold upd
        rw [if_neg (fun hj => h ⟨Or.inr ⟨rfl, rfl⟩, hb, hj⟩), hb]
      · rw [if_neg hb]
    | n + 9 => rw [y_rd_99, y_rd_99]
  · rw [y_rd_0, y_sI_I, if_pos rfl]
    unfold upd
    rw [if_pos rfl]
theorem y_W1_L {a k : Nat} {x : Int64} : y_W1 w (e_sL w.1 a k x, w.2) 1 a k ∧ y_rd (e_sL w.1 a k x, w.2) 1 a k = x.toInt := by
  refine ⟨⟨fun kd b j h => ?_, rfl, rfl, rfl, rfl⟩, ?_⟩
  · match kd with
    | 1 =>
      rw [y_rd_1, y_rd_1, y_sL_L]
      by_cases hb : b = a
      · rw [if_pos hb]
        unfold vp_updL
        rw [if_neg (fun hj => h ⟨Or.inl rfl, hb, hj⟩), hb]
      · rw [if_neg hb]
    | 0 => rw [y_rd_0, y_rd_0, y_sL_I]
    | 2 => rw [y_rd_2, y_rd_2, y_sL_P]
    | 3 => rw [y_rd_3, y_rd_3, y_sL_N]
    | 4 => rw [y_rd_4, y_rd_4, y_sL_T]
    | 5 => rw [y_rd_5, y_rd_5, y_sL_Z]
    | 6 => rw [y_rd_66, y_rd_66]
    | 7 => rw [y_rd_77, y_rd_77]
    | 8 =>
      rw [y_rd_88, y_rd_88]
      refine y_r8_cg y_sL_T rfl ?_
      show e_I (e_sL w.1 a k x) b j = e_I w.1 b j
      rw [y_sL_I]
    | n + 9 => rw [y_rd_99, y_rd_99]
  · rw [y_rd_1, y_sL_L, if_pos rfl]
    unfold vp_updL
    rw [if_pos rfl]
theorem y_W1_P {a k : Nat} {x : Option Nat} : y_W1 w (e_sP w.1 a k x, w.2) 2 a k ∧ y_rd (e_sP w.1 a k x, w.2) 2 a k = y_en x ∧ e_P (e_sP w.1 a k x) a k = x := by
  have h9 : e_P (e_sP w.1 a k x) a k = x := by
    show (if a = a then va_up (e_P w.1 a) k x else e_P w.1 a) k = x
    rw [if_pos rfl]
    show (if k = k then x else _) = x
    rw [if_pos rfl]
  refine ⟨⟨fun kd b j h => ?_, rfl, rfl, rfl, rfl⟩, congrArg y_en h9, h9⟩
  match kd with
  | 2 =>
    refine congrArg y_en (?_ : e_P (e_sP w.1 a k x) b j = e_P w.1 b j)
    show (if b = a then va_up (e_P w.1 a) k x else e_P w.1 b) j = e_P w.1 b j
    by_cases hb : b = a
    · rw [if_pos hb]
      show (if j = k then x else e_P w.1 a j) = _
      rw [if_neg (fun hj => h ⟨Or.inl rfl, hb, hj⟩), hb]
    · rw [if_neg hb]
  | 0 => rfl
  | 1 => rfl
  | 3 => rfl
  | 4 => rfl
  | 5 => rfl
  | 6 => rw [y_rd_66, y_rd_66]
  | 7 => rw [y_rd_77, y_rd_77]
  | 8 =>
    rw [y_rd_88, y_rd_88]
    exact y_r8_cg rfl rfl rfl
  | n + 9 => rw [y_rd_99, y_rd_99]
theorem y_nb (x : Int32) (h1 : 0 ≤ x.toInt) (h2 : x.toInt ≤ 1) : narrow .boolean (.int x) = .int x ∧ fits .boolean (.int x) = true := by
  have h : x = 0 ∨ x = 1 := by
    by_cases h3 : x.toInt = 0
    · exact Or.inl (Int32.toInt_inj.mp h3)
    · exact Or.inr (Int32.toInt_inj.mp (by have : x.toInt = 1 := by omega
                                           exact this))
  rcases h with rfl | rfl
  · exact ⟨by decide +kernel, by decide +kernel⟩
  · exact ⟨by decide +kernel, by decide +kernel⟩
theorem y_nB (x : Int32) (h1 : -128 ≤ x.toInt) (h2 : x.toInt ≤ 127) : narrow .byte (.int x) = .int x ∧ fits .byte (.int x) = true := by
  refine ⟨?_, ?_⟩
  · show Value.int (x.toInt8.toInt32) = .int x
    congr 1
    exact Int32.toInt_inj.mp ((y_i2b x).2.2 h1 h2)
  · show (decide ((-128 : Int32) ≤ x) && decide (x ≤ 127)) = true
    rw [Bool.and_eq_true, decide_eq_true_iff, decide_eq_true_iff, Int32.le_iff_toInt_le, Int32.le_iff_toInt_le]
    exact ⟨h1, h2⟩
/-- a value goes into a field -/
theorem y_set_ok {ty : FieldType} {q : y_SV} {v : Value} {L : List g_LE} {a k p : Nat} (h0 : r 0 = 1) (hq : y_dV (w_KT U) (w_LT U) r w.1 q v) (ht : y_tgk U ty q p = true) (hL : y_nrw ty q.2 = some L) (hf : ∀ f ∈ L, 0 ≤ g_ev r f) : ∃ st', e_set w.1 a k ty v = some st' ∧ y_W1 w (st', w.2) (y_kd ty) a k ∧ y_rd (st', w.2) (y_kd ty) a k = g_ev r q.2 ∧ ∀ b, y_kd ty = 2 → e_P st' a k = some b → y_pt (w_KT U) (w_LT U) w.1 p b := by
  obtain ⟨t, e⟩ := q
  have hptr : y_kd ty = 2 → (∀ x : Option Nat, v = va_rf x → e_set w.1 a k ty v = some (e_sP w.1 a k x)) → ∃ st', e_set w.1 a k ty v = some st' ∧ y_W1 w (st', w.2) (y_kd ty) a k ∧ y_rd (st', w.2) (y_kd ty) a k = g_ev r e ∧ ∀ b, y_kd ty = 2 → e_P st' a k = some b → y_pt (w_KT U) (w_LT U) w.1 p b := by
    intro h2 hset
    unfold y_tgk at ht
    rw [h2] at ht
    have ht2 : (Nat.ble 2 t && (Nat.beq t (p + 2) || (g_eq e [] || (w_KT U p).isNone))) = true := ht
    rw [Bool.and_eq_true, Bool.or_eq_true, Bool.or_eq_true] at ht2
    obtain ⟨ht3, ht4⟩ := ht2
    have ht3 := Nat.le_of_ble_eq_true ht3
    match t, ht3 with
    | t + 2, _ =>
      obtain ⟨x, rfl, h3, h4⟩ := hq
      obtain ⟨g1, g2, g3⟩ := y_W1_P (w := w) (a := a) (k := k) (x := x)
      refine ⟨_, hset x rfl, by rw [h2]; exact g1, by rw [h2, g2]; exact h3, fun b _ hb => ?_⟩
      rw [g3] at hb
      rcases ht4 with h5 | h5 | h5
      · have h6 := Nat.eq_of_beq_eq_true h5
        have h7 : t = p := by omega
        rw [← h7]
        exact h4 b hb
      · have h6 : e = [] := g_eq_ok h5
        subst h6
        subst hb
        have h7 : (b : Int) + 1 = 0 := h3
        omega
      · intro kd hkd
        rw [hkd] at h5
        cases h5
  cases ty with
  | int =>
    have h1 : t = 0 := Nat.eq_of_beq_eq_true ht
    subst h1
    obtain ⟨x, rfl, hx⟩ := hq
    exact ⟨_, by unfold e_set; rw [if_pos ⟨rfl, rfl⟩], y_W1_I.1, y_W1_I.2.trans hx, fun b h => by cases h⟩
  | boolean =>
    have h1 : t = 0 := Nat.eq_of_beq_eq_true ht
    subst h1
    obtain ⟨x, rfl, hx⟩ := hq
    cases hL
    have b1 := hf e List.mem_cons_self
    have b2 := hf (g_ac 1 (g_k (-1) e)) (List.mem_cons_of_mem _ List.mem_cons_self)
    have hx : x.toInt = g_ev r e := hx
    rw [g_ev_ac r h0, g_ev_k] at b2
    have h2 := y_nb x (by omega) (by omega)
    refine ⟨_, ?_, y_W1_I.1, y_W1_I.2.trans hx, fun b h => by cases h⟩
    unfold e_set
    rw [if_pos h2]
  | byte =>
    have h1 : t = 0 := Nat.eq_of_beq_eq_true ht
    subst h1
    obtain ⟨x, rfl, hx⟩ := hq
    cases hL
    have b1 := hf (g_ac 128 e) List.mem_cons_self
    have b2 := hf (g_ac 127 (g_k (-1) e)) (List.mem_cons_of_mem _ List.mem_cons_self)
    have hx : x.toInt = g_ev r e := hx
    rw [g_ev_ac r h0] at b1
    rw [g_ev_ac r h0, g_ev_k] at b2
    have h2 := y_nB x (by omega) (by omega)
    refine ⟨_, ?_, y_W1_I.1, y_W1_I.2.trans hx, fun b h => by cases h⟩
    unfold e_set
    rw [if_pos h2]
  | long =>
    have h1 : t = 1 := Nat.eq_of_beq_eq_true ht
    subst h1
    obtain ⟨x, rfl, hx⟩ := hq
    exact ⟨_, by unfold e_set; rw [if_pos ⟨rfl, rfl⟩], y_W1_L.1, y_W1_L.2.trans hx, fun b h => by cases h⟩
  | object C => exact hptr rfl fun x hx => by subst hx; cases x <;> (unfold e_set; rw [if_pos ⟨rfl, rfl⟩]; rfl)
  | array C => exact hptr rfl fun x hx => by subst hx; cases x <;> (unfold e_set; rw [if_pos ⟨rfl, rfl⟩]; rfl)
  | _ => cases hL
theorem y_cpf_ok (hU : y_UO U) (hA : y_AO AT fp) {idx : Nat} (h : y_cpf U fp N t0 T (e_mo M) (e_ini M) idx pc S s = some (B, s')) (k : y_DD U AT r S lv stk w) : y_CP U AT N t0 r S w B (y_eh T M (.putfield idx) pc lv stk w.1) := by
  have h0 := k.1
  unfold y_cpf at h
  split at h
  · rename_i qv t e l hs
    split at h
    · rename_i ci kf cj hfl hkt
      split at h
      · cases h
      · rename_i hc
        rw [Bool.and_eq_true] at hc
        have hcc := Nat.eq_of_beq_eq_true hc.1
        subst hcc
        split at h
        · rename_i q L hcl hnr
          split at h
          · cases h
          · rename_i hfin
            split at h
            · cases h
            · rename_i s1 hck
              split at h
              · cases h
              · rename_i S1 s2 hput
                cases h
                obtain ⟨v, rest0, rfl, hv, k0⟩ := y_D_po k hs
                obtain ⟨v1, rest, rfl, hv1, k1⟩ := y_D_po (S := y_st S ((t + 2, e) :: l)) (l := l) k0 rfl
                have hall := y_cks_ok h0 k.2.2.2.2.1 hck
                obtain ⟨b, rfl, hb, hpt⟩ := y_nn1 h0 hv1 (hall _ List.mem_cons_self)
                have hK := (hpt _ hkt).1
                obtain ⟨st', g1, g2, g3, g4⟩ := y_set_ok (a := b) (k := kf) h0 hv hc.2 hnr (fun f hf => hall f (List.mem_cons_of_mem _ hf))
                obtain ⟨p1, ⟨p2, p3, p4⟩, p5, p6⟩ := y_put_ok (A := b) (K := kf) hU hA hput k1 (y_kd_lt _) hb (by rw [g_ev_c r h0]) hK rfl g2 g3 g4
                refine ⟨pc + 3, lv, rest, (st', w.2), S1, r, List.mem_cons_self, ⟨fun _ _ => rfl, Nat.le_of_eq p2.symm⟩, p1, ?_, _, p5, p6⟩
                unfold y_eh e_h
                dsimp only
                rw [hfl]
                dsimp only
                rw [hcl]
                dsimp only
                rw [if_pos ⟨hK, y_fno_ok hfin⟩, g1]
                rfl
        · cases h
    · cases h
  · cases h
end Y_ST
end
