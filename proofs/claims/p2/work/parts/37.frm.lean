/-! PART 37: what may have changed: items (kind, addresses, places); what stays known; what a method may change -/
noncomputable section
abbrev y_MI : Type := Nat × g_LE × g_LE × Option (g_LE × g_LE)
def y_cvr (r : Nat → Int) (m : y_MI) (kd a k : Nat) : Prop := m.1 = kd ∧ (kd = 4 ∨ kd = 5 ∨ (g_ev r m.2.1 ≤ (a : Int) ∧ (a : Int) ≤ g_ev r m.2.2.1 ∧ ∀ q, m.2.2.2 = some q → g_ev r q.1 ≤ (k : Int) ∧ (k : Int) ≤ g_ev r q.2))
def y_Fr (r : Nat → Int) (M : List y_MI) (w w' : y_W) : Prop := (∀ kd a k, (kd = 3 → a < e_T w.1) → (∀ m ∈ M, ¬ y_cvr r m kd a k) → y_rd w' kd a k = y_rd w kd a k) ∧ (∀ a c, e_K w.1 a = some c → e_K w'.1 a = some c ∧ e_N w'.1 a = e_N w.1 a) ∧ e_T w.1 ≤ e_T w'.1 ∧ e_Z w.1 ≤ e_Z w'.1
theorem y_Fr.rf {r : Nat → Int} {M : List y_MI} {w : y_W} : y_Fr r M w w := ⟨fun _ _ _ _ _ => rfl, fun _ _ h => ⟨h, rfl⟩, Nat.le_refl _, Nat.le_refl _⟩
def y_pos (c : Int) : Bool := @Int.rec (fun _ => Bool) (fun n => Nat.ble 1 n) (fun _ => false) c
theorem y_pos_ok {c : Int} (h : y_pos c = true) : 0 < c := by
  cases c with
  | ofNat n =>
    have h1 : 1 ≤ n := Nat.le_of_ble_eq_true h
    exact Int.natCast_pos.mpr h1
  | negSucc n => cases h
/-- a place is outside an item: [] it may lie within; else by which of four -/
def y_osk (F : List g_LE) (m : y_MI) (a k : g_LE) (s : y_Str) : Option (Bool × y_Str) := match s with
  | [] :: s1 => some (false, s1)
  | [(j, _)] :: s1 => (match y_ck F s1 (match j, m.2.2.2 with
    | 0, _ => g_ac (-1) (g_sub m.2.1 a)
    | 1, _ => g_ac (-1) (g_sub a m.2.2.1)
    | 2, some q => g_ac (-1) (g_sub q.1 k)
    | _, some q => g_ac (-1) (g_sub k q.2)
    | _, none => g_c (-1)) with
    | some s2 => some (true, s2)
    | none => none)
  | _ => none
def y_out (F : List g_LE) (m : y_MI) (kd : Nat) (a k : g_LE) (s : y_Str) : Option (Bool × y_Str) := match Nat.beq m.1 kd with
  | false => some (true, s)
  | true => match Nat.beq kd 4 || Nat.beq kd 5 with
    | true => some (false, s)
    | false => match g_dk m.2.1 a, g_dk a m.2.2.1 with
      | some c1, some c2 => (match y_pos c1 || y_pos c2 with
        | true => some (true, s)
        | false => match m.2.2.2 with
          | none => some (false, s)
          | some q => match g_dk q.1 k, g_dk k q.2 with
            | some d1, some d2 => some (y_pos d1 || y_pos d2, s)
            | _, _ => y_osk F m a k s)
      | _, _ => y_osk F m a k s
/-! what a list of items touches, as bits: the slow way is gone only where bits meet -/
def y_45 (kd : Nat) : Bool := @Bool.rec (fun _ => Bool) (Nat.beq kd 5) true (Nat.beq kd 4)
def y_ix (kd a : Nat) : Nat := @Bool.rec (fun _ => Nat) (Nat.add (Nat.mul a 8) (Nat.add kd 8)) kd (y_45 kd)
/-- a number that is an address -/
def y_an (e : g_LE) : Option Nat := @Option.rec Int (fun _ => Option Nat) none (fun c => @Int.rec (fun _ => Option Nat) (fun n => some n) (fun _ => none) c) (g_cst e)
def y_m1 (m : y_MI) : Nat := @Bool.rec (fun _ => Nat) (@Option.rec Nat (fun _ => Nat) 1 (fun a => @Option.rec Nat (fun _ => Nat) 1 (fun b => @Bool.rec (fun _ => Nat) 1 (@Bool.rec (fun _ => Nat) 1 (Nat.shiftLeft 1 (y_ix m.1 a)) (Nat.ble a 4095)) (Nat.beq a b)) (y_an m.2.2.1)) (y_an m.2.1)) (Nat.shiftLeft 1 m.1) (y_45 m.1)
def y_msk (M : List y_MI) : Nat := @List.rec y_MI (fun _ => Nat) 0 (fun m _ ih => Nat.lor (y_m1 m) ih) M
def y_mdj (K L : Nat) : Bool := @Bool.rec (fun _ => Bool) false (Nat.beq (Nat.land (Nat.lor K L) 1) 0) (Nat.beq (Nat.land K L) 0)
theorem y_45_ok {kd : Nat} : y_45 kd = true ↔ kd = 4 ∨ kd = 5 := by
  unfold y_45
  cases h : Nat.beq kd 4 with
  | true => exact ⟨fun _ => Or.inl (Nat.eq_of_beq_eq_true h), fun _ => rfl⟩
  | false =>
    have h2 : kd ≠ 4 := fun hc => by rw [hc] at h; cases h
    show Nat.beq kd 5 = true ↔ _
    rw [Nat.beq_eq]
    exact ⟨fun h => Or.inr h, fun h => h.resolve_left h2⟩
theorem y_an_ok {r : Nat → Int} (h0 : r 0 = 1) {e : g_LE} {a : Nat} (h : y_an e = some a) : g_ev r e = (a : Int) := by
  unfold y_an at h
  cases hc : g_cst e with
  | none => rw [hc] at h; cases h
  | some c =>
    rw [hc] at h
    have h1 := g_cst_ok h0 hc
    cases c with
    | ofNat n => cases h; exact h1
    | negSucc n => cases h
theorem y_sh1 {i : Nat} : (Nat.shiftLeft 1 i).testBit i = true := by
  show (1 <<< i).testBit i = true
  rw [Nat.testBit_shiftLeft]
  simp
theorem y_m1_ok {r : Nat → Int} (h0 : r 0 = 1) {m : y_MI} {kd a k : Nat} (h : y_cvr r m kd a k) : (y_m1 m).testBit 0 = true ∨ (y_m1 m).testBit (y_ix kd a) = true := by
  obtain ⟨h1, h2⟩ := h
  unfold y_m1
  rw [h1]
  unfold y_ix
  cases h4 : y_45 kd with
  | true => exact Or.inr y_sh1
  | false =>
    have h5 : ¬ (kd = 4 ∨ kd = 5) := fun hc => by rw [y_45_ok.mpr hc] at h4; cases h4
    have h6 : g_ev r m.2.1 ≤ (a : Int) ∧ (a : Int) ≤ g_ev r m.2.2.1 := by
      rcases h2 with h2 | h2 | h2
      · exact absurd (Or.inl h2) h5
      · exact absurd (Or.inr h2) h5
      · exact ⟨h2.1, h2.2.1⟩
    dsimp only
    cases ha : y_an m.2.1 with
    | none => exact Or.inl (show (1 : Nat).testBit 0 = true from rfl)
    | some x =>
      cases hb : y_an m.2.2.1 with
      | none => exact Or.inl (show (1 : Nat).testBit 0 = true from rfl)
      | some y =>
        dsimp only
        cases hxy : Nat.beq x y with
        | false => exact Or.inl (show (1 : Nat).testBit 0 = true from rfl)
        | true =>
          cases hx : Nat.ble x 4095 with
          | false => exact Or.inl (show (1 : Nat).testBit 0 = true from rfl)
          | true =>
            have e1 := y_an_ok h0 ha
            have e2 := y_an_ok h0 hb
            have e3 := Nat.eq_of_beq_eq_true hxy
            have e4 : x = a := by omega
            subst e4
            exact Or.inr y_sh1
theorem y_msk_ok {r : Nat → Int} (h0 : r 0 = 1) {kd a k : Nat} : ∀ {M : List y_MI}, ∀ m ∈ M, y_cvr r m kd a k → (y_msk M).testBit 0 = true ∨ (y_msk M).testBit (y_ix kd a) = true
  | [], m, hm, _ => by cases hm
  | m0 :: M, m, hm, hc => by
    show (y_m1 m0 ||| y_msk M).testBit 0 = true ∨ (y_m1 m0 ||| y_msk M).testBit (y_ix kd a) = true
    rw [Nat.testBit_or, Nat.testBit_or, Bool.or_eq_true, Bool.or_eq_true]
    rcases List.mem_cons.mp hm with hm | hm
    · subst hm
      rcases y_m1_ok h0 hc with h1 | h1
      · exact Or.inl (Or.inl h1)
      · exact Or.inr (Or.inl h1)
    · rcases y_msk_ok h0 m hm hc with h1 | h1
      · exact Or.inl (Or.inr h1)
      · exact Or.inr (Or.inr h1)
theorem y_mdj_ok {K L i : Nat} (h : y_mdj K L = true) (hk : K.testBit 0 = true ∨ K.testBit i = true) (hl : L.testBit 0 = true ∨ L.testBit i = true) : False := by
  unfold y_mdj at h
  cases h1 : Nat.beq (Nat.land K L) 0 with
  | false => rw [h1] at h; cases h
  | true =>
    rw [h1] at h
    have h2 : (K ||| L) &&& 1 = 0 := Nat.eq_of_beq_eq_true h
    have h3 : K &&& L = 0 := Nat.eq_of_beq_eq_true h1
    have b0 : ((K ||| L) &&& 1).testBit 0 = false := by rw [h2]; exact Nat.zero_testBit 0
    rw [Nat.testBit_and, Nat.testBit_or] at b0
    have b1 : (1 : Nat).testBit 0 = true := rfl
    rw [b1, Bool.and_true, Bool.or_eq_false_iff] at b0
    have bi : (K &&& L).testBit i = false := by rw [h3]; exact Nat.zero_testBit i
    rw [Nat.testBit_and] at bi
    rcases hk with hk | hk
    · rw [b0.1] at hk; cases hk
    · rcases hl with hl | hl
      · rw [b0.2] at hl; cases hl
      · rw [hk, hl] at bi; cases bi
def y_outs0 (F : List g_LE) (kd : Nat) (a k : g_LE) : List y_MI → y_Str → Option (Bool × y_Str)
  | [], s => some (true, s)
  | m :: l, s => match y_out F m kd a k s with
    | none => none
    | some (false, s1) => some (false, s1)
    | some (true, s1) => y_outs0 F kd a k l s1
def y_outs (F : List g_LE) (kd : Nat) (a k : g_LE) (M : List y_MI) (s : y_Str) : Option (Bool × y_Str) := @Bool.rec (fun _ => Option (Bool × y_Str)) (y_outs0 F kd a k M s) (some (true, s)) (y_mdj (y_msk M) (y_m1 (kd, a, a, none)))
/-- the entries that stay -/
def y_flt (F : List g_LE) (M : List y_MI) : List y_ME → y_Str → Option (List y_ME × y_Str)
  | [], s => some ([], s)
  | e :: l, s => match Nat.beq e.1 7 with
    | true => (match y_flt F M l s with
      | some (l', s1) => some (e :: l', s1)
      | none => none)
    | false => match y_outs F e.1 e.2.1 e.2.2.1 M s with
      | none => none
      | some (b, s1) => match y_flt F M l s1 with
        | none => none
        | some (l', s2) => match b with
          | true => some (e :: l', s2)
          | false => some (l', s2)
section Y_FRM
variable {r r' : Nat → Int} {w w' w'' : y_W} {s s' : y_Str} {F : List g_LE}
theorem y_osk_ok (h0 : r 0 = 1) (hF : g_FF r F) {m : y_MI} {a k : g_LE} {A K kd : Nat} (hA : g_ev r a = A) (hK : g_ev r k = K) (hkd : kd ≠ 4 ∧ kd ≠ 5) (h : y_osk F m a k s = some (true, s')) : ¬ y_cvr r m kd A K := by
  unfold y_osk at h
  split at h
  · cases h
  · rename_i j x s1
    split at h
    · rename_i s2 hq
      have h1 := y_ck_ok h0 hF hq
      rintro ⟨-, h2 | h2 | ⟨h2, h3, h4⟩⟩
      · exact hkd.1 h2
      · exact hkd.2 h2
      · split at h1
        · rw [g_ev_ac r h0, g_ev_sub] at h1
          omega
        · rw [g_ev_ac r h0, g_ev_sub] at h1
          omega
        · rename_i q hm
          have h5 := h4 q hm
          rw [g_ev_ac r h0, g_ev_sub] at h1
          omega
        · rename_i q _ _ _ hm
          have h5 := h4 q hm
          rw [g_ev_ac r h0, g_ev_sub] at h1
          omega
        · rw [g_ev_c r h0] at h1
          exact absurd h1 (by decide)
    · cases h
  · cases h
theorem y_out_ok (h0 : r 0 = 1) (hF : g_FF r F) {m : y_MI} {a k : g_LE} {A K kd : Nat} (hA : g_ev r a = A) (hK : g_ev r k = K) (h : y_out F m kd a k s = some (true, s')) : ¬ y_cvr r m kd A K := by
  unfold y_out at h
  split at h
  · rename_i hq
    rintro ⟨h1, -⟩
    rw [h1, Nat.beq_refl] at hq
    cases hq
  · split at h
    · cases h
    · rename_i hn
      have hkd : kd ≠ 4 ∧ kd ≠ 5 := by
        refine ⟨fun h4 => ?_, fun h5 => ?_⟩
        · rw [h4] at hn; cases hn
        · rw [h5] at hn; cases hn
      split at h
      · rename_i c1 c2 hc1 hc2
        have e1 := g_dk_ok h0 hc1
        have e2 := g_dk_ok h0 hc2
        rw [g_ev_sub] at e1 e2
        split at h
        · rename_i hp
          rw [Bool.or_eq_true] at hp
          rintro ⟨-, h2 | h2 | ⟨h2, h3, h4⟩⟩
          · exact hkd.1 h2
          · exact hkd.2 h2
          · rcases hp with hp | hp
            · have := y_pos_ok hp
              omega
            · have := y_pos_ok hp
              omega
        · split at h
          · cases h
          · rename_i q hm
            split at h
            · rename_i d1 d2 hd1 hd2
              have f1 := g_dk_ok h0 hd1
              have f2 := g_dk_ok h0 hd2
              rw [g_ev_sub] at f1 f2
              have hp : (y_pos d1 || y_pos d2) = true := by
                have := Option.some.inj h
                exact (Prod.mk.inj this).1
              rw [Bool.or_eq_true] at hp
              rintro ⟨-, h2 | h2 | ⟨h2, h3, h4⟩⟩
              · exact hkd.1 h2
              · exact hkd.2 h2
              · have h5 := h4 q hm
                rcases hp with hp | hp
                · have := y_pos_ok hp
                  omega
                · have := y_pos_ok hp
                  omega
            · exact y_osk_ok h0 hF hA hK hkd h
      · exact y_osk_ok h0 hF hA hK hkd h
theorem y_outs0_ok (h0 : r 0 = 1) (hF : g_FF r F) {a k : g_LE} {A K kd : Nat} (hA : g_ev r a = A) (hK : g_ev r k = K) : ∀ {M : List y_MI} {s s' : y_Str}, y_outs0 F kd a k M s = some (true, s') → ∀ m ∈ M, ¬ y_cvr r m kd A K
  | [], _, _, _, m, hm => by cases hm
  | m0 :: l, s, s', h, m, hm => by
    unfold y_outs0 at h
    split at h
    · cases h
    · cases h
    · rename_i s1 hq
      rcases List.mem_cons.mp hm with hm | hm
      · rw [hm]; exact y_out_ok h0 hF hA hK hq
      · exact y_outs0_ok h0 hF hA hK h m hm
theorem y_outs_ok (h0 : r 0 = 1) (hF : g_FF r F) {a k : g_LE} {A K kd : Nat} (hA : g_ev r a = A) (hK : g_ev r k = K) {M : List y_MI} {s s' : y_Str} (h : y_outs F kd a k M s = some (true, s')) : ∀ m ∈ M, ¬ y_cvr r m kd A K := by
  unfold y_outs at h
  cases hq : y_mdj (y_msk M) (y_m1 (kd, a, a, none)) with
  | false =>
    rw [hq] at h
    exact y_outs0_ok h0 hF hA hK h
  | true =>
    intro m hm hc
    refine y_mdj_ok hq (y_msk_ok h0 m hm hc) (y_m1_ok (k := K) h0 ⟨rfl, Or.inr (Or.inr ⟨?_, ?_, fun q hq => by cases hq⟩)⟩)
    · show g_ev r a ≤ (A : Int); omega
    · show (A : Int) ≤ g_ev r a; omega
theorem y_dM7 {a k v : g_LE} : y_dM r w (7, a, k, v) = (g_ev r a * g_ev r k = g_ev r v) := rfl
theorem y_flt_ok (h0 : r 0 = 1) (hF : g_FF r F) {M : List y_MI} (hfr : y_Fr r M w w') : ∀ {ms ms' : List y_ME} {s s' : y_Str}, y_flt F M ms s = some (ms', s') → (∀ m ∈ ms, y_dM r w m) → ∀ m ∈ ms', y_dM r w' m
  | [], ms', s, s', h, hm, m, hmm => by cases h; cases hmm
  | e :: l, ms', s, s', h, hm, m, hmm => by
    have ih := hm e List.mem_cons_self
    have hl : ∀ m ∈ l, y_dM r w m := fun m h => hm m (List.mem_cons_of_mem _ h)
    obtain ⟨kd, a, k, v⟩ := e
    unfold y_flt at h
    split at h
    · rename_i h7
      split at h
      · rename_i l' s1 hq
        cases h
        rcases List.mem_cons.mp hmm with hmm | hmm
        · subst hmm
          have hk7 : kd = 7 := Nat.eq_of_beq_eq_true h7
          subst hk7
          rw [y_dM7] at ih ⊢
          exact ih
        · exact y_flt_ok h0 hF hfr hq hl m hmm
      · cases h
    · rename_i h7
      have hk7 : kd ≠ 7 := by
        intro hc
        subst hc
        cases h7
      split at h
      · cases h
      · rename_i b s1 ho
        split at h
        · cases h
        · rename_i l' s2 hq
          split at h
          · cases h
            rcases List.mem_cons.mp hmm with hmm | hmm
            · subst hmm
              unfold y_dM at ih ⊢
              split at ih
              · rename_i h9
                exact absurd h9 hk7
              · obtain ⟨i1, i2, i3, i4⟩ := ih
                have hA : g_ev r a = ((g_ev r a).toNat : Int) := (Int.toNat_of_nonneg i3).symm
                have hK : g_ev r k = ((g_ev r k).toNat : Int) := (Int.toNat_of_nonneg i4).symm
                refine ⟨(hfr.1 kd _ _ (fun h3 => i2 (by omega)) (y_outs_ok h0 hF hA hK ho)).trans i1, fun h4 => Nat.lt_of_lt_of_le (i2 h4) hfr.2.2.1, i3, i4⟩
            · exact y_flt_ok h0 hF hfr hq hl m hmm
          · cases h
            exact y_flt_ok h0 hF hfr hq hl m hmm
/-! what a method may change -/
/-- an item lies within one of the method's own, or among what it has made: the next says where -/
def y_wth (F : List g_LE) (m n : y_MI) (s : y_Str) : Option y_Str := match Nat.beq m.1 n.1 with
  | false => none
  | true => match Nat.beq m.1 4 || Nat.beq m.1 5 with
    | true => some s
    | false => y_cks F s ([g_sub m.2.1 n.2.1, g_sub n.2.2.1 m.2.2.1] ++ (match n.2.2.2 with
      | none => []
      | some q => match m.2.2.2 with
        | none => [g_c (-1)]
        | some p => [g_sub p.1 q.1, g_sub q.2 p.2]))
/-- by numbers alone -/
def y_wt0 (m n : y_MI) : Bool := match Nat.beq m.1 n.1 with
  | false => false
  | true => (Nat.beq m.1 4 || Nat.beq m.1 5) || ((match g_dk m.2.1 n.2.1, g_dk n.2.2.1 m.2.2.1 with
    | some c1, some c2 => g_nn c1 && g_nn c2
    | _, _ => false) && (match n.2.2.2 with
      | none => true
      | some q => match m.2.2.2 with
        | none => false
        | some p => match g_dk p.1 q.1, g_dk q.2 p.2 with
          | some c1, some c2 => g_nn c1 && g_nn c2
          | _, _ => false))
def y_cov (F : List g_LE) (N : List y_MI) (t0 : Option g_LE) (m : y_MI) (s : y_Str) : Option y_Str := match N.any (y_wt0 m) with
  | true => some s
  | false => match s with
    | [] :: s1 => (match t0 with
      | none => none
      | some t => match Nat.blt m.1 4 with
        | true => y_ck F s1 (g_sub m.2.1 t)
        | false => none)
    | [(j, _)] :: s1 => (match N[j]? with
      | none => none
      | some n => y_wth F m n s1)
    | _ => none
def y_covs (F : List g_LE) (N : List y_MI) (t0 : Option g_LE) : List y_MI → y_Str → Option y_Str
  | [], s => some s
  | m :: l, s => match y_cov F N t0 m s with
    | none => none
    | some s1 => y_covs F N t0 l s1
theorem y_wt0_ok (h0 : r 0 = 1) {m n : y_MI} (h : y_wt0 m n = true) {kd a k : Nat} (hc : y_cvr r m kd a k) : y_cvr r n kd a k := by
  unfold y_wt0 at h
  split at h
  · cases h
  · rename_i hk
    have hkd := Nat.eq_of_beq_eq_true hk
    obtain ⟨h1, h2⟩ := hc
    refine ⟨hkd ▸ h1, ?_⟩
    rw [Bool.or_eq_true, Bool.or_eq_true, Bool.and_eq_true] at h
    rcases h2 with h2 | h2 | ⟨h2, h3, h4⟩
    · exact Or.inl h2
    · exact Or.inr (Or.inl h2)
    · rcases h with (h | h) | ⟨h5, h6⟩
      · exact Or.inl (h1 ▸ Nat.eq_of_beq_eq_true h)
      · exact Or.inr (Or.inl (h1 ▸ Nat.eq_of_beq_eq_true h))
      · refine Or.inr (Or.inr ?_)
        split at h5
        · rename_i c1 c2 hc1 hc2
          have e1 := g_dk_ok h0 hc1
          have e2 := g_dk_ok h0 hc2
          rw [g_ev_sub] at e1 e2
          rw [Bool.and_eq_true] at h5
          have p1 := g_nn_ok h5.1
          have p2 := g_nn_ok h5.2
          refine ⟨by omega, by omega, fun q hq => ?_⟩
          rw [hq] at h6
          dsimp only at h6
          split at h6
          · cases h6
          · rename_i p hp
            split at h6
            · rename_i d1 d2 hd1 hd2
              have f1 := g_dk_ok h0 hd1
              have f2 := g_dk_ok h0 hd2
              rw [g_ev_sub] at f1 f2
              rw [Bool.and_eq_true] at h6
              have p3 := g_nn_ok h6.1
              have p4 := g_nn_ok h6.2
              have p5 := h4 p hp
              omega
            · cases h6
        · cases h5
theorem y_wth_ok (h0 : r 0 = 1) (hF : g_FF r F) {m n : y_MI} (h : y_wth F m n s = some s') {kd a k : Nat} (hc : y_cvr r m kd a k) : y_cvr r n kd a k := by
  unfold y_wth at h
  split at h
  · cases h
  · rename_i hk
    have hkd := Nat.eq_of_beq_eq_true hk
    obtain ⟨h1, h2⟩ := hc
    refine ⟨hkd ▸ h1, ?_⟩
    split at h
    · rename_i h45
      rw [Bool.or_eq_true] at h45
      rcases h45 with h45 | h45
      · exact Or.inl (h1 ▸ Nat.eq_of_beq_eq_true h45)
      · exact Or.inr (Or.inl (h1 ▸ Nat.eq_of_beq_eq_true h45))
    · have hall := y_cks_ok h0 hF h
      rcases h2 with h2 | h2 | ⟨h2, h3, h4⟩
      · exact Or.inl h2
      · exact Or.inr (Or.inl h2)
      · refine Or.inr (Or.inr ?_)
        have e1 := hall (g_sub m.2.1 n.2.1) (List.mem_append_left _ List.mem_cons_self)
        have e2 := hall (g_sub n.2.2.1 m.2.2.1) (List.mem_append_left _ (List.mem_cons_of_mem _ List.mem_cons_self))
        rw [g_ev_sub] at e1 e2
        refine ⟨by omega, by omega, fun q hq => ?_⟩
        rw [hq] at hall
        dsimp only at hall
        cases hp : m.2.2.2 with
        | none =>
          rw [hp] at hall
          have e3 := hall (g_c (-1)) (List.mem_append_right _ List.mem_cons_self)
          rw [g_ev_c r h0] at e3
          exact absurd e3 (by decide)
        | some p =>
          rw [hp] at hall
          have e3 := hall (g_sub p.1 q.1) (List.mem_append_right _ List.mem_cons_self)
          have e4 := hall (g_sub q.2 p.2) (List.mem_append_right _ (List.mem_cons_of_mem _ List.mem_cons_self))
          rw [g_ev_sub] at e3 e4
          have p5 := h4 p hp
          omega
theorem y_cov_ok (h0 : r 0 = 1) (hF : g_FF r F) {N : List y_MI} {t0 : Option g_LE} {m : y_MI} (h : y_cov F N t0 m s = some s') {kd a k : Nat} (hc : y_cvr r m kd a k) : (∃ n ∈ N, y_cvr r n kd a k) ∨ (kd < 4 ∧ ∃ t, t0 = some t ∧ g_ev r t ≤ (a : Int)) := by
  unfold y_cov at h
  split at h
  · rename_i hq
    obtain ⟨n, hn, h1⟩ := List.any_eq_true.mp hq
    exact Or.inl ⟨n, hn, y_wt0_ok h0 h1 hc⟩
  · split at h
    · split at h
      · cases h
      · rename_i t
        split at h
        · rename_i h4
          have h1 := y_ck_ok h0 hF h
          rw [g_ev_sub] at h1
          obtain ⟨h2, h3⟩ := hc
          have hk4 : kd < 4 := h2 ▸ Nat.blt_eq.mp h4
          refine Or.inr ⟨hk4, t, rfl, ?_⟩
          rcases h3 with h3 | h3 | ⟨h3, -⟩
          · omega
          · omega
          · omega
        · cases h
    · rename_i j x s1
      split at h
      · cases h
      · rename_i n hn
        exact Or.inl ⟨n, List.mem_of_getElem? hn, y_wth_ok h0 hF h hc⟩
    · cases h
theorem y_covs_ok (h0 : r 0 = 1) (hF : g_FF r F) {N : List y_MI} {t0 : Option g_LE} : ∀ {M : List y_MI} {s s' : y_Str}, y_covs F N t0 M s = some s' → ∀ m ∈ M, ∀ {kd a k : Nat}, y_cvr r m kd a k → (∃ n ∈ N, y_cvr r n kd a k) ∨ (kd < 4 ∧ ∃ t, t0 = some t ∧ g_ev r t ≤ (a : Int))
  | [], _, _, _, m, hm => by cases hm
  | m0 :: l, s, s', h, m, hm => by
    intro hc
    unfold y_covs at h
    split at h
    · cases h
    · rename_i s1 hq
      rcases List.mem_cons.mp hm with hm | hm
      · subst hm; exact y_cov_ok h0 hF hq hc
      · exact y_covs_ok h0 hF h m hm hc
/-- one change behind another -/
theorem y_Fr.tr {N M : List y_MI} {t0 : Option g_LE} {r0 : Nat → Int} (h1 : y_Fr r0 N w w') (h2 : y_Fr r M w' w'') (hN : ∀ n ∈ N, ∀ kd a k, y_cvr r n kd a k → y_cvr r0 n kd a k) (ht : t0 = none) (hc : ∀ m ∈ M, ∀ {kd a k : Nat}, y_cvr r m kd a k → (∃ n ∈ N, y_cvr r n kd a k) ∨ (kd < 4 ∧ ∃ t, t0 = some t ∧ g_ev r t ≤ (a : Int))) : y_Fr r0 N w w'' := by
  obtain ⟨a1, a2, a3, a4⟩ := h1
  obtain ⟨b1, b2, b3, b4⟩ := h2
  refine ⟨fun kd a k hT hn => ?_, fun a c ha => ?_, Nat.le_trans a3 b3, Nat.le_trans a4 b4⟩
  · rw [b1 kd a k (fun h => Nat.lt_of_lt_of_le (hT h) a3) ?_, a1 kd a k hT hn]
    intro m hm hcv
    rcases hc m hm hcv with ⟨n, hnn, h5⟩ | ⟨h4, t, h5, h6⟩
    · exact hn n hnn (hN n hnn _ _ _ h5)
    · rw [ht] at h5
      cases h5
  · obtain ⟨c1, c2⟩ := a2 a c ha
    obtain ⟨d1, d2⟩ := b2 a c c1
    exact ⟨d1, d2.trans c2⟩
end Y_FRM
end
