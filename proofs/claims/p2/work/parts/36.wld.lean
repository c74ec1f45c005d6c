/-! PART 36: the world: bounds of what fields and arrays hold, kinds of what they point to; reading -/
noncomputable section
/-- KT LT RG PT NF GEN FK -/
abbrev y_WT : Type := (Nat → Option (Nat ⊕ Nat)) × (Nat → Option Nat) × (Nat → Option Nat → (Nat ⊕ Nat) → Nat → Option (Int × Int)) × ((Nat ⊕ Nat) → Nat → Nat) × Nat × ((Nat ⊕ Nat) → Bool) × (Nat → Option (Nat ⊕ Nat))
def w_KT (U : y_WT) : Nat → Option (Nat ⊕ Nat) := U.1
def w_LT (U : y_WT) : Nat → Option Nat := U.2.1
def w_RG (U : y_WT) : Nat → Option Nat → (Nat ⊕ Nat) → Nat → Option (Int × Int) := U.2.2.1
def w_PT (U : y_WT) : (Nat ⊕ Nat) → Nat → Nat := U.2.2.2.1
def w_NF (U : y_WT) : Nat := U.2.2.2.2.1
def w_GN (U : y_WT) : (Nat ⊕ Nat) → Bool := U.2.2.2.2.2.1
def w_FK (U : y_WT) : Nat → Option (Nat ⊕ Nat) := U.2.2.2.2.2.2
/-- arrays: one bound for all places -/
def y_rk (c : Nat ⊕ Nat) (k : Nat) : Nat := match c with
  | .inl _ => k
  | .inr _ => 0
/-- what is not there yet holds 0 -/
def y_Z0 (w : y_W) : Prop := ∀ kd a k, kd < 3 → e_T w.1 ≤ a → y_rd w kd a k = 0
def y_IV (U : y_WT) (w : y_W) : Prop := (w_NF U ≤ e_T w.1 ∧ ∀ a c, w_FK U a = some c → e_K w.1 a = some c) ∧ (e_T w.1 ≤ e_lim ∧ y_Z0 w) ∧ ∀ a c, e_K w.1 a = some c → a < e_T w.1 ∧ (∀ kd k lo hi, kd < 4 → w_RG U kd none c (y_rk c k) = some (lo, hi) ∨ w_RG U kd (some a) c (y_rk c k) = some (lo, hi) → lo ≤ y_rd w kd a k ∧ y_rd w kd a k ≤ hi) ∧ ∀ k b, e_P w.1 a k = some b → y_pt (w_KT U) (w_LT U) w.1 (w_PT U c (y_rk c k)) b
abbrev y_DD (U : y_WT) (AT : Nat → List Int → y_W → Prop) (r : Nat → Int) (S : y_S) (lv : e_LV) (stk : List Value) (w : y_W) : Prop := y_D (w_KT U) (w_LT U) (y_IV U) AT r S lv stk w
def y_ent (ms : List y_ME) (kd : Nat) (a k : g_LE) : Option g_LE := @List.rec y_ME (fun _ => Option g_LE) none (fun m _ ih => @Bool.rec (fun _ => Option g_LE) ih (@Bool.rec (fun _ => Option g_LE) ih (@Bool.rec (fun _ => Option g_LE) ih (some m.2.2.2) (g_eq m.2.2.1 k)) (g_eq m.2.1 a)) (Nat.beq m.1 kd)) ms
theorem y_ent_cons {m : y_ME} {l : List y_ME} {kd : Nat} {a k : g_LE} : y_ent (m :: l) kd a k = match Nat.beq m.1 kd && (g_eq m.2.1 a && g_eq m.2.2.1 k) with
    | true => some m.2.2.2
    | false => y_ent l kd a k := by
  show @Bool.rec (fun _ => Option g_LE) (y_ent l kd a k) (@Bool.rec (fun _ => Option g_LE) (y_ent l kd a k) (@Bool.rec (fun _ => Option g_LE) (y_ent l kd a k) (some m.2.2.2) (g_eq m.2.2.1 k)) (g_eq m.2.1 a)) (Nat.beq m.1 kd) = _
  cases Nat.beq m.1 kd <;> cases g_eq m.2.1 a <;> cases g_eq m.2.2.1 k <;> rfl
def y_adr (a : g_LE) : Option Nat := match g_cst a with
  | some (.ofNat n) => some n
  | _ => none
def y_dfl (kd n : Nat) : List g_LE := match kd with
  | 0 => y_rg n y_l32 y_h32
  | 1 => y_rg n y_l64 y_h64
  | _ => [g_s n]
/-- facts about what is read at a place -/
def y_rgs (U : y_WT) (ms : List y_ME) (kd : Nat) (a : g_LE) (c : Nat ⊕ Nat) (kc n : Nat) : List g_LE := (match w_RG U kd (y_adr a) c kc with
  | some (lo, hi) => y_rg n lo hi
  | none => y_dfl kd n) ++ (match kd with
  | 2 => (match y_ent ms 4 [] [] with
    | some t => (match w_KT U (w_PT U c kc) with
      | some _ => [g_sub t (g_s n)]
      | none => [])
    | none => [])
  | _ => [])
def y_am (S : y_S) (m : y_ME) : y_S := (s_n S, s_l S, s_s S, m :: s_m S, s_f S, s_a S)
/-- one number alone -/
def y_sgt (q : Option (Int × Int)) : Option Int := match q with
  | some (lo, hi) => (match g_ieq lo hi with
    | true => some lo
    | false => none)
  | none => none
def y_get (U : y_WT) (S : y_S) (kd : Nat) (c : Nat ⊕ Nat) (a k : g_LE) (kc : Nat) : Option (y_S × g_LE) := match y_ent (s_m S) kd a k with
  | some v => some (S, v)
  | none => match y_sgt (w_RG U kd (y_adr a) c kc) with
    | some lo => some (S, g_c lo)
    | none => match y_sc S && (y_old S a && y_old S k) with
      | true => some (y_am (y_nw S (y_rgs U (s_m S) kd a c kc (s_n S))) (kd, a, k, g_s (s_n S)), g_s (s_n S))
      | false => none
def y_gx (S S' : y_S) (r r' : Nat → Int) : Prop := (∀ i, i < s_n S → r' i = r i) ∧ s_n S ≤ s_n S' ∧ s_l S' = s_l S ∧ s_s S' = s_s S
theorem y_gx.rf {S : y_S} {r : Nat → Int} : y_gx S S r r := ⟨fun _ _ => rfl, Nat.le_refl _, rfl, rfl⟩
theorem y_gx.tr {S S' S'' : y_S} {r r' r'' : Nat → Int} (h : y_gx S S' r r') (k : y_gx S' S'' r' r'') : y_gx S S'' r r'' := ⟨fun i hi => (k.1 i (Nat.lt_of_lt_of_le hi h.2.1)).trans (h.1 i hi), Nat.le_trans h.2.1 k.2.1, k.2.2.1.trans h.2.2.1, k.2.2.2.trans h.2.2.2⟩
section Y_W
variable {U : y_WT} {AT : Nat → List Int → y_W → Prop} {r r' : Nat → Int} {S S' : y_S} {lv : e_LV} {stk : List Value} {w : y_W} {s s' : y_Str}
theorem y_ent_ok {kd : Nat} {a k v : g_LE} : ∀ {ms : List y_ME}, (∀ m ∈ ms, y_dM r w m) → kd ≠ 7 → y_ent ms kd a k = some v → y_rd w kd (g_ev r a).toNat (g_ev r k).toNat = g_ev r v ∧ (kd < 4 → (g_ev r a).toNat < e_T w.1) ∧ 0 ≤ g_ev r a ∧ 0 ≤ g_ev r k
  | [], _, _, h => by cases h
  | m :: l, hm, h7, h => by
    rw [y_ent_cons] at h
    split at h
    · rename_i hq
      cases h
      rw [Bool.and_eq_true, Bool.and_eq_true] at hq
      have h1 := hm m List.mem_cons_self
      obtain ⟨kd', a', b', v'⟩ := m
      have hk : kd' = kd := Nat.eq_of_beq_eq_true hq.1
      have ha : a' = a := g_eq_ok hq.2.1
      have hb : b' = k := g_eq_ok hq.2.2
      subst hk ha hb
      unfold y_dM at h1
      split at h1
      · rename_i h9
        exact absurd h9 h7
      · exact h1
    · exact y_ent_ok (fun m hm2 => hm m (List.mem_cons_of_mem _ hm2)) h7 h
theorem y_adr_ok {a : g_LE} {n : Nat} (h0 : r 0 = 1) (h : y_adr a = some n) : (g_ev r a).toNat = n := by
  unfold y_adr at h
  split at h
  · rename_i m hc
    cases h
    rw [g_cst_ok h0 hc]
    rfl
  · cases h
theorem y_rd_nn {kd : Nat} {a k : Nat} (h : kd = 2 ∨ kd = 3) : 0 ≤ y_rd w kd a k := by
  rcases h with rfl | rfl
  · exact y_en_nn
  · exact Int.natCast_nonneg _
theorem y_rgs_ok {kd n : Nat} {a : g_LE} {c : Nat ⊕ Nat} {kc : Nat} {x : Int} {A K : Nat} (h0 : r 0 = 1) (h0' : r' 0 = 1) (hms : ∀ m ∈ s_m S, y_dM r w m) (hmo : ∀ m ∈ s_m S, y_scM (s_n S) m = true) (hr : ∀ i, i < s_n S → r' i = r i) (hI : y_IV U w) (hkd : kd < 4) (hA : (g_ev r a).toNat = A) (hK : e_K w.1 A = some c) (hk : y_rk c K = kc) (hx : y_rd w kd A K = x) (hn : r' n = x) : ∀ f ∈ y_rgs U (s_m S) kd a c kc n, 0 ≤ g_ev r' f := by
  obtain ⟨hT, hl, hI⟩ := hI
  obtain ⟨hlt, hrg, hpt⟩ := hI A c hK
  subst hk hx
  intro f hf
  unfold y_rgs at hf
  rcases List.mem_append.mp hf with hf | hf
  · split at hf
    · rename_i lo hi hq
      have hb : lo ≤ y_rd w kd A K ∧ y_rd w kd A K ≤ hi := by
        refine hrg kd K lo hi hkd ?_
        cases hy : y_adr a with
        | none => rw [hy] at hq; exact Or.inl hq
        | some q =>
          have h9 := y_adr_ok h0 hy
          rw [hA] at h9
          rw [hy, ← h9] at hq
          exact Or.inr hq
      exact y_rg_ok h0' (by rw [hn]; exact hb.1) (by rw [hn]; exact hb.2) f hf
    · unfold y_dfl at hf
      split at hf
      · exact y_rg_ok h0' (by rw [hn]; exact (y_r32 _).1) (by rw [hn]; exact (y_r32 _).2) f hf
      · exact y_rg_ok h0' (by rw [hn]; exact (y_r64 _).1) (by rw [hn]; exact (y_r64 _).2) f hf
      · rename_i h1 h2
        rw [List.mem_singleton.mp hf, g_ev_s, hn]
        refine y_rd_nn ?_
        have q1 : kd ≠ 0 := h1
        have q2 : kd ≠ 1 := h2
        omega
  · split at hf
    · split at hf
      · rename_i t ht
        split at hf
        · rename_i kk hkk
          rw [List.mem_singleton.mp hf, g_ev_sub, g_ev_s, hn]
          have h1 := (y_ent_ok hms (by decide) ht).1
          have h2 : (e_T w.1 : Int) = g_ev r t := h1
          have h3 : g_ev r' t = g_ev r t := by
            obtain ⟨m, hm, e1⟩ : ∃ m ∈ s_m S, m.2.2.2 = t := by
              have : ∀ (ms : List y_ME), y_ent ms 4 [] [] = some t → ∃ m ∈ ms, m.2.2.2 = t := by
                intro ms
                induction ms with
                | nil => intro h; cases h
                | cons m l ih =>
                  intro h
                  rw [y_ent_cons] at h
                  split at h
                  · cases h
                    exact ⟨m, List.mem_cons_self, rfl⟩
                  · obtain ⟨m', hm', e'⟩ := ih h
                    exact ⟨m', List.mem_cons_of_mem _ hm', e'⟩
              exact this _ ht
            have h4 := hmo m hm
            rw [y_scM_def] at h4
            rw [Bool.and_eq_true, Bool.and_eq_true] at h4
            rw [← e1]
            exact g_sc_ev hr h4.2.2
          rw [h3, ← h2]
          show 0 ≤ (e_T w.1 : Int) - y_en (e_P w.1 A K)
          cases hp : e_P w.1 A K with
          | none =>
            show 0 ≤ (e_T w.1 : Int) - 0
            omega
          | some b =>
            obtain ⟨q1, -⟩ := hpt K b hp kk hkk
            have q2 := (hI b kk q1).1
            rw [y_en_s]
            omega
        · cases hf
      · cases hf
    · cases hf
theorem y_get_ok {kd : Nat} {c : Nat ⊕ Nat} {a k v : g_LE} {kc : Nat} (h : y_get U S kd c a k kc = some (S', v)) (kD : y_DD U AT r S lv stk w) (hkd : kd < 4) (hK : e_K w.1 (g_ev r a).toNat = some c) (hk : y_rk c (g_ev r k).toNat = kc) (ha0 : 0 ≤ g_ev r a) (hk0 : 0 ≤ g_ev r k) : ∃ r', y_gx S S' r r' ∧ y_DD U AT r' S' lv stk w ∧ y_rd w kd (g_ev r a).toNat (g_ev r k).toNat = g_ev r' v := by
  unfold y_get at h
  split at h
  · rename_i v' hv
    cases h
    exact ⟨r, y_gx.rf, kD, (y_ent_ok kD.2.2.2.1 (by omega) hv).1⟩
  · split at h
    · rename_i lo hlo
      cases h
      refine ⟨r, y_gx.rf, kD, ?_⟩
      have h0 := kD.1
      rw [g_ev_c r h0]
      unfold y_sgt at hlo
      split at hlo
      · rename_i lo' hi' hq
        split at hlo
        · rename_i hlh
          have e2 : lo' = lo := Option.some.inj hlo
          have he := g_ieq_ok hlh
          have hrg := ((kD.2.2.2.2.2.2).2.2 _ c hK).2.1 kd (g_ev r k).toNat lo' hi' hkd
          rw [hk] at hrg
          have h9 : lo' ≤ y_rd w kd (g_ev r a).toNat (g_ev r k).toNat ∧ y_rd w kd (g_ev r a).toNat (g_ev r k).toNat ≤ hi' := by
            cases hy : y_adr a with
            | none => rw [hy] at hq; exact hrg (Or.inl hq)
            | some A =>
              have h8 := y_adr_ok h0 hy
              rw [hy, ← h8] at hq
              exact hrg (Or.inr hq)
          omega
        · cases hlo
      · cases hlo
    · split at h
      case h_2 => cases h
      rename_i hs
      rw [Bool.and_eq_true, Bool.and_eq_true] at hs
      cases h
      obtain ⟨g0, g1, g2, g3, g4, g5⟩ := y_sc_s hs.1
      have h0 := kD.1
      have hT := (kD.2.2.2.2.2.2.2.2 _ _ hK).1
      obtain ⟨hx1, hx2⟩ : (y_nv r (s_n S) (y_rd w kd (g_ev r a).toNat (g_ev r k).toNat)) 0 = 1 ∧ (y_nv r (s_n S) (y_rd w kd (g_ev r a).toNat (g_ev r k).toNat)) (s_n S) = y_rd w kd (g_ev r a).toNat (g_ev r k).toNat := ⟨(y_nv_lt g0).trans h0, y_nv_at⟩
      have hD := y_D_nw (L := y_rgs U (s_m S) kd a c kc (s_n S)) hs.1 kD (y_rd w kd (g_ev r a).toNat (g_ev r k).toNat) (y_rgs_ok h0 hx1 kD.2.2.2.1 g3 (fun i hi => y_nv_lt hi) kD.2.2.2.2.2.2 hkd rfl hK hk rfl hx2)
      have ea : g_ev (y_nv r (s_n S) (y_rd w kd (g_ev r a).toNat (g_ev r k).toNat)) a = g_ev r a := g_sc_ev (fun i hi => y_nv_lt hi) hs.2.1
      have ek : g_ev (y_nv r (s_n S) (y_rd w kd (g_ev r a).toNat (g_ev r k).toNat)) k = g_ev r k := g_sc_ev (fun i hi => y_nv_lt hi) hs.2.2
      refine ⟨_, ⟨fun i hi => y_nv_lt hi, Nat.le_succ _, rfl, rfl⟩, ?_, by rw [g_ev_s, y_nv_at]⟩
      obtain ⟨k0, k1, k2, k3, k4, k5, k6⟩ := hD
      refine ⟨k0, k1, k2, fun m hm => ?_, k4, k5, k6⟩
      rcases List.mem_cons.mp hm with hm | hm
      · subst hm
        unfold y_dM
        split
        · rename_i h7
          exact absurd (show kd = 7 from h7) (by omega)
        · refine ⟨?_, fun _ => ?_, ?_, ?_⟩
          · show y_rd w kd (g_ev _ a).toNat (g_ev _ k).toNat = g_ev _ (g_s (s_n S))
            rw [ea, ek, g_ev_s, y_nv_at]
          · show (g_ev _ a).toNat < e_T w.1
            rw [ea]
            exact hT
          · show 0 ≤ g_ev _ a
            rw [ea]
            exact ha0
          · show 0 ≤ g_ev _ k
            rw [ek]
            exact hk0
      · exact k3 m hm
end Y_W
end
