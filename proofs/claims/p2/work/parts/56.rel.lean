/-! PART 56: RELATIONS BETWEEN CELLS: families of them hold for all pairs of numbers; a write is looked at before it is done -/
noncomputable section
/-- kind, address, place, in symbols: 1, 2 the numbers, then the arguments, then the cells' values -/
abbrev y_RC : Type := Nat × g_LE × g_LE
/-- cells; one of these lists of forms is all >= 0 -/
abbrev y_RR : Type := List y_RC × List (List g_LE)
/-- what is looked at: kind, address, places from, to, in symbols: 1 the first argument .. (the first one of a kind and address counts) -/
abbrev y_WE : Type := Nat × Nat × g_LE × g_LE
/-- what is looked at; relations -/
abbrev y_FA : Type := List y_WE × List y_RR
abbrev y_RHO : Type := Nat → Nat → Nat → Int
def i_r (V : List Int) (i : Nat) : Int := match i with
  | 0 => 1
  | i + 1 => V.getD i 0
def i_fd (W : List y_WE) (kd a : Nat) : Option (g_LE × g_LE) := match W with
  | [] => none
  | q :: l => match Nat.beq q.1 kd && Nat.beq q.2.1 a with
    | true => some q.2.2
    | false => i_fd l kd a
def i_mk (W : List y_WE) (A : List Int) (ρ : y_RHO) : y_RHO := fun kd a k => match i_fd W kd a with
  | some b => (match decide (g_ev (i_r A) b.1 ≤ (k : Int)) && decide ((k : Int) ≤ g_ev (i_r A) b.2) with
    | true => ρ kd a k
    | false => 0)
  | none => 0
def i_vs (ρ : y_RHO) : List y_RC → List Int → List Int
  | [], V => V
  | t :: l, V => i_vs ρ l (V ++ [ρ t.1 (g_ev (i_r V) t.2.1).toNat (g_ev (i_r V) t.2.2).toNat])
def i_dj (dj : List (List g_LE)) (V : List Int) : Prop := ∃ D ∈ dj, ∀ e ∈ D, 0 ≤ g_ev (i_r V) e
def i_at (ρ : y_RHO) (R : y_RR) (V : List Int) : Prop := i_dj R.2 (i_vs ρ R.1 V)
def i_all (ρ : y_RHO) (A : List Int) (L : List y_RR) : Prop := ∀ R ∈ L, ∀ κ μ : Int, i_at ρ R (κ :: μ :: A)
/-- another value at one place -/
def i_up (ρ : y_RHO) (kd : Nat) (a q v : Int) : y_RHO := fun kd' a' k' => if kd' = kd ∧ (a' : Int) = a ∧ (k' : Int) = q then v else ρ kd' a' k'
/-- heap cells: kind 16 + kind; address and place change their parts (a relation names the slot; the address is what varies) -/
def i_kd (kd : Nat) : Nat := match Nat.ble 16 kd with
  | true => kd - 16
  | false => kd
def i_sw {α : Type} (kd : Nat) (a b : α) : α := match Nat.ble 16 kd with
  | true => b
  | false => a
def i_vw (ρ : y_RHO) : y_RHO := fun kd a k => ρ (i_kd kd) (i_sw kd a k) (i_sw kd k a)
/-- what is looked at of the heap is there -/
def i_hT (_ : List y_WE) (_ : List Int) (_ : y_W) : Prop := True
/-- atoms: 16 f + 15 the family holds; 16 f + kind: it will hold behind a write (address, place, value) -/
def i_AT (FS : List y_FA) (n0 : Nat) (id : Nat) (args : List Int) (w : y_W) : Prop := n0 ≤ e_T w.1 ∧ match FS[id / 16]? with
  | none => False
  | some F => match Nat.beq (id % 16) 15, args with
    | true, A => i_hT F.1 A w ∧ i_all (i_mk F.1 A (i_vw (y_rd w))) A F.2
    | false, a :: q :: v :: A => i_hT F.1 A w ∧ i_all (i_mk F.1 A (i_vw (i_up (y_rd w) (id % 16) a q v))) A F.2
    | false, _ => False
def i_wh (A : List g_LE) (q : y_WE) : y_MI := match Nat.ble 16 q.1 with
  | false => (q.1, g_c (q.2.1 : Int), g_c (q.2.1 : Int), some (g_sb A q.2.2.1, g_sb A q.2.2.2))
  | true => (q.1 - 16, g_sb A q.2.2.1, g_sb A q.2.2.2, some (g_c (q.2.1 : Int), g_c (q.2.1 : Int)))
def i_fpw (kd : Nat) (a q : g_LE) (A : List g_LE) (p : y_WE) : List y_MI := match Nat.beq (i_kd p.1) kd && g_eq (i_sw p.1 a q) (g_c (p.2.1 : Int)) with
  | true => (match Nat.ble 16 p.1 with
    | false => [(p.1, g_c (p.2.1 : Int), g_c (p.2.1 : Int), some (g_sb A p.2.2.1, g_ac (-1) q)), (p.1, g_c (p.2.1 : Int), g_c (p.2.1 : Int), some (g_ac 1 q, g_sb A p.2.2.2))]
    | true => [(p.1 - 16, g_sb A p.2.2.1, g_ac (-1) a, some (g_c (p.2.1 : Int), g_c (p.2.1 : Int))), (p.1 - 16, g_ac 1 a, g_sb A p.2.2.2, some (g_c (p.2.1 : Int), g_c (p.2.1 : Int)))])
  | false => [i_wh A p]
def i_fp (FS : List y_FA) (id : Nat) (args : List g_LE) : List y_MI := match FS[id / 16]? with
  | none => []
  | some F => match Nat.beq (id % 16) 15, args with
    | true, A => F.1.map (i_wh A)
    | false, a :: q :: _ :: A => F.1.flatMap (i_fpw (id % 16) a q A)
    | false, _ => []
def i_ok1 (n0 : Nat) (q : y_WE) : Bool := match Nat.beq q.1 6 with
  | true => true
  | false => (Nat.blt q.1 4 && Nat.blt q.2.1 n0) || (Nat.ble 16 q.1 && (Nat.blt q.1 19 || Nat.beq q.1 24))
def i_ok (FS : List y_FA) (n0 : Nat) : Bool := FS.all fun F => F.1.all (i_ok1 n0)
theorem i_kd_f {kd : Nat} (h : Nat.ble 16 kd = false) : i_kd kd = kd := by
  unfold i_kd
  rw [h]
theorem i_kd_t {kd : Nat} (h : Nat.ble 16 kd = true) : i_kd kd = kd - 16 := by
  unfold i_kd
  rw [h]
theorem i_sw_f {α : Type} {kd : Nat} {a b : α} (h : Nat.ble 16 kd = false) : i_sw kd a b = a := by
  unfold i_sw
  rw [h]
theorem i_sw_t {α : Type} {kd : Nat} {a b : α} (h : Nat.ble 16 kd = true) : i_sw kd a b = b := by
  unfold i_sw
  rw [h]
theorem i_ok1_s {n0 kd a : Nat} {lo hi : g_LE} (h : i_ok1 n0 (kd, a, lo, hi) = true) : (Nat.ble 16 kd = false ∧ (kd = 6 ∨ (kd < 4 ∧ a < n0))) ∨ (Nat.ble 16 kd = true ∧ (kd - 16 < 3 ∨ kd - 16 = 8)) := by
  unfold i_ok1 at h
  split at h
  · rename_i h6
    have h6 : kd = 6 := Nat.eq_of_beq_eq_true h6
    subst h6
    exact Or.inl ⟨rfl, Or.inl rfl⟩
  · rw [Bool.or_eq_true, Bool.and_eq_true, Bool.and_eq_true] at h
    cases hb : Nat.ble 16 kd with
    | true =>
      refine Or.inr ⟨rfl, ?_⟩
      have h1 : 16 ≤ kd := Nat.le_of_ble_eq_true hb
      rcases h with h | h
      · have h2 : kd < 4 := Nat.blt_eq.mp h.1
        omega
      · have h3 := h.2
        rw [Bool.or_eq_true] at h3
        rcases h3 with h3 | h3
        · have h2 : kd < 19 := Nat.blt_eq.mp h3
          omega
        · have h2 : kd = 24 := Nat.eq_of_beq_eq_true h3
          omega
    | false =>
      refine Or.inl ⟨rfl, Or.inr ?_⟩
      rcases h with h | h
      · exact ⟨Nat.blt_eq.mp h.1, Nat.blt_eq.mp h.2⟩
      · have h2 : Nat.ble 16 kd = true := h.1
        rw [hb] at h2
        cases h2
theorem i_r_rs {r : Nat → Int} (h0 : r 0 = 1) (σ : List g_LE) : i_r (σ.map (g_ev r)) = g_rs r σ := by
  funext i
  match i with
  | 0 => exact (g_rs_0 h0 σ).symm
  | i + 1 =>
    show (σ.map (g_ev r)).getD i 0 = g_ev r (g_get σ i)
    rw [g_get_eq, List.getD_eq_getElem?_getD, List.getD_eq_getElem?_getD, List.getElem?_map]
    cases σ[i]? <;> rfl
theorem i_ev_sb {r : Nat → Int} (h0 : r 0 = 1) (σ : List g_LE) (e : g_LE) : g_ev (i_r (σ.map (g_ev r))) e = g_ev r (g_sb σ e) := by
  rw [i_r_rs h0, g_ev_sb]
theorem i_fd_m {kd a : Nat} {b : g_LE × g_LE} : ∀ {W : List y_WE}, i_fd W kd a = some b → (kd, a, b) ∈ W
  | [], h => by cases h
  | q :: l, h => by
    unfold i_fd at h
    split at h
    · rename_i hq
      rw [Bool.and_eq_true] at hq
      cases h
      rw [← Nat.eq_of_beq_eq_true hq.1, ← Nat.eq_of_beq_eq_true hq.2]
      exact List.mem_cons_self
    · exact List.mem_cons_of_mem _ (i_fd_m h)
theorem i_mk_cg {W : List y_WE} {A : List Int} {ρ ρ' : y_RHO} (h : ∀ (kd a k : Nat) (lo hi : g_LE), (kd, a, lo, hi) ∈ W → g_ev (i_r A) lo ≤ (k : Int) → (k : Int) ≤ g_ev (i_r A) hi → ρ' kd a k = ρ kd a k) : i_mk W A ρ' = i_mk W A ρ := by
  funext kd a k
  unfold i_mk
  split
  · rename_i b hq
    split
    · rename_i hb
      rw [Bool.and_eq_true] at hb
      exact h kd a k b.1 b.2 (i_fd_m hq) (of_decide_eq_true hb.1) (of_decide_eq_true hb.2)
    · rfl
  · rfl
section I_AO
variable {FS : List y_FA} {n0 : Nat} {r : Nat → Int} {w w' : y_W} {M : List y_MI}
theorem i_fr1 (hfr : y_Fr r M w w') (hn : n0 ≤ e_T w.1) {kd a k : Nat} {lo hi : g_LE} (hok : i_ok1 n0 (kd, a, lo, hi) = true) (hc : ∀ n ∈ M, ¬ y_cvr r n (i_kd kd) (i_sw kd a k) (i_sw kd k a)) : i_vw (y_rd w') kd a k = i_vw (y_rd w) kd a k := by
  refine hfr.1 _ _ _ (fun h4 => ?_) hc
  rcases i_ok1_s hok with ⟨hb, h6 | ⟨h7, h8⟩⟩ | ⟨hb, h7⟩
  · rw [i_kd_f hb] at h4
    omega
  · rw [i_sw_f hb]
    omega
  · rw [i_kd_t hb] at h4
    omega
theorem i_cvr (h0 : r 0 = 1) {kd a k : Nat} {lo hi : g_LE} (h1 : g_ev r lo ≤ (k : Int)) (h2 : (k : Int) ≤ g_ev r hi) : y_cvr r (kd, g_c (a : Int), g_c (a : Int), some (lo, hi)) kd a k := by
  refine ⟨rfl, Or.inr (Or.inr ⟨?_, ?_, fun q hq => ?_⟩)⟩
  · show g_ev r (g_c (a : Int)) ≤ (a : Int)
    rw [g_ev_c r h0]
    exact Int.le_refl _
  · show (a : Int) ≤ g_ev r (g_c (a : Int))
    rw [g_ev_c r h0]
    exact Int.le_refl _
  · cases hq
    exact ⟨h1, h2⟩
theorem i_cvh (h0 : r 0 = 1) {kd a k : Nat} {lo hi : g_LE} (h1 : g_ev r lo ≤ (k : Int)) (h2 : (k : Int) ≤ g_ev r hi) : y_cvr r (kd, lo, hi, some (g_c (a : Int), g_c (a : Int))) kd k a := by
  refine ⟨rfl, Or.inr (Or.inr ⟨h1, h2, fun q hq => ?_⟩)⟩
  cases hq
  rw [g_ev_c r h0]
  exact ⟨Int.le_refl _, Int.le_refl _⟩
theorem i_wh_c (h0 : r 0 = 1) {kd a k : Nat} {lo hi : g_LE} {A : List g_LE} (h1 : g_ev (i_r (A.map (g_ev r))) lo ≤ (k : Int)) (h2 : (k : Int) ≤ g_ev (i_r (A.map (g_ev r))) hi) : y_cvr r (i_wh A (kd, a, lo, hi)) (i_kd kd) (i_sw kd a k) (i_sw kd k a) := by
  rw [i_ev_sb h0] at h1 h2
  unfold i_wh
  cases hb : Nat.ble 16 kd with
  | false =>
    rw [i_kd_f hb, i_sw_f hb, i_sw_f hb]
    exact i_cvr h0 h1 h2
  | true =>
    rw [i_kd_t hb, i_sw_t hb, i_sw_t hb]
    exact i_cvh h0 h1 h2
theorem i_AO (hok : i_ok FS n0 = true) : y_AO (i_AT FS n0) (i_fp FS) := by
  intro r id args M w w' h0 hfr hdis hat
  unfold i_AT at hat ⊢
  obtain ⟨hn, hat⟩ := hat
  refine ⟨Nat.le_trans hn hfr.2.2.1, ?_⟩
  have hTT : ∀ {W : List y_WE} {A : List Int}, i_hT W A w → i_hT W A w' := by
    exact fun h => h
  unfold i_ok at hok
  rw [List.all_eq_true] at hok
  unfold i_fp at hdis
  split at hat
  · exact hat.elim
  · rename_i F hF
    rw [hF] at hdis
    have hokF := List.all_eq_true.mp (hok F (List.mem_of_getElem? hF))
    dsimp only at hdis ⊢
    cases hb : Nat.beq (id % 16) 15 with
    | true =>
      rw [hb] at hdis hat
      dsimp only at hdis hat ⊢
      refine ⟨hTT hat.1, ?_⟩
      rw [i_mk_cg (ρ := i_vw (y_rd w)) (ρ' := i_vw (y_rd w')) fun kd a k lo hi hm hlo hhi => i_fr1 hfr hn (hokF _ hm) fun n hnM => hdis (i_wh args (kd, a, lo, hi)) (List.mem_map.mpr ⟨_, hm, rfl⟩) n hnM _ _ _ (i_wh_c h0 hlo hhi)]
      exact hat.2
    | false =>
      rw [hb] at hdis hat
      match args, hdis, hat with
      | [], _, hat => exact hat.elim
      | [_], _, hat => exact hat.elim
      | [_, _], _, hat => exact hat.elim
      | a :: q :: v :: A, hdis, hat =>
        dsimp only [List.map] at hdis hat ⊢
        refine ⟨hTT hat.1, ?_⟩
        rw [i_mk_cg (ρ := i_vw (i_up (y_rd w) (id % 16) (g_ev r a) (g_ev r q) (g_ev r v))) (ρ' := i_vw (i_up (y_rd w') (id % 16) (g_ev r a) (g_ev r q) (g_ev r v))) fun kd b k lo hi hm hlo hhi => ?_]
        · exact hat.2
        · have hfr1 := fun hc => i_fr1 (kd := kd) (a := b) (k := k) hfr hn (hokF _ hm) hc
          unfold i_vw i_up
          split
          · rfl
          · rename_i hne
            refine hfr1 fun n hnM => ?_
            have hd := fun m hm2 => hdis m (List.mem_flatMap.mpr ⟨(kd, b, lo, hi), hm, hm2⟩) n hnM (i_kd kd) (i_sw kd b k) (i_sw kd k b)
            unfold i_fpw at hd
            split at hd
            · rename_i hbq
              rw [Bool.and_eq_true] at hbq
              have e1 : i_kd kd = id % 16 := Nat.eq_of_beq_eq_true hbq.1
              have hlo' := hlo
              have hhi' := hhi
              rw [i_ev_sb h0] at hlo' hhi'
              cases hh : Nat.ble 16 kd with
              | false =>
                have hd := hd
                rw [i_sw_f hh, i_sw_f hh] at hne hd
                rw [i_sw_f hh, i_sw_f hh]
                have g1 : g_eq (i_sw kd a q) (g_c (b : Int)) = true := hbq.2
                rw [i_sw_f hh] at g1
                have e2 : g_ev r a = (b : Int) := by
                  rw [g_eq_ok g1, g_ev_c r h0]
                have e3 : (k : Int) ≠ g_ev r q := fun e => hne ⟨e1, e2.symm, e⟩
                rw [i_kd_f hh] at hd ⊢
                dsimp only at hd
                rw [hh] at hd
                dsimp only at hd
                by_cases hlt : (k : Int) < g_ev r q
                · exact hd _ List.mem_cons_self (i_cvr h0 hlo' (by rw [g_ev_ac r h0]; omega))
                · exact hd _ (List.mem_cons_of_mem _ List.mem_cons_self) (i_cvr h0 (by rw [g_ev_ac r h0]; omega) hhi')
              | true =>
                have hd := hd
                rw [i_sw_t hh, i_sw_t hh] at hne hd
                rw [i_sw_t hh, i_sw_t hh]
                have g1 : g_eq (i_sw kd a q) (g_c (b : Int)) = true := hbq.2
                rw [i_sw_t hh] at g1
                have e2 : g_ev r q = (b : Int) := by
                  rw [g_eq_ok g1, g_ev_c r h0]
                have e3 : (k : Int) ≠ g_ev r a := fun e => hne ⟨e1, e, e2.symm⟩
                rw [i_kd_t hh] at hd ⊢
                dsimp only at hd
                rw [hh] at hd
                dsimp only at hd
                by_cases hlt : (k : Int) < g_ev r a
                · exact hd _ List.mem_cons_self (i_cvh h0 hlo' (by rw [g_ev_ac r h0]; omega))
                · exact hd _ (List.mem_cons_of_mem _ List.mem_cons_self) (i_cvh h0 (by rw [g_ev_ac r h0]; omega) hhi')
            · exact hd _ List.mem_cons_self (i_wh_c h0 hlo hhi)
end I_AO
end
