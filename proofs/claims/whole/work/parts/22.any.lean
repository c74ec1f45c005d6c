/-! What only looks, and wipe(), in any state (own rows, laid by a program of mine). -/
def fw_e_X11_wipe : List Cond := .code yX11_wipe cX11_wipe 2 (some .int) :: ([.fieldLink RX11 90 "TripleStore" "length" "I"] ++ wsX110)
theorem in_e_X11_wipe_RX11 : ∀ w ∈ u_ws RX11 TX11 18, w ∈ fw_e_X11_wipe := fun _ h => List.mem_cons_of_mem _ (List.mem_append_right _ h)
theorem gd_e_X11_wipe : (fw_e_X11_wipe).all goodWord = true := by decide +kernel
set_option maxHeartbeats 4000000 in
set_option maxRecDepth 100000 in
theorem e_X11_wipe (l : Launch) (dC : Nat → ClassId) (dI : Nat → Nat → Nat) (a0 : Nat) (a1 : Nat) (a2 : Nat) (a3 : Nat) (a4 : Nat) (a5 : Nat) (a6 : Nat) (a7 : Nat) (a8 : Nat) (a9 : Nat) (a10 : Nat) (x0 : Int32) (x1 : Int32) (x2 : Int32) (x3 : Int32) (x4 : Int32) (x5 : Int32) (o0 : Value) (x6 : Int32) (sz : Nat) : Met l yX11_wipe fw_e_X11_wipe ({ frames := 1, cells := 0, slots := 0, locals := 20 }) (va_Pc [.ref a0] (fun U => U.heap.size = sz ∧ va_P (dC, dI) vwCl [(a0, .inr (12, [.ref a1, .int x0, .ref a2, .ref a3, .ref a4, .ref a5, .ref a6, .ref a7, .ref a8, .ref a9, .ref a10, .int x1, .int x2, .int x3, .int x4, .int x5, o0, .int x6]))] U.heap ∧ va_K (dC, dI) vwCl [] U ∧ va_D (fun _ => True) [(a0, .inr (12, [.ref a1, .int x0, .ref a2, .ref a3, .ref a4, .ref a5, .ref a6, .ref a7, .ref a8, .ref a9, .ref a10, .int x1, .int x2, .int x3, .int x4, .int x5, o0, .int x6]))])) (va_Qi (fun (r : Int32) (_ : Unit) => r = x0) (fun _ t => va_P (dC, dI) vwCl [(a0, .inr (12, [.ref a1, .int 0, .ref a2, .ref a3, .ref a4, .ref a5, .ref a6, .ref a7, .ref a8, .ref a9, .ref a10, .int x1, .int x2, .int x3, .int x4, .int x5, o0, .int x6]))] t.heap ∧ va_K (dC, dI) vwCl [] t ∧ va_D (va_A [(a0, .inr (12, [.ref a1, .int x0, .ref a2, .ref a3, .ref a4, .ref a5, .ref a6, .ref a7, .ref a8, .ref a9, .ref a10, .int x1, .int x2, .int x3, .int x4, .int x5, o0, .int x6]))] sz) [(a0, .inr (12, [.ref a1, .int 0, .ref a2, .ref a3, .ref a4, .ref a5, .ref a6, .ref a7, .ref a8, .ref a9, .ref a10, .int x1, .int x2, .int x3, .int x4, .int x5, o0, .int x6]))]) (va_A [(a0, .inr (12, [.ref a1, .int x0, .ref a2, .ref a3, .ref a4, .ref a5, .ref a6, .ref a7, .ref a8, .ref a9, .ref a10, .int x1, .int x2, .int x3, .int x4, .int x5, o0, .int x6]))] sz)) 0 0 (va_A [(a0, .inr (12, [.ref a1, .int x0, .ref a2, .ref a3, .ref a4, .ref a5, .ref a6, .ref a7, .ref a8, .ref a9, .ref a10, .int x1, .int x2, .int x3, .int x4, .int x5, o0, .int x6]))] sz) := by
  refine Met.ofW (cc := cX11_wipe) (maxL := 2) (ret := (some .int)) (by decide) rfl ?_
  intro p e s m args below meth c s₁ B hml hv
  obtain ⟨rfl, hsz, hP, hK, hD0⟩ := hv
  have hx := B.exec
  have hb := B.bytes
  have hr := B.returns
  have hts := atoms_spec (ws := fw_e_X11_wipe) B.pre
  have hown : s.vm.findClass RX11 = some m.cls := findClass_of_methodNamed B.named
  have hlocks := B.notSynchronized
  subst hsz
  have hD := hD0.self (sz := s.heap.size)
  generalize hAe : va_A [(a0, .inr (12, [.ref a1, .int x0, .ref a2, .ref a3, .ref a4, .ref a5, .ref a6, .ref a7, .ref a8, .ref a9, .ref a10, .int x1, .int x2, .int x3, .int x4, .int x5, o0, .int x6]))] s.heap.size = A at hD ⊢
  have hA : ∀ q : Nat, s.heap.size ≤ q → A q := fun q h => by rw [← hAe]; exact Or.inr h
  obtain ⟨H, hH⟩ : ∃ z, z = s.heap := ⟨_, rfl⟩
  rw [← hH] at hP
  have hS : va_S A s.heap H [] := by rw [hH]; exact va_S.rf
  have hP : va_P (dC, dI) vwCl [(a0, .inr (12, [.ref a1, .int x0, .ref a2, .ref a3, .ref a4, .ref a5, .ref a6, .ref a7, .ref a8, .ref a9, .ref a10, .int x1, .int x2, .int x3, .int x4, .int x5, o0, .int x6]))] H := hP
  have hl := lv_entry ([.ref a0]) (n := 2) (Nat.le_of_ble_eq_true rfl)
  rw [lg_entry_eq]
  generalize (lg_sl ([.ref a0]) ++ List.replicate (2 - (lg_sl ([.ref a0])).length) Slot.unset).toArray = ls at hl ⊢
  have hl : lv_has ls 2 [(0, .ref a0)] := hl
  rw [← hH]
  refine lv_aload_n hx hb dX11_wipe_0 rfl (lv_at hl 0 rfl) ?_
  refine va_get (D := (dC, dI)) (ci := 12) (v := .int x0) (C := RX11) (T := TX11) (N := 18) hx hb hts in_e_X11_wipe_RX11 hown hK hP 0 rfl rfl 1 (by decide) (hts (.fieldLink RX11 90 "TripleStore" "length" "I") (List.mem_of_getElem? (i := 1) rfl)) (fun _ h9 => h9) rfl dX11_wipe_1 ?_
  refine lv_istore_n (lv' := [(1, .int x0), (0, .ref a0)]) hx hb dX11_wipe_4 rfl hl (by decide) rfl (fun ls hl => ?_)
  refine lv_aload_n hx hb dX11_wipe_5 rfl (lv_at hl 1 rfl) ?_
  refine lv_iconst (v := 0) hx hb dX11_wipe_6 (by decide) ?_
  refine va_put (D := (dC, dI)) (ci := 12) (v := .int 0) (ty := .int) (C := RX11) (T := TX11) (N := 18) hx hb hts in_e_X11_wipe_RX11 tyX11 tyX11_ok nmX11 hown hK hP hD hS 0 rfl rfl 1 (by decide) (hts (.fieldLink RX11 90 "TripleStore" "length" "I") (List.mem_of_getElem? (i := 1) rfl)) (fun _ h9 => h9) rfl (by decide +kernel) rfl rfl (Nat.le_of_ble_eq_true rfl) dX11_wipe_7 (fun H locs hP hD hS => ?_)
  have hP : va_P (dC, dI) vwCl [(a0, .inr (12, [.ref a1, .int 0, .ref a2, .ref a3, .ref a4, .ref a5, .ref a6, .ref a7, .ref a8, .ref a9, .ref a10, .int x1, .int x2, .int x3, .int x4, .int x5, o0, .int x6]))] H := hP
  have hD : va_D A [(a0, .inr (12, [.ref a1, .int 0, .ref a2, .ref a3, .ref a4, .ref a5, .ref a6, .ref a7, .ref a8, .ref a9, .ref a10, .int x1, .int x2, .int x3, .int x4, .int x5, o0, .int x6]))] := hD
  refine lv_iload_n hx hb dX11_wipe_10 rfl (lv_at hl 0 rfl) ?_
  exact W.iret (v := x0) hx hb hr (fun t ht hW => ⟨⟨x0, (), rfl, rfl, by rw [ht]; exact hP, va_K.moved hW.alike hK, hD⟩, hS.F ht⟩) hS.2.2 dX11_wipe_11
def fw_e_X11_place : List Cond := .code yX11_place cX11_place 1 (some .int) :: ([.fieldLink RX11 167 "TripleStore" "foundAt" "I"] ++ wsX110)
theorem in_e_X11_place_RX11 : ∀ w ∈ u_ws RX11 TX11 18, w ∈ fw_e_X11_place := fun _ h => List.mem_cons_of_mem _ (List.mem_append_right _ h)
theorem gd_e_X11_place : (fw_e_X11_place).all goodWord = true := by decide +kernel
set_option maxHeartbeats 4000000 in
set_option maxRecDepth 100000 in
theorem e_X11_place (l : Launch) (dC : Nat → ClassId) (dI : Nat → Nat → Nat) (a0 : Nat) (a1 : Nat) (a2 : Nat) (a3 : Nat) (a4 : Nat) (a5 : Nat) (a6 : Nat) (a7 : Nat) (a8 : Nat) (a9 : Nat) (a10 : Nat) (x0 : Int32) (x1 : Int32) (x2 : Int32) (x3 : Int32) (x4 : Int32) (x5 : Int32) (o0 : Value) (x6 : Int32) (sz : Nat) : Met l yX11_place fw_e_X11_place ({ frames := 1, cells := 0, slots := 0, locals := 20 }) (va_Pc [.ref a0] (fun U => U.heap.size = sz ∧ va_P (dC, dI) vwCl [(a0, .inr (12, [.ref a1, .int x0, .ref a2, .ref a3, .ref a4, .ref a5, .ref a6, .ref a7, .ref a8, .ref a9, .ref a10, .int x1, .int x2, .int x3, .int x4, .int x5, o0, .int x6]))] U.heap ∧ va_K (dC, dI) vwCl [] U ∧ va_D (fun _ => True) [(a0, .inr (12, [.ref a1, .int x0, .ref a2, .ref a3, .ref a4, .ref a5, .ref a6, .ref a7, .ref a8, .ref a9, .ref a10, .int x1, .int x2, .int x3, .int x4, .int x5, o0, .int x6]))])) (va_Qi (fun (r : Int32) (_ : Unit) => r = x2) (fun _ t => va_P (dC, dI) vwCl [(a0, .inr (12, [.ref a1, .int x0, .ref a2, .ref a3, .ref a4, .ref a5, .ref a6, .ref a7, .ref a8, .ref a9, .ref a10, .int x1, .int x2, .int x3, .int x4, .int x5, o0, .int x6]))] t.heap ∧ va_K (dC, dI) vwCl [] t ∧ va_D (va_A [(a0, .inr (12, [.ref a1, .int x0, .ref a2, .ref a3, .ref a4, .ref a5, .ref a6, .ref a7, .ref a8, .ref a9, .ref a10, .int x1, .int x2, .int x3, .int x4, .int x5, o0, .int x6]))] sz) [(a0, .inr (12, [.ref a1, .int x0, .ref a2, .ref a3, .ref a4, .ref a5, .ref a6, .ref a7, .ref a8, .ref a9, .ref a10, .int x1, .int x2, .int x3, .int x4, .int x5, o0, .int x6]))]) (va_A [(a0, .inr (12, [.ref a1, .int x0, .ref a2, .ref a3, .ref a4, .ref a5, .ref a6, .ref a7, .ref a8, .ref a9, .ref a10, .int x1, .int x2, .int x3, .int x4, .int x5, o0, .int x6]))] sz)) 0 0 (va_A [(a0, .inr (12, [.ref a1, .int x0, .ref a2, .ref a3, .ref a4, .ref a5, .ref a6, .ref a7, .ref a8, .ref a9, .ref a10, .int x1, .int x2, .int x3, .int x4, .int x5, o0, .int x6]))] sz) := by
  refine Met.ofW (cc := cX11_place) (maxL := 1) (ret := (some .int)) (by decide) rfl ?_
  intro p e s m args below meth c s₁ B hml hv
  obtain ⟨rfl, hsz, hP, hK, hD0⟩ := hv
  have hx := B.exec
  have hb := B.bytes
  have hr := B.returns
  have hts := atoms_spec (ws := fw_e_X11_place) B.pre
  have hown : s.vm.findClass RX11 = some m.cls := findClass_of_methodNamed B.named
  have hlocks := B.notSynchronized
  subst hsz
  have hD := hD0.self (sz := s.heap.size)
  generalize hAe : va_A [(a0, .inr (12, [.ref a1, .int x0, .ref a2, .ref a3, .ref a4, .ref a5, .ref a6, .ref a7, .ref a8, .ref a9, .ref a10, .int x1, .int x2, .int x3, .int x4, .int x5, o0, .int x6]))] s.heap.size = A at hD ⊢
  have hA : ∀ q : Nat, s.heap.size ≤ q → A q := fun q h => by rw [← hAe]; exact Or.inr h
  obtain ⟨H, hH⟩ : ∃ z, z = s.heap := ⟨_, rfl⟩
  rw [← hH] at hP
  have hS : va_S A s.heap H [] := by rw [hH]; exact va_S.rf
  have hP : va_P (dC, dI) vwCl [(a0, .inr (12, [.ref a1, .int x0, .ref a2, .ref a3, .ref a4, .ref a5, .ref a6, .ref a7, .ref a8, .ref a9, .ref a10, .int x1, .int x2, .int x3, .int x4, .int x5, o0, .int x6]))] H := hP
  have hl := lv_entry ([.ref a0]) (n := 1) (Nat.le_of_ble_eq_true rfl)
  rw [lg_entry_eq]
  generalize (lg_sl ([.ref a0]) ++ List.replicate (1 - (lg_sl ([.ref a0])).length) Slot.unset).toArray = ls at hl ⊢
  have hl : lv_has ls 1 [(0, .ref a0)] := hl
  rw [← hH]
  refine lv_aload_n hx hb dX11_place_0 rfl (lv_at hl 0 rfl) ?_
  refine va_get (D := (dC, dI)) (ci := 12) (v := .int x2) (C := RX11) (T := TX11) (N := 18) hx hb hts in_e_X11_place_RX11 hown hK hP 0 rfl rfl 12 (by decide) (hts (.fieldLink RX11 167 "TripleStore" "foundAt" "I") (List.mem_of_getElem? (i := 1) rfl)) (fun _ h9 => h9) rfl dX11_place_1 ?_
  exact W.iret (v := x2) hx hb hr (fun t ht hW => ⟨⟨x2, (), rfl, rfl, by rw [ht]; exact hP, va_K.moved hW.alike hK, hD⟩, hS.F ht⟩) hS.2.2 dX11_place_4
def fw_e_X11_rows : List Cond := .code yX11_rows cX11_rows 1 (some .int) :: ([.fieldLink RX11 98 "TripleStore" "shownRows" "I"] ++ wsX110)
theorem in_e_X11_rows_RX11 : ∀ w ∈ u_ws RX11 TX11 18, w ∈ fw_e_X11_rows := fun _ h => List.mem_cons_of_mem _ (List.mem_append_right _ h)
theorem gd_e_X11_rows : (fw_e_X11_rows).all goodWord = true := by decide +kernel
set_option maxHeartbeats 4000000 in
set_option maxRecDepth 100000 in
theorem e_X11_rows (l : Launch) (dC : Nat → ClassId) (dI : Nat → Nat → Nat) (a0 : Nat) (a1 : Nat) (a2 : Nat) (a3 : Nat) (a4 : Nat) (a5 : Nat) (a6 : Nat) (a7 : Nat) (a8 : Nat) (a9 : Nat) (a10 : Nat) (x0 : Int32) (x1 : Int32) (x2 : Int32) (x3 : Int32) (x4 : Int32) (x5 : Int32) (o0 : Value) (x6 : Int32) (sz : Nat) : Met l yX11_rows fw_e_X11_rows ({ frames := 1, cells := 0, slots := 0, locals := 20 }) (va_Pc [.ref a0] (fun U => U.heap.size = sz ∧ va_P (dC, dI) vwCl [(a0, .inr (12, [.ref a1, .int x0, .ref a2, .ref a3, .ref a4, .ref a5, .ref a6, .ref a7, .ref a8, .ref a9, .ref a10, .int x1, .int x2, .int x3, .int x4, .int x5, o0, .int x6]))] U.heap ∧ va_K (dC, dI) vwCl [] U ∧ va_D (fun _ => True) [(a0, .inr (12, [.ref a1, .int x0, .ref a2, .ref a3, .ref a4, .ref a5, .ref a6, .ref a7, .ref a8, .ref a9, .ref a10, .int x1, .int x2, .int x3, .int x4, .int x5, o0, .int x6]))])) (va_Qi (fun (r : Int32) (_ : Unit) => r = x6) (fun _ t => va_P (dC, dI) vwCl [(a0, .inr (12, [.ref a1, .int x0, .ref a2, .ref a3, .ref a4, .ref a5, .ref a6, .ref a7, .ref a8, .ref a9, .ref a10, .int x1, .int x2, .int x3, .int x4, .int x5, o0, .int x6]))] t.heap ∧ va_K (dC, dI) vwCl [] t ∧ va_D (va_A [(a0, .inr (12, [.ref a1, .int x0, .ref a2, .ref a3, .ref a4, .ref a5, .ref a6, .ref a7, .ref a8, .ref a9, .ref a10, .int x1, .int x2, .int x3, .int x4, .int x5, o0, .int x6]))] sz) [(a0, .inr (12, [.ref a1, .int x0, .ref a2, .ref a3, .ref a4, .ref a5, .ref a6, .ref a7, .ref a8, .ref a9, .ref a10, .int x1, .int x2, .int x3, .int x4, .int x5, o0, .int x6]))]) (va_A [(a0, .inr (12, [.ref a1, .int x0, .ref a2, .ref a3, .ref a4, .ref a5, .ref a6, .ref a7, .ref a8, .ref a9, .ref a10, .int x1, .int x2, .int x3, .int x4, .int x5, o0, .int x6]))] sz)) 0 0 (va_A [(a0, .inr (12, [.ref a1, .int x0, .ref a2, .ref a3, .ref a4, .ref a5, .ref a6, .ref a7, .ref a8, .ref a9, .ref a10, .int x1, .int x2, .int x3, .int x4, .int x5, o0, .int x6]))] sz) := by
  refine Met.ofW (cc := cX11_rows) (maxL := 1) (ret := (some .int)) (by decide) rfl ?_
  intro p e s m args below meth c s₁ B hml hv
  obtain ⟨rfl, hsz, hP, hK, hD0⟩ := hv
  have hx := B.exec
  have hb := B.bytes
  have hr := B.returns
  have hts := atoms_spec (ws := fw_e_X11_rows) B.pre
  have hown : s.vm.findClass RX11 = some m.cls := findClass_of_methodNamed B.named
  have hlocks := B.notSynchronized
  subst hsz
  have hD := hD0.self (sz := s.heap.size)
  generalize hAe : va_A [(a0, .inr (12, [.ref a1, .int x0, .ref a2, .ref a3, .ref a4, .ref a5, .ref a6, .ref a7, .ref a8, .ref a9, .ref a10, .int x1, .int x2, .int x3, .int x4, .int x5, o0, .int x6]))] s.heap.size = A at hD ⊢
  have hA : ∀ q : Nat, s.heap.size ≤ q → A q := fun q h => by rw [← hAe]; exact Or.inr h
  obtain ⟨H, hH⟩ : ∃ z, z = s.heap := ⟨_, rfl⟩
  rw [← hH] at hP
  have hS : va_S A s.heap H [] := by rw [hH]; exact va_S.rf
  have hP : va_P (dC, dI) vwCl [(a0, .inr (12, [.ref a1, .int x0, .ref a2, .ref a3, .ref a4, .ref a5, .ref a6, .ref a7, .ref a8, .ref a9, .ref a10, .int x1, .int x2, .int x3, .int x4, .int x5, o0, .int x6]))] H := hP
  have hl := lv_entry ([.ref a0]) (n := 1) (Nat.le_of_ble_eq_true rfl)
  rw [lg_entry_eq]
  generalize (lg_sl ([.ref a0]) ++ List.replicate (1 - (lg_sl ([.ref a0])).length) Slot.unset).toArray = ls at hl ⊢
  have hl : lv_has ls 1 [(0, .ref a0)] := hl
  rw [← hH]
  refine lv_aload_n hx hb dX11_rows_0 rfl (lv_at hl 0 rfl) ?_
  refine va_get (D := (dC, dI)) (ci := 12) (v := .int x6) (C := RX11) (T := TX11) (N := 18) hx hb hts in_e_X11_rows_RX11 hown hK hP 0 rfl rfl 17 (by decide) (hts (.fieldLink RX11 98 "TripleStore" "shownRows" "I") (List.mem_of_getElem? (i := 1) rfl)) (fun _ h9 => h9) rfl dX11_rows_1 ?_
  exact W.iret (v := x6) hx hb hr (fun t ht hW => ⟨⟨x6, (), rfl, rfl, by rw [ht]; exact hP, va_K.moved hW.alike hK, hD⟩, hS.F ht⟩) hS.2.2 dX11_rows_4
def fw_e_X11_made : List Cond := .code yX11_made cX11_made 1 (some .int) :: ([.fieldLink RX11 190 "TripleStore" "madeLately" "I"] ++ wsX110)
theorem in_e_X11_made_RX11 : ∀ w ∈ u_ws RX11 TX11 18, w ∈ fw_e_X11_made := fun _ h => List.mem_cons_of_mem _ (List.mem_append_right _ h)
theorem gd_e_X11_made : (fw_e_X11_made).all goodWord = true := by decide +kernel
set_option maxHeartbeats 4000000 in
set_option maxRecDepth 100000 in
theorem e_X11_made (l : Launch) (dC : Nat → ClassId) (dI : Nat → Nat → Nat) (a0 : Nat) (a1 : Nat) (a2 : Nat) (a3 : Nat) (a4 : Nat) (a5 : Nat) (a6 : Nat) (a7 : Nat) (a8 : Nat) (a9 : Nat) (a10 : Nat) (x0 : Int32) (x1 : Int32) (x2 : Int32) (x3 : Int32) (x4 : Int32) (x5 : Int32) (o0 : Value) (x6 : Int32) (sz : Nat) : Met l yX11_made fw_e_X11_made ({ frames := 1, cells := 0, slots := 0, locals := 20 }) (va_Pc [.ref a0] (fun U => U.heap.size = sz ∧ va_P (dC, dI) vwCl [(a0, .inr (12, [.ref a1, .int x0, .ref a2, .ref a3, .ref a4, .ref a5, .ref a6, .ref a7, .ref a8, .ref a9, .ref a10, .int x1, .int x2, .int x3, .int x4, .int x5, o0, .int x6]))] U.heap ∧ va_K (dC, dI) vwCl [] U ∧ va_D (fun _ => True) [(a0, .inr (12, [.ref a1, .int x0, .ref a2, .ref a3, .ref a4, .ref a5, .ref a6, .ref a7, .ref a8, .ref a9, .ref a10, .int x1, .int x2, .int x3, .int x4, .int x5, o0, .int x6]))])) (va_Qi (fun (r : Int32) (_ : Unit) => r = x4) (fun _ t => va_P (dC, dI) vwCl [(a0, .inr (12, [.ref a1, .int x0, .ref a2, .ref a3, .ref a4, .ref a5, .ref a6, .ref a7, .ref a8, .ref a9, .ref a10, .int x1, .int x2, .int x3, .int x4, .int x5, o0, .int x6]))] t.heap ∧ va_K (dC, dI) vwCl [] t ∧ va_D (va_A [(a0, .inr (12, [.ref a1, .int x0, .ref a2, .ref a3, .ref a4, .ref a5, .ref a6, .ref a7, .ref a8, .ref a9, .ref a10, .int x1, .int x2, .int x3, .int x4, .int x5, o0, .int x6]))] sz) [(a0, .inr (12, [.ref a1, .int x0, .ref a2, .ref a3, .ref a4, .ref a5, .ref a6, .ref a7, .ref a8, .ref a9, .ref a10, .int x1, .int x2, .int x3, .int x4, .int x5, o0, .int x6]))]) (va_A [(a0, .inr (12, [.ref a1, .int x0, .ref a2, .ref a3, .ref a4, .ref a5, .ref a6, .ref a7, .ref a8, .ref a9, .ref a10, .int x1, .int x2, .int x3, .int x4, .int x5, o0, .int x6]))] sz)) 0 0 (va_A [(a0, .inr (12, [.ref a1, .int x0, .ref a2, .ref a3, .ref a4, .ref a5, .ref a6, .ref a7, .ref a8, .ref a9, .ref a10, .int x1, .int x2, .int x3, .int x4, .int x5, o0, .int x6]))] sz) := by
  refine Met.ofW (cc := cX11_made) (maxL := 1) (ret := (some .int)) (by decide) rfl ?_
  intro p e s m args below meth c s₁ B hml hv
  obtain ⟨rfl, hsz, hP, hK, hD0⟩ := hv
  have hx := B.exec
  have hb := B.bytes
  have hr := B.returns
  have hts := atoms_spec (ws := fw_e_X11_made) B.pre
  have hown : s.vm.findClass RX11 = some m.cls := findClass_of_methodNamed B.named
  have hlocks := B.notSynchronized
  subst hsz
  have hD := hD0.self (sz := s.heap.size)
  generalize hAe : va_A [(a0, .inr (12, [.ref a1, .int x0, .ref a2, .ref a3, .ref a4, .ref a5, .ref a6, .ref a7, .ref a8, .ref a9, .ref a10, .int x1, .int x2, .int x3, .int x4, .int x5, o0, .int x6]))] s.heap.size = A at hD ⊢
  have hA : ∀ q : Nat, s.heap.size ≤ q → A q := fun q h => by rw [← hAe]; exact Or.inr h
  obtain ⟨H, hH⟩ : ∃ z, z = s.heap := ⟨_, rfl⟩
  rw [← hH] at hP
  have hS : va_S A s.heap H [] := by rw [hH]; exact va_S.rf
  have hP : va_P (dC, dI) vwCl [(a0, .inr (12, [.ref a1, .int x0, .ref a2, .ref a3, .ref a4, .ref a5, .ref a6, .ref a7, .ref a8, .ref a9, .ref a10, .int x1, .int x2, .int x3, .int x4, .int x5, o0, .int x6]))] H := hP
  have hl := lv_entry ([.ref a0]) (n := 1) (Nat.le_of_ble_eq_true rfl)
  rw [lg_entry_eq]
  generalize (lg_sl ([.ref a0]) ++ List.replicate (1 - (lg_sl ([.ref a0])).length) Slot.unset).toArray = ls at hl ⊢
  have hl : lv_has ls 1 [(0, .ref a0)] := hl
  rw [← hH]
  refine lv_aload_n hx hb dX11_made_0 rfl (lv_at hl 0 rfl) ?_
  refine va_get (D := (dC, dI)) (ci := 12) (v := .int x4) (C := RX11) (T := TX11) (N := 18) hx hb hts in_e_X11_made_RX11 hown hK hP 0 rfl rfl 14 (by decide) (hts (.fieldLink RX11 190 "TripleStore" "madeLately" "I") (List.mem_of_getElem? (i := 1) rfl)) (fun _ h9 => h9) rfl dX11_made_1 ?_
  exact W.iret (v := x4) hx hb hr (fun t ht hW => ⟨⟨x4, (), rfl, rfl, by rw [ht]; exact hP, va_K.moved hW.alike hK, hD⟩, hS.F ht⟩) hS.2.2 dX11_made_4
def fw_e_X11_triples : List Cond := .code yX11_triples cX11_triples 1 (some .int) :: ([.fieldLink RX11 26 "TripleStore" "triples" "LTripleStore$Triples;", .fieldLink RX11 196 "TripleStore$Triples" "size" "I"] ++ wsX110 ++ wsX90)
theorem in_e_X11_triples_RX11 : ∀ w ∈ u_ws RX11 TX11 18, w ∈ fw_e_X11_triples := fun _ h => List.mem_cons_of_mem _ (List.mem_append_left _ (List.mem_append_right _ h))
theorem in_e_X11_triples_RX9 : ∀ w ∈ u_ws RX9 TX9 19, w ∈ fw_e_X11_triples := fun _ h => List.mem_cons_of_mem _ (List.mem_append_right _ h)
theorem gd_e_X11_triples : (fw_e_X11_triples).all goodWord = true := by decide +kernel
set_option maxHeartbeats 4000000 in
set_option maxRecDepth 100000 in
theorem e_X11_triples (l : Launch) (dC : Nat → ClassId) (dI : Nat → Nat → Nat) (a0 : Nat) (a1 : Nat) (a2 : Nat) (a3 : Nat) (a4 : Nat) (a5 : Nat) (a6 : Nat) (a7 : Nat) (a8 : Nat) (a9 : Nat) (a10 : Nat) (a24 : Nat) (a25 : Nat) (a26 : Nat) (a27 : Nat) (a28 : Nat) (a29 : Nat) (a30 : Nat) (a31 : Nat) (a32 : Nat) (a33 : Nat) (a34 : Nat) (x0 : Int32) (x1 : Int32) (x2 : Int32) (x3 : Int32) (x4 : Int32) (x5 : Int32) (o0 : Value) (x6 : Int32) (x11 : Int32) (x12 : Int32) (x13 : Int32) (x14 : Int32) (x15 : Int32) (x16 : Int32) (x17 : Int32) (x18 : Int32) (sz : Nat) : Met l yX11_triples fw_e_X11_triples ({ frames := 1, cells := 0, slots := 0, locals := 20 }) (va_Pc [.ref a0] (fun U => U.heap.size = sz ∧ va_P (dC, dI) vwCl [(a0, .inr (12, [.ref a1, .int x0, .ref a2, .ref a3, .ref a4, .ref a5, .ref a6, .ref a7, .ref a8, .ref a9, .ref a10, .int x1, .int x2, .int x3, .int x4, .int x5, o0, .int x6])), (a3, .inr (10, [.ref a24, .ref a25, .ref a26, .ref a27, .ref a28, .ref a29, .ref a30, .ref a31, .ref a32, .ref a33, .ref a34, .int x11, .int x12, .int x13, .int x14, .int x15, .int x16, .int x17, .int x18]))] U.heap ∧ va_K (dC, dI) vwCl [] U ∧ va_D (fun _ => True) [(a0, .inr (12, [.ref a1, .int x0, .ref a2, .ref a3, .ref a4, .ref a5, .ref a6, .ref a7, .ref a8, .ref a9, .ref a10, .int x1, .int x2, .int x3, .int x4, .int x5, o0, .int x6])), (a3, .inr (10, [.ref a24, .ref a25, .ref a26, .ref a27, .ref a28, .ref a29, .ref a30, .ref a31, .ref a32, .ref a33, .ref a34, .int x11, .int x12, .int x13, .int x14, .int x15, .int x16, .int x17, .int x18]))])) (va_Qi (fun (r : Int32) (_ : Unit) => r = x13) (fun _ t => va_P (dC, dI) vwCl [(a0, .inr (12, [.ref a1, .int x0, .ref a2, .ref a3, .ref a4, .ref a5, .ref a6, .ref a7, .ref a8, .ref a9, .ref a10, .int x1, .int x2, .int x3, .int x4, .int x5, o0, .int x6])), (a3, .inr (10, [.ref a24, .ref a25, .ref a26, .ref a27, .ref a28, .ref a29, .ref a30, .ref a31, .ref a32, .ref a33, .ref a34, .int x11, .int x12, .int x13, .int x14, .int x15, .int x16, .int x17, .int x18]))] t.heap ∧ va_K (dC, dI) vwCl [] t ∧ va_D (va_A [(a0, .inr (12, [.ref a1, .int x0, .ref a2, .ref a3, .ref a4, .ref a5, .ref a6, .ref a7, .ref a8, .ref a9, .ref a10, .int x1, .int x2, .int x3, .int x4, .int x5, o0, .int x6])), (a3, .inr (10, [.ref a24, .ref a25, .ref a26, .ref a27, .ref a28, .ref a29, .ref a30, .ref a31, .ref a32, .ref a33, .ref a34, .int x11, .int x12, .int x13, .int x14, .int x15, .int x16, .int x17, .int x18]))] sz) [(a0, .inr (12, [.ref a1, .int x0, .ref a2, .ref a3, .ref a4, .ref a5, .ref a6, .ref a7, .ref a8, .ref a9, .ref a10, .int x1, .int x2, .int x3, .int x4, .int x5, o0, .int x6])), (a3, .inr (10, [.ref a24, .ref a25, .ref a26, .ref a27, .ref a28, .ref a29, .ref a30, .ref a31, .ref a32, .ref a33, .ref a34, .int x11, .int x12, .int x13, .int x14, .int x15, .int x16, .int x17, .int x18]))]) (va_A [(a0, .inr (12, [.ref a1, .int x0, .ref a2, .ref a3, .ref a4, .ref a5, .ref a6, .ref a7, .ref a8, .ref a9, .ref a10, .int x1, .int x2, .int x3, .int x4, .int x5, o0, .int x6])), (a3, .inr (10, [.ref a24, .ref a25, .ref a26, .ref a27, .ref a28, .ref a29, .ref a30, .ref a31, .ref a32, .ref a33, .ref a34, .int x11, .int x12, .int x13, .int x14, .int x15, .int x16, .int x17, .int x18]))] sz)) 0 0 (va_A [(a0, .inr (12, [.ref a1, .int x0, .ref a2, .ref a3, .ref a4, .ref a5, .ref a6, .ref a7, .ref a8, .ref a9, .ref a10, .int x1, .int x2, .int x3, .int x4, .int x5, o0, .int x6])), (a3, .inr (10, [.ref a24, .ref a25, .ref a26, .ref a27, .ref a28, .ref a29, .ref a30, .ref a31, .ref a32, .ref a33, .ref a34, .int x11, .int x12, .int x13, .int x14, .int x15, .int x16, .int x17, .int x18]))] sz) := by
  refine Met.ofW (cc := cX11_triples) (maxL := 1) (ret := (some .int)) (by decide) rfl ?_
  intro p e s m args below meth c s₁ B hml hv
  obtain ⟨rfl, hsz, hP, hK, hD0⟩ := hv
  have hx := B.exec
  have hb := B.bytes
  have hr := B.returns
  have hts := atoms_spec (ws := fw_e_X11_triples) B.pre
  have hown : s.vm.findClass RX11 = some m.cls := findClass_of_methodNamed B.named
  have hlocks := B.notSynchronized
  subst hsz
  have hD := hD0.self (sz := s.heap.size)
  generalize hAe : va_A [(a0, .inr (12, [.ref a1, .int x0, .ref a2, .ref a3, .ref a4, .ref a5, .ref a6, .ref a7, .ref a8, .ref a9, .ref a10, .int x1, .int x2, .int x3, .int x4, .int x5, o0, .int x6])), (a3, .inr (10, [.ref a24, .ref a25, .ref a26, .ref a27, .ref a28, .ref a29, .ref a30, .ref a31, .ref a32, .ref a33, .ref a34, .int x11, .int x12, .int x13, .int x14, .int x15, .int x16, .int x17, .int x18]))] s.heap.size = A at hD ⊢
  have hA : ∀ q : Nat, s.heap.size ≤ q → A q := fun q h => by rw [← hAe]; exact Or.inr h
  obtain ⟨H, hH⟩ : ∃ z, z = s.heap := ⟨_, rfl⟩
  rw [← hH] at hP
  have hS : va_S A s.heap H [] := by rw [hH]; exact va_S.rf
  have hP : va_P (dC, dI) vwCl [(a0, .inr (12, [.ref a1, .int x0, .ref a2, .ref a3, .ref a4, .ref a5, .ref a6, .ref a7, .ref a8, .ref a9, .ref a10, .int x1, .int x2, .int x3, .int x4, .int x5, o0, .int x6])), (a3, .inr (10, [.ref a24, .ref a25, .ref a26, .ref a27, .ref a28, .ref a29, .ref a30, .ref a31, .ref a32, .ref a33, .ref a34, .int x11, .int x12, .int x13, .int x14, .int x15, .int x16, .int x17, .int x18]))] H := hP
  have hl := lv_entry ([.ref a0]) (n := 1) (Nat.le_of_ble_eq_true rfl)
  rw [lg_entry_eq]
  generalize (lg_sl ([.ref a0]) ++ List.replicate (1 - (lg_sl ([.ref a0])).length) Slot.unset).toArray = ls at hl ⊢
  have hl : lv_has ls 1 [(0, .ref a0)] := hl
  rw [← hH]
  refine lv_aload_n hx hb dX11_triples_0 rfl (lv_at hl 0 rfl) ?_
  refine va_get (D := (dC, dI)) (ci := 12) (v := .ref a3) (C := RX11) (T := TX11) (N := 18) hx hb hts in_e_X11_triples_RX11 hown hK hP 0 rfl rfl 3 (by decide) (hts (.fieldLink RX11 26 "TripleStore" "triples" "LTripleStore$Triples;") (List.mem_of_getElem? (i := 1) rfl)) (fun _ h9 => h9) rfl dX11_triples_1 ?_
  refine va_get (D := (dC, dI)) (ci := 10) (v := .int x13) (C := RX9) (T := TX9) (N := 19) hx hb hts in_e_X11_triples_RX9 hown hK hP 1 rfl rfl 13 (by decide) (hts (.fieldLink RX11 196 "TripleStore$Triples" "size" "I") (List.mem_of_getElem? (i := 2) rfl)) (fun _ h9 => h9) rfl dX11_triples_4 ?_
  exact W.iret (v := x13) hx hb hr (fun t ht hW => ⟨⟨x13, (), rfl, rfl, by rw [ht]; exact hP, va_K.moved hW.alike hK, hD⟩, hS.F ht⟩) hS.2.2 dX11_triples_7
def fw_e_X11_said : List Cond := .code yX11_said cX11_said 1 (some .int) :: ([.fieldLink RX11 26 "TripleStore" "triples" "LTripleStore$Triples;", .fieldLink RX11 152 "TripleStore$Triples" "sayings" "I"] ++ wsX110 ++ wsX90)
theorem in_e_X11_said_RX11 : ∀ w ∈ u_ws RX11 TX11 18, w ∈ fw_e_X11_said := fun _ h => List.mem_cons_of_mem _ (List.mem_append_left _ (List.mem_append_right _ h))
theorem in_e_X11_said_RX9 : ∀ w ∈ u_ws RX9 TX9 19, w ∈ fw_e_X11_said := fun _ h => List.mem_cons_of_mem _ (List.mem_append_right _ h)
theorem gd_e_X11_said : (fw_e_X11_said).all goodWord = true := by decide +kernel
set_option maxHeartbeats 4000000 in
set_option maxRecDepth 100000 in
theorem e_X11_said (l : Launch) (dC : Nat → ClassId) (dI : Nat → Nat → Nat) (a0 : Nat) (a1 : Nat) (a2 : Nat) (a3 : Nat) (a4 : Nat) (a5 : Nat) (a6 : Nat) (a7 : Nat) (a8 : Nat) (a9 : Nat) (a10 : Nat) (a24 : Nat) (a25 : Nat) (a26 : Nat) (a27 : Nat) (a28 : Nat) (a29 : Nat) (a30 : Nat) (a31 : Nat) (a32 : Nat) (a33 : Nat) (a34 : Nat) (x0 : Int32) (x1 : Int32) (x2 : Int32) (x3 : Int32) (x4 : Int32) (x5 : Int32) (o0 : Value) (x6 : Int32) (x11 : Int32) (x12 : Int32) (x13 : Int32) (x14 : Int32) (x15 : Int32) (x16 : Int32) (x17 : Int32) (x18 : Int32) (sz : Nat) : Met l yX11_said fw_e_X11_said ({ frames := 1, cells := 0, slots := 0, locals := 20 }) (va_Pc [.ref a0] (fun U => U.heap.size = sz ∧ va_P (dC, dI) vwCl [(a0, .inr (12, [.ref a1, .int x0, .ref a2, .ref a3, .ref a4, .ref a5, .ref a6, .ref a7, .ref a8, .ref a9, .ref a10, .int x1, .int x2, .int x3, .int x4, .int x5, o0, .int x6])), (a3, .inr (10, [.ref a24, .ref a25, .ref a26, .ref a27, .ref a28, .ref a29, .ref a30, .ref a31, .ref a32, .ref a33, .ref a34, .int x11, .int x12, .int x13, .int x14, .int x15, .int x16, .int x17, .int x18]))] U.heap ∧ va_K (dC, dI) vwCl [] U ∧ va_D (fun _ => True) [(a0, .inr (12, [.ref a1, .int x0, .ref a2, .ref a3, .ref a4, .ref a5, .ref a6, .ref a7, .ref a8, .ref a9, .ref a10, .int x1, .int x2, .int x3, .int x4, .int x5, o0, .int x6])), (a3, .inr (10, [.ref a24, .ref a25, .ref a26, .ref a27, .ref a28, .ref a29, .ref a30, .ref a31, .ref a32, .ref a33, .ref a34, .int x11, .int x12, .int x13, .int x14, .int x15, .int x16, .int x17, .int x18]))])) (va_Qi (fun (r : Int32) (_ : Unit) => r = x14) (fun _ t => va_P (dC, dI) vwCl [(a0, .inr (12, [.ref a1, .int x0, .ref a2, .ref a3, .ref a4, .ref a5, .ref a6, .ref a7, .ref a8, .ref a9, .ref a10, .int x1, .int x2, .int x3, .int x4, .int x5, o0, .int x6])), (a3, .inr (10, [.ref a24, .ref a25, .ref a26, .ref a27, .ref a28, .ref a29, .ref a30, .ref a31, .ref a32, .ref a33, .ref a34, .int x11, .int x12, .int x13, .int x14, .int x15, .int x16, .int x17, .int x18]))] t.heap ∧ va_K (dC, dI) vwCl [] t ∧ va_D (va_A [(a0, .inr (12, [.ref a1, .int x0, .ref a2, .ref a3, .ref a4, .ref a5, .ref a6, .ref a7, .ref a8, .ref a9, .ref a10, .int x1, .int x2, .int x3, .int x4, .int x5, o0, .int x6])), (a3, .inr (10, [.ref a24, .ref a25, .ref a26, .ref a27, .ref a28, .ref a29, .ref a30, .ref a31, .ref a32, .ref a33, .ref a34, .int x11, .int x12, .int x13, .int x14, .int x15, .int x16, .int x17, .int x18]))] sz) [(a0, .inr (12, [.ref a1, .int x0, .ref a2, .ref a3, .ref a4, .ref a5, .ref a6, .ref a7, .ref a8, .ref a9, .ref a10, .int x1, .int x2, .int x3, .int x4, .int x5, o0, .int x6])), (a3, .inr (10, [.ref a24, .ref a25, .ref a26, .ref a27, .ref a28, .ref a29, .ref a30, .ref a31, .ref a32, .ref a33, .ref a34, .int x11, .int x12, .int x13, .int x14, .int x15, .int x16, .int x17, .int x18]))]) (va_A [(a0, .inr (12, [.ref a1, .int x0, .ref a2, .ref a3, .ref a4, .ref a5, .ref a6, .ref a7, .ref a8, .ref a9, .ref a10, .int x1, .int x2, .int x3, .int x4, .int x5, o0, .int x6])), (a3, .inr (10, [.ref a24, .ref a25, .ref a26, .ref a27, .ref a28, .ref a29, .ref a30, .ref a31, .ref a32, .ref a33, .ref a34, .int x11, .int x12, .int x13, .int x14, .int x15, .int x16, .int x17, .int x18]))] sz)) 0 0 (va_A [(a0, .inr (12, [.ref a1, .int x0, .ref a2, .ref a3, .ref a4, .ref a5, .ref a6, .ref a7, .ref a8, .ref a9, .ref a10, .int x1, .int x2, .int x3, .int x4, .int x5, o0, .int x6])), (a3, .inr (10, [.ref a24, .ref a25, .ref a26, .ref a27, .ref a28, .ref a29, .ref a30, .ref a31, .ref a32, .ref a33, .ref a34, .int x11, .int x12, .int x13, .int x14, .int x15, .int x16, .int x17, .int x18]))] sz) := by
  refine Met.ofW (cc := cX11_said) (maxL := 1) (ret := (some .int)) (by decide) rfl ?_
  intro p e s m args below meth c s₁ B hml hv
  obtain ⟨rfl, hsz, hP, hK, hD0⟩ := hv
  have hx := B.exec
  have hb := B.bytes
  have hr := B.returns
  have hts := atoms_spec (ws := fw_e_X11_said) B.pre
  have hown : s.vm.findClass RX11 = some m.cls := findClass_of_methodNamed B.named
  have hlocks := B.notSynchronized
  subst hsz
  have hD := hD0.self (sz := s.heap.size)
  generalize hAe : va_A [(a0, .inr (12, [.ref a1, .int x0, .ref a2, .ref a3, .ref a4, .ref a5, .ref a6, .ref a7, .ref a8, .ref a9, .ref a10, .int x1, .int x2, .int x3, .int x4, .int x5, o0, .int x6])), (a3, .inr (10, [.ref a24, .ref a25, .ref a26, .ref a27, .ref a28, .ref a29, .ref a30, .ref a31, .ref a32, .ref a33, .ref a34, .int x11, .int x12, .int x13, .int x14, .int x15, .int x16, .int x17, .int x18]))] s.heap.size = A at hD ⊢
  have hA : ∀ q : Nat, s.heap.size ≤ q → A q := fun q h => by rw [← hAe]; exact Or.inr h
  obtain ⟨H, hH⟩ : ∃ z, z = s.heap := ⟨_, rfl⟩
  rw [← hH] at hP
  have hS : va_S A s.heap H [] := by rw [hH]; exact va_S.rf
  have hP : va_P (dC, dI) vwCl [(a0, .inr (12, [.ref a1, .int x0, .ref a2, .ref a3, .ref a4, .ref a5, .ref a6, .ref a7, .ref a8, .ref a9, .ref a10, .int x1, .int x2, .int x3, .int x4, .int x5, o0, .int x6])), (a3, .inr (10, [.ref a24, .ref a25, .ref a26, .ref a27, .ref a28, .ref a29, .ref a30, .ref a31, .ref a32, .ref a33, .ref a34, .int x11, .int x12, .int x13, .int x14, .int x15, .int x16, .int x17, .int x18]))] H := hP
  have hl := lv_entry ([.ref a0]) (n := 1) (Nat.le_of_ble_eq_true rfl)
  rw [lg_entry_eq]
  generalize (lg_sl ([.ref a0]) ++ List.replicate (1 - (lg_sl ([.ref a0])).length) Slot.unset).toArray = ls at hl ⊢
  have hl : lv_has ls 1 [(0, .ref a0)] := hl
  rw [← hH]
  refine lv_aload_n hx hb dX11_said_0 rfl (lv_at hl 0 rfl) ?_
  refine va_get (D := (dC, dI)) (ci := 12) (v := .ref a3) (C := RX11) (T := TX11) (N := 18) hx hb hts in_e_X11_said_RX11 hown hK hP 0 rfl rfl 3 (by decide) (hts (.fieldLink RX11 26 "TripleStore" "triples" "LTripleStore$Triples;") (List.mem_of_getElem? (i := 1) rfl)) (fun _ h9 => h9) rfl dX11_said_1 ?_
  refine va_get (D := (dC, dI)) (ci := 10) (v := .int x14) (C := RX9) (T := TX9) (N := 19) hx hb hts in_e_X11_said_RX9 hown hK hP 1 rfl rfl 14 (by decide) (hts (.fieldLink RX11 152 "TripleStore$Triples" "sayings" "I") (List.mem_of_getElem? (i := 2) rfl)) (fun _ h9 => h9) rfl dX11_said_4 ?_
  exact W.iret (v := x14) hx hb hr (fun t ht hW => ⟨⟨x14, (), rfl, rfl, by rw [ht]; exact hP, va_K.moved hW.alike hK, hD⟩, hS.F ht⟩) hS.2.2 dX11_said_7
def fw_e_X11_terms : List Cond := .code yX11_terms cX11_terms 1 (some .int) :: ([.fieldLink RX11 19 "TripleStore" "terms" "LTripleStore$Terms;", .fieldLink RX11 197 "TripleStore$Terms" "numbered" "I"] ++ wsX110 ++ wsX70)
theorem in_e_X11_terms_RX11 : ∀ w ∈ u_ws RX11 TX11 18, w ∈ fw_e_X11_terms := fun _ h => List.mem_cons_of_mem _ (List.mem_append_left _ (List.mem_append_right _ h))
theorem in_e_X11_terms_RX7 : ∀ w ∈ u_ws RX7 TX7 17, w ∈ fw_e_X11_terms := fun _ h => List.mem_cons_of_mem _ (List.mem_append_right _ h)
theorem gd_e_X11_terms : (fw_e_X11_terms).all goodWord = true := by decide +kernel
set_option maxHeartbeats 4000000 in
set_option maxRecDepth 100000 in
theorem e_X11_terms (l : Launch) (dC : Nat → ClassId) (dI : Nat → Nat → Nat) (a0 : Nat) (a1 : Nat) (a2 : Nat) (a3 : Nat) (a4 : Nat) (a5 : Nat) (a6 : Nat) (a7 : Nat) (a8 : Nat) (a9 : Nat) (a10 : Nat) (a11 : Nat) (a12 : Nat) (a13 : Nat) (a14 : Nat) (a15 : Nat) (a16 : Nat) (a17 : Nat) (a18 : Nat) (a19 : Nat) (a20 : Nat) (a21 : Nat) (a22 : Nat) (a23 : Nat) (x0 : Int32) (x1 : Int32) (x2 : Int32) (x3 : Int32) (x4 : Int32) (x5 : Int32) (o0 : Value) (x6 : Int32) (x7 : Int32) (x8 : Int32) (x9 : Int32) (x10 : Int32) (sz : Nat) : Met l yX11_terms fw_e_X11_terms ({ frames := 1, cells := 0, slots := 0, locals := 20 }) (va_Pc [.ref a0] (fun U => U.heap.size = sz ∧ va_P (dC, dI) vwCl [(a0, .inr (12, [.ref a1, .int x0, .ref a2, .ref a3, .ref a4, .ref a5, .ref a6, .ref a7, .ref a8, .ref a9, .ref a10, .int x1, .int x2, .int x3, .int x4, .int x5, o0, .int x6])), (a2, .inr (8, [.ref a11, .ref a12, .ref a13, .ref a14, .ref a15, .ref a16, .ref a17, .ref a18, .ref a19, .ref a20, .ref a21, .ref a22, .ref a23, .int x7, .int x8, .int x9, .int x10]))] U.heap ∧ va_K (dC, dI) vwCl [] U ∧ va_D (fun _ => True) [(a0, .inr (12, [.ref a1, .int x0, .ref a2, .ref a3, .ref a4, .ref a5, .ref a6, .ref a7, .ref a8, .ref a9, .ref a10, .int x1, .int x2, .int x3, .int x4, .int x5, o0, .int x6])), (a2, .inr (8, [.ref a11, .ref a12, .ref a13, .ref a14, .ref a15, .ref a16, .ref a17, .ref a18, .ref a19, .ref a20, .ref a21, .ref a22, .ref a23, .int x7, .int x8, .int x9, .int x10]))])) (va_Qi (fun (r : Int32) (_ : Unit) => r = x10) (fun _ t => va_P (dC, dI) vwCl [(a0, .inr (12, [.ref a1, .int x0, .ref a2, .ref a3, .ref a4, .ref a5, .ref a6, .ref a7, .ref a8, .ref a9, .ref a10, .int x1, .int x2, .int x3, .int x4, .int x5, o0, .int x6])), (a2, .inr (8, [.ref a11, .ref a12, .ref a13, .ref a14, .ref a15, .ref a16, .ref a17, .ref a18, .ref a19, .ref a20, .ref a21, .ref a22, .ref a23, .int x7, .int x8, .int x9, .int x10]))] t.heap ∧ va_K (dC, dI) vwCl [] t ∧ va_D (va_A [(a0, .inr (12, [.ref a1, .int x0, .ref a2, .ref a3, .ref a4, .ref a5, .ref a6, .ref a7, .ref a8, .ref a9, .ref a10, .int x1, .int x2, .int x3, .int x4, .int x5, o0, .int x6])), (a2, .inr (8, [.ref a11, .ref a12, .ref a13, .ref a14, .ref a15, .ref a16, .ref a17, .ref a18, .ref a19, .ref a20, .ref a21, .ref a22, .ref a23, .int x7, .int x8, .int x9, .int x10]))] sz) [(a0, .inr (12, [.ref a1, .int x0, .ref a2, .ref a3, .ref a4, .ref a5, .ref a6, .ref a7, .ref a8, .ref a9, .ref a10, .int x1, .int x2, .int x3, .int x4, .int x5, o0, .int x6])), (a2, .inr (8, [.ref a11, .ref a12, .ref a13, .ref a14, .ref a15, .ref a16, .ref a17, .ref a18, .ref a19, .ref a20, .ref a21, .ref a22, .ref a23, .int x7, .int x8, .int x9, .int x10]))]) (va_A [(a0, .inr (12, [.ref a1, .int x0, .ref a2, .ref a3, .ref a4, .ref a5, .ref a6, .ref a7, .ref a8, .ref a9, .ref a10, .int x1, .int x2, .int x3, .int x4, .int x5, o0, .int x6])), (a2, .inr (8, [.ref a11, .ref a12, .ref a13, .ref a14, .ref a15, .ref a16, .ref a17, .ref a18, .ref a19, .ref a20, .ref a21, .ref a22, .ref a23, .int x7, .int x8, .int x9, .int x10]))] sz)) 0 0 (va_A [(a0, .inr (12, [.ref a1, .int x0, .ref a2, .ref a3, .ref a4, .ref a5, .ref a6, .ref a7, .ref a8, .ref a9, .ref a10, .int x1, .int x2, .int x3, .int x4, .int x5, o0, .int x6])), (a2, .inr (8, [.ref a11, .ref a12, .ref a13, .ref a14, .ref a15, .ref a16, .ref a17, .ref a18, .ref a19, .ref a20, .ref a21, .ref a22, .ref a23, .int x7, .int x8, .int x9, .int x10]))] sz) := by
  refine Met.ofW (cc := cX11_terms) (maxL := 1) (ret := (some .int)) (by decide) rfl ?_
  intro p e s m args below meth c s₁ B hml hv
  obtain ⟨rfl, hsz, hP, hK, hD0⟩ := hv
  have hx := B.exec
  have hb := B.bytes
  have hr := B.returns
  have hts := atoms_spec (ws := fw_e_X11_terms) B.pre
  have hown : s.vm.findClass RX11 = some m.cls := findClass_of_methodNamed B.named
  have hlocks := B.notSynchronized
  subst hsz
  have hD := hD0.self (sz := s.heap.size)
  generalize hAe : va_A [(a0, .inr (12, [.ref a1, .int x0, .ref a2, .ref a3, .ref a4, .ref a5, .ref a6, .ref a7, .ref a8, .ref a9, .ref a10, .int x1, .int x2, .int x3, .int x4, .int x5, o0, .int x6])), (a2, .inr (8, [.ref a11, .ref a12, .ref a13, .ref a14, .ref a15, .ref a16, .ref a17, .ref a18, .ref a19, .ref a20, .ref a21, .ref a22, .ref a23, .int x7, .int x8, .int x9, .int x10]))] s.heap.size = A at hD ⊢
  have hA : ∀ q : Nat, s.heap.size ≤ q → A q := fun q h => by rw [← hAe]; exact Or.inr h
  obtain ⟨H, hH⟩ : ∃ z, z = s.heap := ⟨_, rfl⟩
  rw [← hH] at hP
  have hS : va_S A s.heap H [] := by rw [hH]; exact va_S.rf
  have hP : va_P (dC, dI) vwCl [(a0, .inr (12, [.ref a1, .int x0, .ref a2, .ref a3, .ref a4, .ref a5, .ref a6, .ref a7, .ref a8, .ref a9, .ref a10, .int x1, .int x2, .int x3, .int x4, .int x5, o0, .int x6])), (a2, .inr (8, [.ref a11, .ref a12, .ref a13, .ref a14, .ref a15, .ref a16, .ref a17, .ref a18, .ref a19, .ref a20, .ref a21, .ref a22, .ref a23, .int x7, .int x8, .int x9, .int x10]))] H := hP
  have hl := lv_entry ([.ref a0]) (n := 1) (Nat.le_of_ble_eq_true rfl)
  rw [lg_entry_eq]
  generalize (lg_sl ([.ref a0]) ++ List.replicate (1 - (lg_sl ([.ref a0])).length) Slot.unset).toArray = ls at hl ⊢
  have hl : lv_has ls 1 [(0, .ref a0)] := hl
  rw [← hH]
  refine lv_aload_n hx hb dX11_terms_0 rfl (lv_at hl 0 rfl) ?_
  refine va_get (D := (dC, dI)) (ci := 12) (v := .ref a2) (C := RX11) (T := TX11) (N := 18) hx hb hts in_e_X11_terms_RX11 hown hK hP 0 rfl rfl 2 (by decide) (hts (.fieldLink RX11 19 "TripleStore" "terms" "LTripleStore$Terms;") (List.mem_of_getElem? (i := 1) rfl)) (fun _ h9 => h9) rfl dX11_terms_1 ?_
  refine va_get (D := (dC, dI)) (ci := 8) (v := .int x10) (C := RX7) (T := TX7) (N := 17) hx hb hts in_e_X11_terms_RX7 hown hK hP 1 rfl rfl 16 (by decide) (hts (.fieldLink RX11 197 "TripleStore$Terms" "numbered" "I") (List.mem_of_getElem? (i := 2) rfl)) (fun _ h9 => h9) rfl dX11_terms_4 ?_
  exact W.iret (v := x10) hx hb hr (fun t ht hW => ⟨⟨x10, (), rfl, rfl, by rw [ht]; exact hP, va_K.moved hW.alike hK, hD⟩, hS.F ht⟩) hS.2.2 dX11_terms_7
def fw_e_X11_rules : List Cond := .code yX11_rules cX11_rules 1 (some .int) :: ([.fieldLink RX11 35 "TripleStore" "rules" "LTripleStore$Rules;", .fieldLink RX11 200 "TripleStore$Rules" "size" "I"] ++ wsX110 ++ wsX60)
theorem in_e_X11_rules_RX11 : ∀ w ∈ u_ws RX11 TX11 18, w ∈ fw_e_X11_rules := fun _ h => List.mem_cons_of_mem _ (List.mem_append_left _ (List.mem_append_right _ h))
theorem in_e_X11_rules_RX6 : ∀ w ∈ u_ws RX6 TX6 11, w ∈ fw_e_X11_rules := fun _ h => List.mem_cons_of_mem _ (List.mem_append_right _ h)
theorem gd_e_X11_rules : (fw_e_X11_rules).all goodWord = true := by decide +kernel
set_option maxHeartbeats 4000000 in
set_option maxRecDepth 100000 in
theorem e_X11_rules (l : Launch) (dC : Nat → ClassId) (dI : Nat → Nat → Nat) (a0 : Nat) (a1 : Nat) (a2 : Nat) (a3 : Nat) (a4 : Nat) (a5 : Nat) (a6 : Nat) (a7 : Nat) (a8 : Nat) (a9 : Nat) (a10 : Nat) (a35 : Nat) (a36 : Nat) (a37 : Nat) (a38 : Nat) (x0 : Int32) (x1 : Int32) (x2 : Int32) (x3 : Int32) (x4 : Int32) (x5 : Int32) (o0 : Value) (x6 : Int32) (x19 : Int32) (x20 : Int32) (x21 : Int32) (x22 : Int32) (x23 : Int32) (sz : Nat) : Met l yX11_rules fw_e_X11_rules ({ frames := 1, cells := 0, slots := 0, locals := 20 }) (va_Pc [.ref a0] (fun U => U.heap.size = sz ∧ va_P (dC, dI) vwCl [(a0, .inr (12, [.ref a1, .int x0, .ref a2, .ref a3, .ref a4, .ref a5, .ref a6, .ref a7, .ref a8, .ref a9, .ref a10, .int x1, .int x2, .int x3, .int x4, .int x5, o0, .int x6])), (a4, .inr (7, [.ref a2, .ref a3, .ref a35, .ref a36, .ref a37, .ref a38, .int x19, .int x20, .int x21, .int x22, .int x23]))] U.heap ∧ va_K (dC, dI) vwCl [] U ∧ va_D (fun _ => True) [(a0, .inr (12, [.ref a1, .int x0, .ref a2, .ref a3, .ref a4, .ref a5, .ref a6, .ref a7, .ref a8, .ref a9, .ref a10, .int x1, .int x2, .int x3, .int x4, .int x5, o0, .int x6])), (a4, .inr (7, [.ref a2, .ref a3, .ref a35, .ref a36, .ref a37, .ref a38, .int x19, .int x20, .int x21, .int x22, .int x23]))])) (va_Qi (fun (r : Int32) (_ : Unit) => r = x22) (fun _ t => va_P (dC, dI) vwCl [(a0, .inr (12, [.ref a1, .int x0, .ref a2, .ref a3, .ref a4, .ref a5, .ref a6, .ref a7, .ref a8, .ref a9, .ref a10, .int x1, .int x2, .int x3, .int x4, .int x5, o0, .int x6])), (a4, .inr (7, [.ref a2, .ref a3, .ref a35, .ref a36, .ref a37, .ref a38, .int x19, .int x20, .int x21, .int x22, .int x23]))] t.heap ∧ va_K (dC, dI) vwCl [] t ∧ va_D (va_A [(a0, .inr (12, [.ref a1, .int x0, .ref a2, .ref a3, .ref a4, .ref a5, .ref a6, .ref a7, .ref a8, .ref a9, .ref a10, .int x1, .int x2, .int x3, .int x4, .int x5, o0, .int x6])), (a4, .inr (7, [.ref a2, .ref a3, .ref a35, .ref a36, .ref a37, .ref a38, .int x19, .int x20, .int x21, .int x22, .int x23]))] sz) [(a0, .inr (12, [.ref a1, .int x0, .ref a2, .ref a3, .ref a4, .ref a5, .ref a6, .ref a7, .ref a8, .ref a9, .ref a10, .int x1, .int x2, .int x3, .int x4, .int x5, o0, .int x6])), (a4, .inr (7, [.ref a2, .ref a3, .ref a35, .ref a36, .ref a37, .ref a38, .int x19, .int x20, .int x21, .int x22, .int x23]))]) (va_A [(a0, .inr (12, [.ref a1, .int x0, .ref a2, .ref a3, .ref a4, .ref a5, .ref a6, .ref a7, .ref a8, .ref a9, .ref a10, .int x1, .int x2, .int x3, .int x4, .int x5, o0, .int x6])), (a4, .inr (7, [.ref a2, .ref a3, .ref a35, .ref a36, .ref a37, .ref a38, .int x19, .int x20, .int x21, .int x22, .int x23]))] sz)) 0 0 (va_A [(a0, .inr (12, [.ref a1, .int x0, .ref a2, .ref a3, .ref a4, .ref a5, .ref a6, .ref a7, .ref a8, .ref a9, .ref a10, .int x1, .int x2, .int x3, .int x4, .int x5, o0, .int x6])), (a4, .inr (7, [.ref a2, .ref a3, .ref a35, .ref a36, .ref a37, .ref a38, .int x19, .int x20, .int x21, .int x22, .int x23]))] sz) := by
  refine Met.ofW (cc := cX11_rules) (maxL := 1) (ret := (some .int)) (by decide) rfl ?_
  intro p e s m args below meth c s₁ B hml hv
  obtain ⟨rfl, hsz, hP, hK, hD0⟩ := hv
  have hx := B.exec
  have hb := B.bytes
  have hr := B.returns
  have hts := atoms_spec (ws := fw_e_X11_rules) B.pre
  have hown : s.vm.findClass RX11 = some m.cls := findClass_of_methodNamed B.named
  have hlocks := B.notSynchronized
  subst hsz
  have hD := hD0.self (sz := s.heap.size)
  generalize hAe : va_A [(a0, .inr (12, [.ref a1, .int x0, .ref a2, .ref a3, .ref a4, .ref a5, .ref a6, .ref a7, .ref a8, .ref a9, .ref a10, .int x1, .int x2, .int x3, .int x4, .int x5, o0, .int x6])), (a4, .inr (7, [.ref a2, .ref a3, .ref a35, .ref a36, .ref a37, .ref a38, .int x19, .int x20, .int x21, .int x22, .int x23]))] s.heap.size = A at hD ⊢
  have hA : ∀ q : Nat, s.heap.size ≤ q → A q := fun q h => by rw [← hAe]; exact Or.inr h
  obtain ⟨H, hH⟩ : ∃ z, z = s.heap := ⟨_, rfl⟩
  rw [← hH] at hP
  have hS : va_S A s.heap H [] := by rw [hH]; exact va_S.rf
  have hP : va_P (dC, dI) vwCl [(a0, .inr (12, [.ref a1, .int x0, .ref a2, .ref a3, .ref a4, .ref a5, .ref a6, .ref a7, .ref a8, .ref a9, .ref a10, .int x1, .int x2, .int x3, .int x4, .int x5, o0, .int x6])), (a4, .inr (7, [.ref a2, .ref a3, .ref a35, .ref a36, .ref a37, .ref a38, .int x19, .int x20, .int x21, .int x22, .int x23]))] H := hP
  have hl := lv_entry ([.ref a0]) (n := 1) (Nat.le_of_ble_eq_true rfl)
  rw [lg_entry_eq]
  generalize (lg_sl ([.ref a0]) ++ List.replicate (1 - (lg_sl ([.ref a0])).length) Slot.unset).toArray = ls at hl ⊢
  have hl : lv_has ls 1 [(0, .ref a0)] := hl
  rw [← hH]
  refine lv_aload_n hx hb dX11_rules_0 rfl (lv_at hl 0 rfl) ?_
  refine va_get (D := (dC, dI)) (ci := 12) (v := .ref a4) (C := RX11) (T := TX11) (N := 18) hx hb hts in_e_X11_rules_RX11 hown hK hP 0 rfl rfl 4 (by decide) (hts (.fieldLink RX11 35 "TripleStore" "rules" "LTripleStore$Rules;") (List.mem_of_getElem? (i := 1) rfl)) (fun _ h9 => h9) rfl dX11_rules_1 ?_
  refine va_get (D := (dC, dI)) (ci := 7) (v := .int x22) (C := RX6) (T := TX6) (N := 11) hx hb hts in_e_X11_rules_RX6 hown hK hP 1 rfl rfl 9 (by decide) (hts (.fieldLink RX11 200 "TripleStore$Rules" "size" "I") (List.mem_of_getElem? (i := 2) rfl)) (fun _ h9 => h9) rfl dX11_rules_4 ?_
  exact W.iret (v := x22) hx hb hr (fun t ht hW => ⟨⟨x22, (), rfl, rfl, by rw [ht]; exact hP, va_K.moved hW.alike hK, hD⟩, hS.F ht⟩) hS.2.2 dX11_rules_7
def fw_e_X20_wipe : List Cond := .code yX20_wipe cX20_wipe 2 (some .int) :: ([.fieldLink RX20 28 "TripleStoreModel" "lexer" "LTripleStoreModel$Lexer;"] ++ wsX200 ++ wsX140)
theorem in_e_X20_wipe_RX20 : ∀ w ∈ u_ws RX20 TX20 30, w ∈ fw_e_X20_wipe := fun _ h => List.mem_cons_of_mem _ (List.mem_append_left _ (List.mem_append_right _ h))
theorem in_e_X20_wipe_RX14 : ∀ w ∈ u_ws RX14 TX14 14, w ∈ fw_e_X20_wipe := fun _ h => List.mem_cons_of_mem _ (List.mem_append_right _ h)
theorem gd_e_X20_wipe : (fw_e_X20_wipe).all goodWord = true := by decide +kernel
set_option maxHeartbeats 4000000 in
set_option maxRecDepth 100000 in
theorem e_X20_wipe (l : Launch) (dC : Nat → ClassId) (dI : Nat → Nat → Nat) (a0 : Nat) (a1 : Nat) (a2 : Nat) (a3 : Nat) (a4 : Nat) (a5 : Nat) (a6 : Nat) (a7 : Nat) (a8 : Nat) (a9 : Nat) (a10 : Nat) (a11 : Nat) (a12 : Nat) (a13 : Nat) (a14 : Nat) (a15 : Nat) (a16 : Nat) (a17 : Nat) (a18 : Nat) (a19 : Nat) (a20 : Nat) (a31 : Nat) (x0 : Int32) (x1 : Int32) (x2 : Int32) (x3 : Int32) (x4 : Int32) (x5 : Int32) (x6 : Int32) (x7 : Int32) (x8 : Int32) (x9 : Int32) (x22 : Int32) (x23 : Int32) (x24 : Int32) (x25 : Int32) (x26 : Int32) (x27 : Int32) (x28 : Int32) (x29 : Int32) (x30 : Int32) (y1 : Int64) (x31 : Int32) (x32 : Int32) (sz : Nat) : Met l yX20_wipe fw_e_X20_wipe ({ frames := 1, cells := 0, slots := 0, locals := 20 }) (va_Pc [.ref a0] (fun U => U.heap.size = sz ∧ va_P (dC, dI) vwCl [(a0, .inr (21, [.ref a1, .ref a2, .ref a3, .ref a4, .ref a5, .ref a6, .ref a7, .ref a8, .int x0, .ref a9, .int x1, .int x2, .ref a10, .ref a11, .int x3, .ref a12, .int x4, .ref a13, .ref a14, .ref a15, .int x5, .ref a16, .ref a17, .int x6, .int x7, .ref a18, .int x8, .ref a19, .ref a20, .int x9])), (a3, .inr (15, [.ref a1, .ref a31, .int x22, .int x23, .int x24, .int x25, .int x26, .int x27, .int x28, .int x29, .int x30, .long y1, .int x31, .int x32]))] U.heap ∧ va_K (dC, dI) vwCl [] U ∧ va_D (fun _ => True) [(a0, .inr (21, [.ref a1, .ref a2, .ref a3, .ref a4, .ref a5, .ref a6, .ref a7, .ref a8, .int x0, .ref a9, .int x1, .int x2, .ref a10, .ref a11, .int x3, .ref a12, .int x4, .ref a13, .ref a14, .ref a15, .int x5, .ref a16, .ref a17, .int x6, .int x7, .ref a18, .int x8, .ref a19, .ref a20, .int x9])), (a3, .inr (15, [.ref a1, .ref a31, .int x22, .int x23, .int x24, .int x25, .int x26, .int x27, .int x28, .int x29, .int x30, .long y1, .int x31, .int x32]))] ∧ va_Nw (.fieldLinkNest RX20 112 "TripleStoreModel$Lexer" "size" "I" "TripleStoreModel") U)) (va_Qi (fun (r : Int32) (_ : Unit) => r = x22) (fun _ t => va_P (dC, dI) vwCl [(a0, .inr (21, [.ref a1, .ref a2, .ref a3, .ref a4, .ref a5, .ref a6, .ref a7, .ref a8, .int x0, .ref a9, .int x1, .int x2, .ref a10, .ref a11, .int x3, .ref a12, .int x4, .ref a13, .ref a14, .ref a15, .int x5, .ref a16, .ref a17, .int x6, .int x7, .ref a18, .int x8, .ref a19, .ref a20, .int x9])), (a3, .inr (15, [.ref a1, .ref a31, .int 0, .int x23, .int x24, .int x25, .int x26, .int x27, .int x28, .int x29, .int x30, .long y1, .int x31, .int x32]))] t.heap ∧ va_K (dC, dI) vwCl [] t ∧ va_D (va_A [(a0, .inr (21, [.ref a1, .ref a2, .ref a3, .ref a4, .ref a5, .ref a6, .ref a7, .ref a8, .int x0, .ref a9, .int x1, .int x2, .ref a10, .ref a11, .int x3, .ref a12, .int x4, .ref a13, .ref a14, .ref a15, .int x5, .ref a16, .ref a17, .int x6, .int x7, .ref a18, .int x8, .ref a19, .ref a20, .int x9])), (a3, .inr (15, [.ref a1, .ref a31, .int x22, .int x23, .int x24, .int x25, .int x26, .int x27, .int x28, .int x29, .int x30, .long y1, .int x31, .int x32]))] sz) [(a0, .inr (21, [.ref a1, .ref a2, .ref a3, .ref a4, .ref a5, .ref a6, .ref a7, .ref a8, .int x0, .ref a9, .int x1, .int x2, .ref a10, .ref a11, .int x3, .ref a12, .int x4, .ref a13, .ref a14, .ref a15, .int x5, .ref a16, .ref a17, .int x6, .int x7, .ref a18, .int x8, .ref a19, .ref a20, .int x9])), (a3, .inr (15, [.ref a1, .ref a31, .int 0, .int x23, .int x24, .int x25, .int x26, .int x27, .int x28, .int x29, .int x30, .long y1, .int x31, .int x32]))]) (va_A [(a0, .inr (21, [.ref a1, .ref a2, .ref a3, .ref a4, .ref a5, .ref a6, .ref a7, .ref a8, .int x0, .ref a9, .int x1, .int x2, .ref a10, .ref a11, .int x3, .ref a12, .int x4, .ref a13, .ref a14, .ref a15, .int x5, .ref a16, .ref a17, .int x6, .int x7, .ref a18, .int x8, .ref a19, .ref a20, .int x9])), (a3, .inr (15, [.ref a1, .ref a31, .int x22, .int x23, .int x24, .int x25, .int x26, .int x27, .int x28, .int x29, .int x30, .long y1, .int x31, .int x32]))] sz)) 0 0 (va_A [(a0, .inr (21, [.ref a1, .ref a2, .ref a3, .ref a4, .ref a5, .ref a6, .ref a7, .ref a8, .int x0, .ref a9, .int x1, .int x2, .ref a10, .ref a11, .int x3, .ref a12, .int x4, .ref a13, .ref a14, .ref a15, .int x5, .ref a16, .ref a17, .int x6, .int x7, .ref a18, .int x8, .ref a19, .ref a20, .int x9])), (a3, .inr (15, [.ref a1, .ref a31, .int x22, .int x23, .int x24, .int x25, .int x26, .int x27, .int x28, .int x29, .int x30, .long y1, .int x31, .int x32]))] sz) := by
  refine Met.ofW (cc := cX20_wipe) (maxL := 2) (ret := (some .int)) (by decide) rfl ?_
  intro p e s m args below meth c s₁ B hml hv
  obtain ⟨rfl, hsz, hP, hK, hD0, hZ0⟩ := hv
  have hx := B.exec
  have hb := B.bytes
  have hr := B.returns
  have hts := atoms_spec (ws := fw_e_X20_wipe) B.pre
  have hown : s.vm.findClass RX20 = some m.cls := findClass_of_methodNamed B.named
  have hlocks := B.notSynchronized
  subst hsz
  have hD := hD0.self (sz := s.heap.size)
  generalize hAe : va_A [(a0, .inr (21, [.ref a1, .ref a2, .ref a3, .ref a4, .ref a5, .ref a6, .ref a7, .ref a8, .int x0, .ref a9, .int x1, .int x2, .ref a10, .ref a11, .int x3, .ref a12, .int x4, .ref a13, .ref a14, .ref a15, .int x5, .ref a16, .ref a17, .int x6, .int x7, .ref a18, .int x8, .ref a19, .ref a20, .int x9])), (a3, .inr (15, [.ref a1, .ref a31, .int x22, .int x23, .int x24, .int x25, .int x26, .int x27, .int x28, .int x29, .int x30, .long y1, .int x31, .int x32]))] s.heap.size = A at hD ⊢
  have hA : ∀ q : Nat, s.heap.size ≤ q → A q := fun q h => by rw [← hAe]; exact Or.inr h
  obtain ⟨H, hH⟩ : ∃ z, z = s.heap := ⟨_, rfl⟩
  rw [← hH] at hP
  have hS : va_S A s.heap H [] := by rw [hH]; exact va_S.rf
  have hP : va_P (dC, dI) vwCl [(a0, .inr (21, [.ref a1, .ref a2, .ref a3, .ref a4, .ref a5, .ref a6, .ref a7, .ref a8, .int x0, .ref a9, .int x1, .int x2, .ref a10, .ref a11, .int x3, .ref a12, .int x4, .ref a13, .ref a14, .ref a15, .int x5, .ref a16, .ref a17, .int x6, .int x7, .ref a18, .int x8, .ref a19, .ref a20, .int x9])), (a3, .inr (15, [.ref a1, .ref a31, .int x22, .int x23, .int x24, .int x25, .int x26, .int x27, .int x28, .int x29, .int x30, .long y1, .int x31, .int x32]))] H := hP
  have hl := lv_entry ([.ref a0]) (n := 2) (Nat.le_of_ble_eq_true rfl)
  rw [lg_entry_eq]
  generalize (lg_sl ([.ref a0]) ++ List.replicate (2 - (lg_sl ([.ref a0])).length) Slot.unset).toArray = ls at hl ⊢
  have hl : lv_has ls 2 [(0, .ref a0)] := hl
  rw [← hH]
  refine lv_aload_n hx hb dX20_wipe_0 rfl (lv_at hl 0 rfl) ?_
  refine va_get (D := (dC, dI)) (ci := 21) (v := .ref a3) (C := RX20) (T := TX20) (N := 30) hx hb hts in_e_X20_wipe_RX20 hown hK hP 0 rfl rfl 2 (by decide) (hts (.fieldLink RX20 28 "TripleStoreModel" "lexer" "LTripleStoreModel$Lexer;") (List.mem_of_getElem? (i := 1) rfl)) (fun _ h9 => h9) rfl dX20_wipe_1 ?_
  refine va_getN (D := (dC, dI)) (ci := 15) (v := .int x22) (C := RX14) (T := TX14) (N := 14) hx hb hts in_e_X20_wipe_RX14 hown hK hP 1 rfl rfl 2 (by decide) (va_Nw.use rfl hZ0) (fun _ h9 => h9) rfl dX20_wipe_4 ?_
  refine lv_istore_n (lv' := [(1, .int x22), (0, .ref a0)]) hx hb dX20_wipe_7 rfl hl (by decide) rfl (fun ls hl => ?_)
  refine lv_aload_n hx hb dX20_wipe_8 rfl (lv_at hl 1 rfl) ?_
  refine va_get (D := (dC, dI)) (ci := 21) (v := .ref a3) (C := RX20) (T := TX20) (N := 30) hx hb hts in_e_X20_wipe_RX20 hown hK hP 0 rfl rfl 2 (by decide) (hts (.fieldLink RX20 28 "TripleStoreModel" "lexer" "LTripleStoreModel$Lexer;") (List.mem_of_getElem? (i := 1) rfl)) (fun _ h9 => h9) rfl dX20_wipe_9 ?_
  refine lv_iconst (v := 0) hx hb dX20_wipe_12 (by decide) ?_
  refine va_putN (D := (dC, dI)) (ci := 15) (v := .int 0) (ty := .int) (C := RX14) (T := TX14) (N := 14) hx hb hts in_e_X20_wipe_RX14 tyX14 tyX14_ok nmX14 hown hK hP hD hS 1 rfl rfl 2 (by decide) (va_Nw.use rfl hZ0) (fun _ h9 => h9) rfl (by decide +kernel) rfl rfl (Nat.le_of_ble_eq_true rfl) dX20_wipe_13 (fun H locs hP hD hS => ?_)
  have hP : va_P (dC, dI) vwCl [(a0, .inr (21, [.ref a1, .ref a2, .ref a3, .ref a4, .ref a5, .ref a6, .ref a7, .ref a8, .int x0, .ref a9, .int x1, .int x2, .ref a10, .ref a11, .int x3, .ref a12, .int x4, .ref a13, .ref a14, .ref a15, .int x5, .ref a16, .ref a17, .int x6, .int x7, .ref a18, .int x8, .ref a19, .ref a20, .int x9])), (a3, .inr (15, [.ref a1, .ref a31, .int 0, .int x23, .int x24, .int x25, .int x26, .int x27, .int x28, .int x29, .int x30, .long y1, .int x31, .int x32]))] H := hP
  have hD : va_D A [(a0, .inr (21, [.ref a1, .ref a2, .ref a3, .ref a4, .ref a5, .ref a6, .ref a7, .ref a8, .int x0, .ref a9, .int x1, .int x2, .ref a10, .ref a11, .int x3, .ref a12, .int x4, .ref a13, .ref a14, .ref a15, .int x5, .ref a16, .ref a17, .int x6, .int x7, .ref a18, .int x8, .ref a19, .ref a20, .int x9])), (a3, .inr (15, [.ref a1, .ref a31, .int 0, .int x23, .int x24, .int x25, .int x26, .int x27, .int x28, .int x29, .int x30, .long y1, .int x31, .int x32]))] := hD
  refine lv_iload_n hx hb dX20_wipe_16 rfl (lv_at hl 0 rfl) ?_
  exact W.iret (v := x22) hx hb hr (fun t ht hW => ⟨⟨x22, (), rfl, rfl, by rw [ht]; exact hP, va_K.moved hW.alike hK, hD⟩, hS.F ht⟩) hS.2.2 dX20_wipe_17
def fw_e_X20_place : List Cond := .code yX20_place cX20_place 1 (some .int) :: ([.fieldLink RX20 119 "TripleStoreModel" "place" "I"] ++ wsX200)
theorem in_e_X20_place_RX20 : ∀ w ∈ u_ws RX20 TX20 30, w ∈ fw_e_X20_place := fun _ h => List.mem_cons_of_mem _ (List.mem_append_right _ h)
theorem gd_e_X20_place : (fw_e_X20_place).all goodWord = true := by decide +kernel
set_option maxHeartbeats 4000000 in
set_option maxRecDepth 100000 in
theorem e_X20_place (l : Launch) (dC : Nat → ClassId) (dI : Nat → Nat → Nat) (a0 : Nat) (a1 : Nat) (a2 : Nat) (a3 : Nat) (a4 : Nat) (a5 : Nat) (a6 : Nat) (a7 : Nat) (a8 : Nat) (a9 : Nat) (a10 : Nat) (a11 : Nat) (a12 : Nat) (a13 : Nat) (a14 : Nat) (a15 : Nat) (a16 : Nat) (a17 : Nat) (a18 : Nat) (a19 : Nat) (a20 : Nat) (x0 : Int32) (x1 : Int32) (x2 : Int32) (x3 : Int32) (x4 : Int32) (x5 : Int32) (x6 : Int32) (x7 : Int32) (x8 : Int32) (x9 : Int32) (sz : Nat) : Met l yX20_place fw_e_X20_place ({ frames := 1, cells := 0, slots := 0, locals := 20 }) (va_Pc [.ref a0] (fun U => U.heap.size = sz ∧ va_P (dC, dI) vwCl [(a0, .inr (21, [.ref a1, .ref a2, .ref a3, .ref a4, .ref a5, .ref a6, .ref a7, .ref a8, .int x0, .ref a9, .int x1, .int x2, .ref a10, .ref a11, .int x3, .ref a12, .int x4, .ref a13, .ref a14, .ref a15, .int x5, .ref a16, .ref a17, .int x6, .int x7, .ref a18, .int x8, .ref a19, .ref a20, .int x9]))] U.heap ∧ va_K (dC, dI) vwCl [] U ∧ va_D (fun _ => True) [(a0, .inr (21, [.ref a1, .ref a2, .ref a3, .ref a4, .ref a5, .ref a6, .ref a7, .ref a8, .int x0, .ref a9, .int x1, .int x2, .ref a10, .ref a11, .int x3, .ref a12, .int x4, .ref a13, .ref a14, .ref a15, .int x5, .ref a16, .ref a17, .int x6, .int x7, .ref a18, .int x8, .ref a19, .ref a20, .int x9]))])) (va_Qi (fun (r : Int32) (_ : Unit) => r = x0) (fun _ t => va_P (dC, dI) vwCl [(a0, .inr (21, [.ref a1, .ref a2, .ref a3, .ref a4, .ref a5, .ref a6, .ref a7, .ref a8, .int x0, .ref a9, .int x1, .int x2, .ref a10, .ref a11, .int x3, .ref a12, .int x4, .ref a13, .ref a14, .ref a15, .int x5, .ref a16, .ref a17, .int x6, .int x7, .ref a18, .int x8, .ref a19, .ref a20, .int x9]))] t.heap ∧ va_K (dC, dI) vwCl [] t ∧ va_D (va_A [(a0, .inr (21, [.ref a1, .ref a2, .ref a3, .ref a4, .ref a5, .ref a6, .ref a7, .ref a8, .int x0, .ref a9, .int x1, .int x2, .ref a10, .ref a11, .int x3, .ref a12, .int x4, .ref a13, .ref a14, .ref a15, .int x5, .ref a16, .ref a17, .int x6, .int x7, .ref a18, .int x8, .ref a19, .ref a20, .int x9]))] sz) [(a0, .inr (21, [.ref a1, .ref a2, .ref a3, .ref a4, .ref a5, .ref a6, .ref a7, .ref a8, .int x0, .ref a9, .int x1, .int x2, .ref a10, .ref a11, .int x3, .ref a12, .int x4, .ref a13, .ref a14, .ref a15, .int x5, .ref a16, .ref a17, .int x6, .int x7, .ref a18, .int x8, .ref a19, .ref a20, .int x9]))]) (va_A [(a0, .inr (21, [.ref a1, .ref a2, .ref a3, .ref a4, .ref a5, .ref a6, .ref a7, .ref a8, .int x0, .ref a9, .int x1, .int x2, .ref a10, .ref a11, .int x3, .ref a12, .int x4, .ref a13, .ref a14, .ref a15, .int x5, .ref a16, .ref a17, .int x6, .int x7, .ref a18, .int x8, .ref a19, .ref a20, .int x9]))] sz)) 0 0 (va_A [(a0, .inr (21, [.ref a1, .ref a2, .ref a3, .ref a4, .ref a5, .ref a6, .ref a7, .ref a8, .int x0, .ref a9, .int x1, .int x2, .ref a10, .ref a11, .int x3, .ref a12, .int x4, .ref a13, .ref a14, .ref a15, .int x5, .ref a16, .ref a17, .int x6, .int x7, .ref a18, .int x8, .ref a19, .ref a20, .int x9]))] sz) := by
  refine Met.ofW (cc := cX20_place) (maxL := 1) (ret := (some .int)) (by decide) rfl ?_
  intro p e s m args below meth c s₁ B hml hv
  obtain ⟨rfl, hsz, hP, hK, hD0⟩ := hv
  have hx := B.exec
  have hb := B.bytes
  have hr := B.returns
  have hts := atoms_spec (ws := fw_e_X20_place) B.pre
  have hown : s.vm.findClass RX20 = some m.cls := findClass_of_methodNamed B.named
  have hlocks := B.notSynchronized
  subst hsz
  have hD := hD0.self (sz := s.heap.size)
  generalize hAe : va_A [(a0, .inr (21, [.ref a1, .ref a2, .ref a3, .ref a4, .ref a5, .ref a6, .ref a7, .ref a8, .int x0, .ref a9, .int x1, .int x2, .ref a10, .ref a11, .int x3, .ref a12, .int x4, .ref a13, .ref a14, .ref a15, .int x5, .ref a16, .ref a17, .int x6, .int x7, .ref a18, .int x8, .ref a19, .ref a20, .int x9]))] s.heap.size = A at hD ⊢
  have hA : ∀ q : Nat, s.heap.size ≤ q → A q := fun q h => by rw [← hAe]; exact Or.inr h
  obtain ⟨H, hH⟩ : ∃ z, z = s.heap := ⟨_, rfl⟩
  rw [← hH] at hP
  have hS : va_S A s.heap H [] := by rw [hH]; exact va_S.rf
  have hP : va_P (dC, dI) vwCl [(a0, .inr (21, [.ref a1, .ref a2, .ref a3, .ref a4, .ref a5, .ref a6, .ref a7, .ref a8, .int x0, .ref a9, .int x1, .int x2, .ref a10, .ref a11, .int x3, .ref a12, .int x4, .ref a13, .ref a14, .ref a15, .int x5, .ref a16, .ref a17, .int x6, .int x7, .ref a18, .int x8, .ref a19, .ref a20, .int x9]))] H := hP
  have hl := lv_entry ([.ref a0]) (n := 1) (Nat.le_of_ble_eq_true rfl)
  rw [lg_entry_eq]
  generalize (lg_sl ([.ref a0]) ++ List.replicate (1 - (lg_sl ([.ref a0])).length) Slot.unset).toArray = ls at hl ⊢
  have hl : lv_has ls 1 [(0, .ref a0)] := hl
  rw [← hH]
  refine lv_aload_n hx hb dX20_place_0 rfl (lv_at hl 0 rfl) ?_
  refine va_get (D := (dC, dI)) (ci := 21) (v := .int x0) (C := RX20) (T := TX20) (N := 30) hx hb hts in_e_X20_place_RX20 hown hK hP 0 rfl rfl 8 (by decide) (hts (.fieldLink RX20 119 "TripleStoreModel" "place" "I") (List.mem_of_getElem? (i := 1) rfl)) (fun _ h9 => h9) rfl dX20_place_1 ?_
  exact W.iret (v := x0) hx hb hr (fun t ht hW => ⟨⟨x0, (), rfl, rfl, by rw [ht]; exact hP, va_K.moved hW.alike hK, hD⟩, hS.F ht⟩) hS.2.2 dX20_place_4
def fw_e_X20_rows : List Cond := .code yX20_rows cX20_rows 1 (some .int) :: ([.fieldLink RX20 122 "TripleStoreModel" "rows" "I"] ++ wsX200)
theorem in_e_X20_rows_RX20 : ∀ w ∈ u_ws RX20 TX20 30, w ∈ fw_e_X20_rows := fun _ h => List.mem_cons_of_mem _ (List.mem_append_right _ h)
theorem gd_e_X20_rows : (fw_e_X20_rows).all goodWord = true := by decide +kernel
set_option maxHeartbeats 4000000 in
set_option maxRecDepth 100000 in
theorem e_X20_rows (l : Launch) (dC : Nat → ClassId) (dI : Nat → Nat → Nat) (a0 : Nat) (a1 : Nat) (a2 : Nat) (a3 : Nat) (a4 : Nat) (a5 : Nat) (a6 : Nat) (a7 : Nat) (a8 : Nat) (a9 : Nat) (a10 : Nat) (a11 : Nat) (a12 : Nat) (a13 : Nat) (a14 : Nat) (a15 : Nat) (a16 : Nat) (a17 : Nat) (a18 : Nat) (a19 : Nat) (a20 : Nat) (x0 : Int32) (x1 : Int32) (x2 : Int32) (x3 : Int32) (x4 : Int32) (x5 : Int32) (x6 : Int32) (x7 : Int32) (x8 : Int32) (x9 : Int32) (sz : Nat) : Met l yX20_rows fw_e_X20_rows ({ frames := 1, cells := 0, slots := 0, locals := 20 }) (va_Pc [.ref a0] (fun U => U.heap.size = sz ∧ va_P (dC, dI) vwCl [(a0, .inr (21, [.ref a1, .ref a2, .ref a3, .ref a4, .ref a5, .ref a6, .ref a7, .ref a8, .int x0, .ref a9, .int x1, .int x2, .ref a10, .ref a11, .int x3, .ref a12, .int x4, .ref a13, .ref a14, .ref a15, .int x5, .ref a16, .ref a17, .int x6, .int x7, .ref a18, .int x8, .ref a19, .ref a20, .int x9]))] U.heap ∧ va_K (dC, dI) vwCl [] U ∧ va_D (fun _ => True) [(a0, .inr (21, [.ref a1, .ref a2, .ref a3, .ref a4, .ref a5, .ref a6, .ref a7, .ref a8, .int x0, .ref a9, .int x1, .int x2, .ref a10, .ref a11, .int x3, .ref a12, .int x4, .ref a13, .ref a14, .ref a15, .int x5, .ref a16, .ref a17, .int x6, .int x7, .ref a18, .int x8, .ref a19, .ref a20, .int x9]))])) (va_Qi (fun (r : Int32) (_ : Unit) => r = x1) (fun _ t => va_P (dC, dI) vwCl [(a0, .inr (21, [.ref a1, .ref a2, .ref a3, .ref a4, .ref a5, .ref a6, .ref a7, .ref a8, .int x0, .ref a9, .int x1, .int x2, .ref a10, .ref a11, .int x3, .ref a12, .int x4, .ref a13, .ref a14, .ref a15, .int x5, .ref a16, .ref a17, .int x6, .int x7, .ref a18, .int x8, .ref a19, .ref a20, .int x9]))] t.heap ∧ va_K (dC, dI) vwCl [] t ∧ va_D (va_A [(a0, .inr (21, [.ref a1, .ref a2, .ref a3, .ref a4, .ref a5, .ref a6, .ref a7, .ref a8, .int x0, .ref a9, .int x1, .int x2, .ref a10, .ref a11, .int x3, .ref a12, .int x4, .ref a13, .ref a14, .ref a15, .int x5, .ref a16, .ref a17, .int x6, .int x7, .ref a18, .int x8, .ref a19, .ref a20, .int x9]))] sz) [(a0, .inr (21, [.ref a1, .ref a2, .ref a3, .ref a4, .ref a5, .ref a6, .ref a7, .ref a8, .int x0, .ref a9, .int x1, .int x2, .ref a10, .ref a11, .int x3, .ref a12, .int x4, .ref a13, .ref a14, .ref a15, .int x5, .ref a16, .ref a17, .int x6, .int x7, .ref a18, .int x8, .ref a19, .ref a20, .int x9]))]) (va_A [(a0, .inr (21, [.ref a1, .ref a2, .ref a3, .ref a4, .ref a5, .ref a6, .ref a7, .ref a8, .int x0, .ref a9, .int x1, .int x2, .ref a10, .ref a11, .int x3, .ref a12, .int x4, .ref a13, .ref a14, .ref a15, .int x5, .ref a16, .ref a17, .int x6, .int x7, .ref a18, .int x8, .ref a19, .ref a20, .int x9]))] sz)) 0 0 (va_A [(a0, .inr (21, [.ref a1, .ref a2, .ref a3, .ref a4, .ref a5, .ref a6, .ref a7, .ref a8, .int x0, .ref a9, .int x1, .int x2, .ref a10, .ref a11, .int x3, .ref a12, .int x4, .ref a13, .ref a14, .ref a15, .int x5, .ref a16, .ref a17, .int x6, .int x7, .ref a18, .int x8, .ref a19, .ref a20, .int x9]))] sz) := by
  refine Met.ofW (cc := cX20_rows) (maxL := 1) (ret := (some .int)) (by decide) rfl ?_
  intro p e s m args below meth c s₁ B hml hv
  obtain ⟨rfl, hsz, hP, hK, hD0⟩ := hv
  have hx := B.exec
  have hb := B.bytes
  have hr := B.returns
  have hts := atoms_spec (ws := fw_e_X20_rows) B.pre
  have hown : s.vm.findClass RX20 = some m.cls := findClass_of_methodNamed B.named
  have hlocks := B.notSynchronized
  subst hsz
  have hD := hD0.self (sz := s.heap.size)
  generalize hAe : va_A [(a0, .inr (21, [.ref a1, .ref a2, .ref a3, .ref a4, .ref a5, .ref a6, .ref a7, .ref a8, .int x0, .ref a9, .int x1, .int x2, .ref a10, .ref a11, .int x3, .ref a12, .int x4, .ref a13, .ref a14, .ref a15, .int x5, .ref a16, .ref a17, .int x6, .int x7, .ref a18, .int x8, .ref a19, .ref a20, .int x9]))] s.heap.size = A at hD ⊢
  have hA : ∀ q : Nat, s.heap.size ≤ q → A q := fun q h => by rw [← hAe]; exact Or.inr h
  obtain ⟨H, hH⟩ : ∃ z, z = s.heap := ⟨_, rfl⟩
  rw [← hH] at hP
  have hS : va_S A s.heap H [] := by rw [hH]; exact va_S.rf
  have hP : va_P (dC, dI) vwCl [(a0, .inr (21, [.ref a1, .ref a2, .ref a3, .ref a4, .ref a5, .ref a6, .ref a7, .ref a8, .int x0, .ref a9, .int x1, .int x2, .ref a10, .ref a11, .int x3, .ref a12, .int x4, .ref a13, .ref a14, .ref a15, .int x5, .ref a16, .ref a17, .int x6, .int x7, .ref a18, .int x8, .ref a19, .ref a20, .int x9]))] H := hP
  have hl := lv_entry ([.ref a0]) (n := 1) (Nat.le_of_ble_eq_true rfl)
  rw [lg_entry_eq]
  generalize (lg_sl ([.ref a0]) ++ List.replicate (1 - (lg_sl ([.ref a0])).length) Slot.unset).toArray = ls at hl ⊢
  have hl : lv_has ls 1 [(0, .ref a0)] := hl
  rw [← hH]
  refine lv_aload_n hx hb dX20_rows_0 rfl (lv_at hl 0 rfl) ?_
  refine va_get (D := (dC, dI)) (ci := 21) (v := .int x1) (C := RX20) (T := TX20) (N := 30) hx hb hts in_e_X20_rows_RX20 hown hK hP 0 rfl rfl 10 (by decide) (hts (.fieldLink RX20 122 "TripleStoreModel" "rows" "I") (List.mem_of_getElem? (i := 1) rfl)) (fun _ h9 => h9) rfl dX20_rows_1 ?_
  exact W.iret (v := x1) hx hb hr (fun t ht hW => ⟨⟨x1, (), rfl, rfl, by rw [ht]; exact hP, va_K.moved hW.alike hK, hD⟩, hS.F ht⟩) hS.2.2 dX20_rows_4
def fw_e_X20_columns : List Cond := .code yX20_columns cX20_columns 1 (some .int) :: ([.fieldLink RX20 125 "TripleStoreModel" "columns" "I"] ++ wsX200)
theorem in_e_X20_columns_RX20 : ∀ w ∈ u_ws RX20 TX20 30, w ∈ fw_e_X20_columns := fun _ h => List.mem_cons_of_mem _ (List.mem_append_right _ h)
theorem gd_e_X20_columns : (fw_e_X20_columns).all goodWord = true := by decide +kernel
set_option maxHeartbeats 4000000 in
set_option maxRecDepth 100000 in
theorem e_X20_columns (l : Launch) (dC : Nat → ClassId) (dI : Nat → Nat → Nat) (a0 : Nat) (a1 : Nat) (a2 : Nat) (a3 : Nat) (a4 : Nat) (a5 : Nat) (a6 : Nat) (a7 : Nat) (a8 : Nat) (a9 : Nat) (a10 : Nat) (a11 : Nat) (a12 : Nat) (a13 : Nat) (a14 : Nat) (a15 : Nat) (a16 : Nat) (a17 : Nat) (a18 : Nat) (a19 : Nat) (a20 : Nat) (x0 : Int32) (x1 : Int32) (x2 : Int32) (x3 : Int32) (x4 : Int32) (x5 : Int32) (x6 : Int32) (x7 : Int32) (x8 : Int32) (x9 : Int32) (sz : Nat) : Met l yX20_columns fw_e_X20_columns ({ frames := 1, cells := 0, slots := 0, locals := 20 }) (va_Pc [.ref a0] (fun U => U.heap.size = sz ∧ va_P (dC, dI) vwCl [(a0, .inr (21, [.ref a1, .ref a2, .ref a3, .ref a4, .ref a5, .ref a6, .ref a7, .ref a8, .int x0, .ref a9, .int x1, .int x2, .ref a10, .ref a11, .int x3, .ref a12, .int x4, .ref a13, .ref a14, .ref a15, .int x5, .ref a16, .ref a17, .int x6, .int x7, .ref a18, .int x8, .ref a19, .ref a20, .int x9]))] U.heap ∧ va_K (dC, dI) vwCl [] U ∧ va_D (fun _ => True) [(a0, .inr (21, [.ref a1, .ref a2, .ref a3, .ref a4, .ref a5, .ref a6, .ref a7, .ref a8, .int x0, .ref a9, .int x1, .int x2, .ref a10, .ref a11, .int x3, .ref a12, .int x4, .ref a13, .ref a14, .ref a15, .int x5, .ref a16, .ref a17, .int x6, .int x7, .ref a18, .int x8, .ref a19, .ref a20, .int x9]))])) (va_Qi (fun (r : Int32) (_ : Unit) => r = x2) (fun _ t => va_P (dC, dI) vwCl [(a0, .inr (21, [.ref a1, .ref a2, .ref a3, .ref a4, .ref a5, .ref a6, .ref a7, .ref a8, .int x0, .ref a9, .int x1, .int x2, .ref a10, .ref a11, .int x3, .ref a12, .int x4, .ref a13, .ref a14, .ref a15, .int x5, .ref a16, .ref a17, .int x6, .int x7, .ref a18, .int x8, .ref a19, .ref a20, .int x9]))] t.heap ∧ va_K (dC, dI) vwCl [] t ∧ va_D (va_A [(a0, .inr (21, [.ref a1, .ref a2, .ref a3, .ref a4, .ref a5, .ref a6, .ref a7, .ref a8, .int x0, .ref a9, .int x1, .int x2, .ref a10, .ref a11, .int x3, .ref a12, .int x4, .ref a13, .ref a14, .ref a15, .int x5, .ref a16, .ref a17, .int x6, .int x7, .ref a18, .int x8, .ref a19, .ref a20, .int x9]))] sz) [(a0, .inr (21, [.ref a1, .ref a2, .ref a3, .ref a4, .ref a5, .ref a6, .ref a7, .ref a8, .int x0, .ref a9, .int x1, .int x2, .ref a10, .ref a11, .int x3, .ref a12, .int x4, .ref a13, .ref a14, .ref a15, .int x5, .ref a16, .ref a17, .int x6, .int x7, .ref a18, .int x8, .ref a19, .ref a20, .int x9]))]) (va_A [(a0, .inr (21, [.ref a1, .ref a2, .ref a3, .ref a4, .ref a5, .ref a6, .ref a7, .ref a8, .int x0, .ref a9, .int x1, .int x2, .ref a10, .ref a11, .int x3, .ref a12, .int x4, .ref a13, .ref a14, .ref a15, .int x5, .ref a16, .ref a17, .int x6, .int x7, .ref a18, .int x8, .ref a19, .ref a20, .int x9]))] sz)) 0 0 (va_A [(a0, .inr (21, [.ref a1, .ref a2, .ref a3, .ref a4, .ref a5, .ref a6, .ref a7, .ref a8, .int x0, .ref a9, .int x1, .int x2, .ref a10, .ref a11, .int x3, .ref a12, .int x4, .ref a13, .ref a14, .ref a15, .int x5, .ref a16, .ref a17, .int x6, .int x7, .ref a18, .int x8, .ref a19, .ref a20, .int x9]))] sz) := by
  refine Met.ofW (cc := cX20_columns) (maxL := 1) (ret := (some .int)) (by decide) rfl ?_
  intro p e s m args below meth c s₁ B hml hv
  obtain ⟨rfl, hsz, hP, hK, hD0⟩ := hv
  have hx := B.exec
  have hb := B.bytes
  have hr := B.returns
  have hts := atoms_spec (ws := fw_e_X20_columns) B.pre
  have hown : s.vm.findClass RX20 = some m.cls := findClass_of_methodNamed B.named
  have hlocks := B.notSynchronized
  subst hsz
  have hD := hD0.self (sz := s.heap.size)
  generalize hAe : va_A [(a0, .inr (21, [.ref a1, .ref a2, .ref a3, .ref a4, .ref a5, .ref a6, .ref a7, .ref a8, .int x0, .ref a9, .int x1, .int x2, .ref a10, .ref a11, .int x3, .ref a12, .int x4, .ref a13, .ref a14, .ref a15, .int x5, .ref a16, .ref a17, .int x6, .int x7, .ref a18, .int x8, .ref a19, .ref a20, .int x9]))] s.heap.size = A at hD ⊢
  have hA : ∀ q : Nat, s.heap.size ≤ q → A q := fun q h => by rw [← hAe]; exact Or.inr h
  obtain ⟨H, hH⟩ : ∃ z, z = s.heap := ⟨_, rfl⟩
  rw [← hH] at hP
  have hS : va_S A s.heap H [] := by rw [hH]; exact va_S.rf
  have hP : va_P (dC, dI) vwCl [(a0, .inr (21, [.ref a1, .ref a2, .ref a3, .ref a4, .ref a5, .ref a6, .ref a7, .ref a8, .int x0, .ref a9, .int x1, .int x2, .ref a10, .ref a11, .int x3, .ref a12, .int x4, .ref a13, .ref a14, .ref a15, .int x5, .ref a16, .ref a17, .int x6, .int x7, .ref a18, .int x8, .ref a19, .ref a20, .int x9]))] H := hP
  have hl := lv_entry ([.ref a0]) (n := 1) (Nat.le_of_ble_eq_true rfl)
  rw [lg_entry_eq]
  generalize (lg_sl ([.ref a0]) ++ List.replicate (1 - (lg_sl ([.ref a0])).length) Slot.unset).toArray = ls at hl ⊢
  have hl : lv_has ls 1 [(0, .ref a0)] := hl
  rw [← hH]
  refine lv_aload_n hx hb dX20_columns_0 rfl (lv_at hl 0 rfl) ?_
  refine va_get (D := (dC, dI)) (ci := 21) (v := .int x2) (C := RX20) (T := TX20) (N := 30) hx hb hts in_e_X20_columns_RX20 hown hK hP 0 rfl rfl 11 (by decide) (hts (.fieldLink RX20 125 "TripleStoreModel" "columns" "I") (List.mem_of_getElem? (i := 1) rfl)) (fun _ h9 => h9) rfl dX20_columns_1 ?_
  exact W.iret (v := x2) hx hb hr (fun t ht hW => ⟨⟨x2, (), rfl, rfl, by rw [ht]; exact hP, va_K.moved hW.alike hK, hD⟩, hS.F ht⟩) hS.2.2 dX20_columns_4
def fw_e_X20_made : List Cond := .code yX20_made cX20_made 1 (some .int) :: ([.fieldLink RX20 128 "TripleStoreModel" "shownMade" "I"] ++ wsX200)
theorem in_e_X20_made_RX20 : ∀ w ∈ u_ws RX20 TX20 30, w ∈ fw_e_X20_made := fun _ h => List.mem_cons_of_mem _ (List.mem_append_right _ h)
theorem gd_e_X20_made : (fw_e_X20_made).all goodWord = true := by decide +kernel
set_option maxHeartbeats 4000000 in
set_option maxRecDepth 100000 in
theorem e_X20_made (l : Launch) (dC : Nat → ClassId) (dI : Nat → Nat → Nat) (a0 : Nat) (a1 : Nat) (a2 : Nat) (a3 : Nat) (a4 : Nat) (a5 : Nat) (a6 : Nat) (a7 : Nat) (a8 : Nat) (a9 : Nat) (a10 : Nat) (a11 : Nat) (a12 : Nat) (a13 : Nat) (a14 : Nat) (a15 : Nat) (a16 : Nat) (a17 : Nat) (a18 : Nat) (a19 : Nat) (a20 : Nat) (x0 : Int32) (x1 : Int32) (x2 : Int32) (x3 : Int32) (x4 : Int32) (x5 : Int32) (x6 : Int32) (x7 : Int32) (x8 : Int32) (x9 : Int32) (sz : Nat) : Met l yX20_made fw_e_X20_made ({ frames := 1, cells := 0, slots := 0, locals := 20 }) (va_Pc [.ref a0] (fun U => U.heap.size = sz ∧ va_P (dC, dI) vwCl [(a0, .inr (21, [.ref a1, .ref a2, .ref a3, .ref a4, .ref a5, .ref a6, .ref a7, .ref a8, .int x0, .ref a9, .int x1, .int x2, .ref a10, .ref a11, .int x3, .ref a12, .int x4, .ref a13, .ref a14, .ref a15, .int x5, .ref a16, .ref a17, .int x6, .int x7, .ref a18, .int x8, .ref a19, .ref a20, .int x9]))] U.heap ∧ va_K (dC, dI) vwCl [] U ∧ va_D (fun _ => True) [(a0, .inr (21, [.ref a1, .ref a2, .ref a3, .ref a4, .ref a5, .ref a6, .ref a7, .ref a8, .int x0, .ref a9, .int x1, .int x2, .ref a10, .ref a11, .int x3, .ref a12, .int x4, .ref a13, .ref a14, .ref a15, .int x5, .ref a16, .ref a17, .int x6, .int x7, .ref a18, .int x8, .ref a19, .ref a20, .int x9]))])) (va_Qi (fun (r : Int32) (_ : Unit) => r = x3) (fun _ t => va_P (dC, dI) vwCl [(a0, .inr (21, [.ref a1, .ref a2, .ref a3, .ref a4, .ref a5, .ref a6, .ref a7, .ref a8, .int x0, .ref a9, .int x1, .int x2, .ref a10, .ref a11, .int x3, .ref a12, .int x4, .ref a13, .ref a14, .ref a15, .int x5, .ref a16, .ref a17, .int x6, .int x7, .ref a18, .int x8, .ref a19, .ref a20, .int x9]))] t.heap ∧ va_K (dC, dI) vwCl [] t ∧ va_D (va_A [(a0, .inr (21, [.ref a1, .ref a2, .ref a3, .ref a4, .ref a5, .ref a6, .ref a7, .ref a8, .int x0, .ref a9, .int x1, .int x2, .ref a10, .ref a11, .int x3, .ref a12, .int x4, .ref a13, .ref a14, .ref a15, .int x5, .ref a16, .ref a17, .int x6, .int x7, .ref a18, .int x8, .ref a19, .ref a20, .int x9]))] sz) [(a0, .inr (21, [.ref a1, .ref a2, .ref a3, .ref a4, .ref a5, .ref a6, .ref a7, .ref a8, .int x0, .ref a9, .int x1, .int x2, .ref a10, .ref a11, .int x3, .ref a12, .int x4, .ref a13, .ref a14, .ref a15, .int x5, .ref a16, .ref a17, .int x6, .int x7, .ref a18, .int x8, .ref a19, .ref a20, .int x9]))]) (va_A [(a0, .inr (21, [.ref a1, .ref a2, .ref a3, .ref a4, .ref a5, .ref a6, .ref a7, .ref a8, .int x0, .ref a9, .int x1, .int x2, .ref a10, .ref a11, .int x3, .ref a12, .int x4, .ref a13, .ref a14, .ref a15, .int x5, .ref a16, .ref a17, .int x6, .int x7, .ref a18, .int x8, .ref a19, .ref a20, .int x9]))] sz)) 0 0 (va_A [(a0, .inr (21, [.ref a1, .ref a2, .ref a3, .ref a4, .ref a5, .ref a6, .ref a7, .ref a8, .int x0, .ref a9, .int x1, .int x2, .ref a10, .ref a11, .int x3, .ref a12, .int x4, .ref a13, .ref a14, .ref a15, .int x5, .ref a16, .ref a17, .int x6, .int x7, .ref a18, .int x8, .ref a19, .ref a20, .int x9]))] sz) := by
  refine Met.ofW (cc := cX20_made) (maxL := 1) (ret := (some .int)) (by decide) rfl ?_
  intro p e s m args below meth c s₁ B hml hv
  obtain ⟨rfl, hsz, hP, hK, hD0⟩ := hv
  have hx := B.exec
  have hb := B.bytes
  have hr := B.returns
  have hts := atoms_spec (ws := fw_e_X20_made) B.pre
  have hown : s.vm.findClass RX20 = some m.cls := findClass_of_methodNamed B.named
  have hlocks := B.notSynchronized
  subst hsz
  have hD := hD0.self (sz := s.heap.size)
  generalize hAe : va_A [(a0, .inr (21, [.ref a1, .ref a2, .ref a3, .ref a4, .ref a5, .ref a6, .ref a7, .ref a8, .int x0, .ref a9, .int x1, .int x2, .ref a10, .ref a11, .int x3, .ref a12, .int x4, .ref a13, .ref a14, .ref a15, .int x5, .ref a16, .ref a17, .int x6, .int x7, .ref a18, .int x8, .ref a19, .ref a20, .int x9]))] s.heap.size = A at hD ⊢
  have hA : ∀ q : Nat, s.heap.size ≤ q → A q := fun q h => by rw [← hAe]; exact Or.inr h
  obtain ⟨H, hH⟩ : ∃ z, z = s.heap := ⟨_, rfl⟩
  rw [← hH] at hP
  have hS : va_S A s.heap H [] := by rw [hH]; exact va_S.rf
  have hP : va_P (dC, dI) vwCl [(a0, .inr (21, [.ref a1, .ref a2, .ref a3, .ref a4, .ref a5, .ref a6, .ref a7, .ref a8, .int x0, .ref a9, .int x1, .int x2, .ref a10, .ref a11, .int x3, .ref a12, .int x4, .ref a13, .ref a14, .ref a15, .int x5, .ref a16, .ref a17, .int x6, .int x7, .ref a18, .int x8, .ref a19, .ref a20, .int x9]))] H := hP
  have hl := lv_entry ([.ref a0]) (n := 1) (Nat.le_of_ble_eq_true rfl)
  rw [lg_entry_eq]
  generalize (lg_sl ([.ref a0]) ++ List.replicate (1 - (lg_sl ([.ref a0])).length) Slot.unset).toArray = ls at hl ⊢
  have hl : lv_has ls 1 [(0, .ref a0)] := hl
  rw [← hH]
  refine lv_aload_n hx hb dX20_made_0 rfl (lv_at hl 0 rfl) ?_
  refine va_get (D := (dC, dI)) (ci := 21) (v := .int x3) (C := RX20) (T := TX20) (N := 30) hx hb hts in_e_X20_made_RX20 hown hK hP 0 rfl rfl 14 (by decide) (hts (.fieldLink RX20 128 "TripleStoreModel" "shownMade" "I") (List.mem_of_getElem? (i := 1) rfl)) (fun _ h9 => h9) rfl dX20_made_1 ?_
  exact W.iret (v := x3) hx hb hr (fun t ht hW => ⟨⟨x3, (), rfl, rfl, by rw [ht]; exact hP, va_K.moved hW.alike hK, hD⟩, hS.F ht⟩) hS.2.2 dX20_made_4
def fw_e_X20_triples : List Cond := .code yX20_triples cX20_triples 1 (some .int) :: ([.fieldLink RX20 42 "TripleStoreModel" "store" "LTripleStoreModel$Store;"] ++ wsX200 ++ wsX170)
theorem in_e_X20_triples_RX20 : ∀ w ∈ u_ws RX20 TX20 30, w ∈ fw_e_X20_triples := fun _ h => List.mem_cons_of_mem _ (List.mem_append_left _ (List.mem_append_right _ h))
theorem in_e_X20_triples_RX17 : ∀ w ∈ u_ws RX17 TX17 18, w ∈ fw_e_X20_triples := fun _ h => List.mem_cons_of_mem _ (List.mem_append_right _ h)
theorem gd_e_X20_triples : (fw_e_X20_triples).all goodWord = true := by decide +kernel
set_option maxHeartbeats 4000000 in
set_option maxRecDepth 100000 in
theorem e_X20_triples (l : Launch) (dC : Nat → ClassId) (dI : Nat → Nat → Nat) (a0 : Nat) (a1 : Nat) (a2 : Nat) (a3 : Nat) (a4 : Nat) (a5 : Nat) (a6 : Nat) (a7 : Nat) (a8 : Nat) (a9 : Nat) (a10 : Nat) (a11 : Nat) (a12 : Nat) (a13 : Nat) (a14 : Nat) (a15 : Nat) (a16 : Nat) (a17 : Nat) (a18 : Nat) (a19 : Nat) (a20 : Nat) (a77 : Nat) (a78 : Nat) (a79 : Nat) (a80 : Nat) (a81 : Nat) (a82 : Nat) (a83 : Nat) (a84 : Nat) (a85 : Nat) (a86 : Nat) (a87 : Nat) (a88 : Nat) (x0 : Int32) (x1 : Int32) (x2 : Int32) (x3 : Int32) (x4 : Int32) (x5 : Int32) (x6 : Int32) (x7 : Int32) (x8 : Int32) (x9 : Int32) (x44 : Int32) (x45 : Int32) (x46 : Int32) (x47 : Int32) (x48 : Int32) (sz : Nat) : Met l yX20_triples fw_e_X20_triples ({ frames := 1, cells := 0, slots := 0, locals := 20 }) (va_Pc [.ref a0] (fun U => U.heap.size = sz ∧ va_P (dC, dI) vwCl [(a0, .inr (21, [.ref a1, .ref a2, .ref a3, .ref a4, .ref a5, .ref a6, .ref a7, .ref a8, .int x0, .ref a9, .int x1, .int x2, .ref a10, .ref a11, .int x3, .ref a12, .int x4, .ref a13, .ref a14, .ref a15, .int x5, .ref a16, .ref a17, .int x6, .int x7, .ref a18, .int x8, .ref a19, .ref a20, .int x9])), (a5, .inr (18, [.ref a1, .ref a77, .int x44, .ref a78, .int x45, .ref a79, .ref a80, .ref a81, .ref a82, .ref a83, .int x46, .int x47, .ref a84, .ref a85, .ref a86, .ref a87, .ref a88, .int x48]))] U.heap ∧ va_K (dC, dI) vwCl [] U ∧ va_D (fun _ => True) [(a0, .inr (21, [.ref a1, .ref a2, .ref a3, .ref a4, .ref a5, .ref a6, .ref a7, .ref a8, .int x0, .ref a9, .int x1, .int x2, .ref a10, .ref a11, .int x3, .ref a12, .int x4, .ref a13, .ref a14, .ref a15, .int x5, .ref a16, .ref a17, .int x6, .int x7, .ref a18, .int x8, .ref a19, .ref a20, .int x9])), (a5, .inr (18, [.ref a1, .ref a77, .int x44, .ref a78, .int x45, .ref a79, .ref a80, .ref a81, .ref a82, .ref a83, .int x46, .int x47, .ref a84, .ref a85, .ref a86, .ref a87, .ref a88, .int x48]))] ∧ va_Nw (.fieldLinkNest RX20 367 "TripleStoreModel$Store" "count" "I" "TripleStoreModel") U)) (va_Qi (fun (r : Int32) (_ : Unit) => r = x45) (fun _ t => va_P (dC, dI) vwCl [(a0, .inr (21, [.ref a1, .ref a2, .ref a3, .ref a4, .ref a5, .ref a6, .ref a7, .ref a8, .int x0, .ref a9, .int x1, .int x2, .ref a10, .ref a11, .int x3, .ref a12, .int x4, .ref a13, .ref a14, .ref a15, .int x5, .ref a16, .ref a17, .int x6, .int x7, .ref a18, .int x8, .ref a19, .ref a20, .int x9])), (a5, .inr (18, [.ref a1, .ref a77, .int x44, .ref a78, .int x45, .ref a79, .ref a80, .ref a81, .ref a82, .ref a83, .int x46, .int x47, .ref a84, .ref a85, .ref a86, .ref a87, .ref a88, .int x48]))] t.heap ∧ va_K (dC, dI) vwCl [] t ∧ va_D (va_A [(a0, .inr (21, [.ref a1, .ref a2, .ref a3, .ref a4, .ref a5, .ref a6, .ref a7, .ref a8, .int x0, .ref a9, .int x1, .int x2, .ref a10, .ref a11, .int x3, .ref a12, .int x4, .ref a13, .ref a14, .ref a15, .int x5, .ref a16, .ref a17, .int x6, .int x7, .ref a18, .int x8, .ref a19, .ref a20, .int x9])), (a5, .inr (18, [.ref a1, .ref a77, .int x44, .ref a78, .int x45, .ref a79, .ref a80, .ref a81, .ref a82, .ref a83, .int x46, .int x47, .ref a84, .ref a85, .ref a86, .ref a87, .ref a88, .int x48]))] sz) [(a0, .inr (21, [.ref a1, .ref a2, .ref a3, .ref a4, .ref a5, .ref a6, .ref a7, .ref a8, .int x0, .ref a9, .int x1, .int x2, .ref a10, .ref a11, .int x3, .ref a12, .int x4, .ref a13, .ref a14, .ref a15, .int x5, .ref a16, .ref a17, .int x6, .int x7, .ref a18, .int x8, .ref a19, .ref a20, .int x9])), (a5, .inr (18, [.ref a1, .ref a77, .int x44, .ref a78, .int x45, .ref a79, .ref a80, .ref a81, .ref a82, .ref a83, .int x46, .int x47, .ref a84, .ref a85, .ref a86, .ref a87, .ref a88, .int x48]))]) (va_A [(a0, .inr (21, [.ref a1, .ref a2, .ref a3, .ref a4, .ref a5, .ref a6, .ref a7, .ref a8, .int x0, .ref a9, .int x1, .int x2, .ref a10, .ref a11, .int x3, .ref a12, .int x4, .ref a13, .ref a14, .ref a15, .int x5, .ref a16, .ref a17, .int x6, .int x7, .ref a18, .int x8, .ref a19, .ref a20, .int x9])), (a5, .inr (18, [.ref a1, .ref a77, .int x44, .ref a78, .int x45, .ref a79, .ref a80, .ref a81, .ref a82, .ref a83, .int x46, .int x47, .ref a84, .ref a85, .ref a86, .ref a87, .ref a88, .int x48]))] sz)) 0 0 (va_A [(a0, .inr (21, [.ref a1, .ref a2, .ref a3, .ref a4, .ref a5, .ref a6, .ref a7, .ref a8, .int x0, .ref a9, .int x1, .int x2, .ref a10, .ref a11, .int x3, .ref a12, .int x4, .ref a13, .ref a14, .ref a15, .int x5, .ref a16, .ref a17, .int x6, .int x7, .ref a18, .int x8, .ref a19, .ref a20, .int x9])), (a5, .inr (18, [.ref a1, .ref a77, .int x44, .ref a78, .int x45, .ref a79, .ref a80, .ref a81, .ref a82, .ref a83, .int x46, .int x47, .ref a84, .ref a85, .ref a86, .ref a87, .ref a88, .int x48]))] sz) := by
  refine Met.ofW (cc := cX20_triples) (maxL := 1) (ret := (some .int)) (by decide) rfl ?_
  intro p e s m args below meth c s₁ B hml hv
  obtain ⟨rfl, hsz, hP, hK, hD0, hZ0⟩ := hv
  have hx := B.exec
  have hb := B.bytes
  have hr := B.returns
  have hts := atoms_spec (ws := fw_e_X20_triples) B.pre
  have hown : s.vm.findClass RX20 = some m.cls := findClass_of_methodNamed B.named
  have hlocks := B.notSynchronized
  subst hsz
  have hD := hD0.self (sz := s.heap.size)
  generalize hAe : va_A [(a0, .inr (21, [.ref a1, .ref a2, .ref a3, .ref a4, .ref a5, .ref a6, .ref a7, .ref a8, .int x0, .ref a9, .int x1, .int x2, .ref a10, .ref a11, .int x3, .ref a12, .int x4, .ref a13, .ref a14, .ref a15, .int x5, .ref a16, .ref a17, .int x6, .int x7, .ref a18, .int x8, .ref a19, .ref a20, .int x9])), (a5, .inr (18, [.ref a1, .ref a77, .int x44, .ref a78, .int x45, .ref a79, .ref a80, .ref a81, .ref a82, .ref a83, .int x46, .int x47, .ref a84, .ref a85, .ref a86, .ref a87, .ref a88, .int x48]))] s.heap.size = A at hD ⊢
  have hA : ∀ q : Nat, s.heap.size ≤ q → A q := fun q h => by rw [← hAe]; exact Or.inr h
  obtain ⟨H, hH⟩ : ∃ z, z = s.heap := ⟨_, rfl⟩
  rw [← hH] at hP
  have hS : va_S A s.heap H [] := by rw [hH]; exact va_S.rf
  have hP : va_P (dC, dI) vwCl [(a0, .inr (21, [.ref a1, .ref a2, .ref a3, .ref a4, .ref a5, .ref a6, .ref a7, .ref a8, .int x0, .ref a9, .int x1, .int x2, .ref a10, .ref a11, .int x3, .ref a12, .int x4, .ref a13, .ref a14, .ref a15, .int x5, .ref a16, .ref a17, .int x6, .int x7, .ref a18, .int x8, .ref a19, .ref a20, .int x9])), (a5, .inr (18, [.ref a1, .ref a77, .int x44, .ref a78, .int x45, .ref a79, .ref a80, .ref a81, .ref a82, .ref a83, .int x46, .int x47, .ref a84, .ref a85, .ref a86, .ref a87, .ref a88, .int x48]))] H := hP
  have hl := lv_entry ([.ref a0]) (n := 1) (Nat.le_of_ble_eq_true rfl)
  rw [lg_entry_eq]
  generalize (lg_sl ([.ref a0]) ++ List.replicate (1 - (lg_sl ([.ref a0])).length) Slot.unset).toArray = ls at hl ⊢
  have hl : lv_has ls 1 [(0, .ref a0)] := hl
  rw [← hH]
  refine lv_aload_n hx hb dX20_triples_0 rfl (lv_at hl 0 rfl) ?_
  refine va_get (D := (dC, dI)) (ci := 21) (v := .ref a5) (C := RX20) (T := TX20) (N := 30) hx hb hts in_e_X20_triples_RX20 hown hK hP 0 rfl rfl 4 (by decide) (hts (.fieldLink RX20 42 "TripleStoreModel" "store" "LTripleStoreModel$Store;") (List.mem_of_getElem? (i := 1) rfl)) (fun _ h9 => h9) rfl dX20_triples_1 ?_
  refine va_getN (D := (dC, dI)) (ci := 18) (v := .int x45) (C := RX17) (T := TX17) (N := 18) hx hb hts in_e_X20_triples_RX17 hown hK hP 1 rfl rfl 4 (by decide) (va_Nw.use rfl hZ0) (fun _ h9 => h9) rfl dX20_triples_4 ?_
  exact W.iret (v := x45) hx hb hr (fun t ht hW => ⟨⟨x45, (), rfl, rfl, by rw [ht]; exact hP, va_K.moved hW.alike hK, hD⟩, hS.F ht⟩) hS.2.2 dX20_triples_7
def fw_e_X20_said : List Cond := .code yX20_said cX20_said 1 (some .int) :: ([.fieldLink RX20 42 "TripleStoreModel" "store" "LTripleStoreModel$Store;"] ++ wsX200 ++ wsX170)
theorem in_e_X20_said_RX20 : ∀ w ∈ u_ws RX20 TX20 30, w ∈ fw_e_X20_said := fun _ h => List.mem_cons_of_mem _ (List.mem_append_left _ (List.mem_append_right _ h))
theorem in_e_X20_said_RX17 : ∀ w ∈ u_ws RX17 TX17 18, w ∈ fw_e_X20_said := fun _ h => List.mem_cons_of_mem _ (List.mem_append_right _ h)
theorem gd_e_X20_said : (fw_e_X20_said).all goodWord = true := by decide +kernel
set_option maxHeartbeats 4000000 in
set_option maxRecDepth 100000 in
theorem e_X20_said (l : Launch) (dC : Nat → ClassId) (dI : Nat → Nat → Nat) (a0 : Nat) (a1 : Nat) (a2 : Nat) (a3 : Nat) (a4 : Nat) (a5 : Nat) (a6 : Nat) (a7 : Nat) (a8 : Nat) (a9 : Nat) (a10 : Nat) (a11 : Nat) (a12 : Nat) (a13 : Nat) (a14 : Nat) (a15 : Nat) (a16 : Nat) (a17 : Nat) (a18 : Nat) (a19 : Nat) (a20 : Nat) (a77 : Nat) (a78 : Nat) (a79 : Nat) (a80 : Nat) (a81 : Nat) (a82 : Nat) (a83 : Nat) (a84 : Nat) (a85 : Nat) (a86 : Nat) (a87 : Nat) (a88 : Nat) (x0 : Int32) (x1 : Int32) (x2 : Int32) (x3 : Int32) (x4 : Int32) (x5 : Int32) (x6 : Int32) (x7 : Int32) (x8 : Int32) (x9 : Int32) (x44 : Int32) (x45 : Int32) (x46 : Int32) (x47 : Int32) (x48 : Int32) (sz : Nat) : Met l yX20_said fw_e_X20_said ({ frames := 1, cells := 0, slots := 0, locals := 20 }) (va_Pc [.ref a0] (fun U => U.heap.size = sz ∧ va_P (dC, dI) vwCl [(a0, .inr (21, [.ref a1, .ref a2, .ref a3, .ref a4, .ref a5, .ref a6, .ref a7, .ref a8, .int x0, .ref a9, .int x1, .int x2, .ref a10, .ref a11, .int x3, .ref a12, .int x4, .ref a13, .ref a14, .ref a15, .int x5, .ref a16, .ref a17, .int x6, .int x7, .ref a18, .int x8, .ref a19, .ref a20, .int x9])), (a5, .inr (18, [.ref a1, .ref a77, .int x44, .ref a78, .int x45, .ref a79, .ref a80, .ref a81, .ref a82, .ref a83, .int x46, .int x47, .ref a84, .ref a85, .ref a86, .ref a87, .ref a88, .int x48]))] U.heap ∧ va_K (dC, dI) vwCl [] U ∧ va_D (fun _ => True) [(a0, .inr (21, [.ref a1, .ref a2, .ref a3, .ref a4, .ref a5, .ref a6, .ref a7, .ref a8, .int x0, .ref a9, .int x1, .int x2, .ref a10, .ref a11, .int x3, .ref a12, .int x4, .ref a13, .ref a14, .ref a15, .int x5, .ref a16, .ref a17, .int x6, .int x7, .ref a18, .int x8, .ref a19, .ref a20, .int x9])), (a5, .inr (18, [.ref a1, .ref a77, .int x44, .ref a78, .int x45, .ref a79, .ref a80, .ref a81, .ref a82, .ref a83, .int x46, .int x47, .ref a84, .ref a85, .ref a86, .ref a87, .ref a88, .int x48]))] ∧ va_Nw (.fieldLinkNest RX20 230 "TripleStoreModel$Store" "saidCount" "I" "TripleStoreModel") U)) (va_Qi (fun (r : Int32) (_ : Unit) => r = x44) (fun _ t => va_P (dC, dI) vwCl [(a0, .inr (21, [.ref a1, .ref a2, .ref a3, .ref a4, .ref a5, .ref a6, .ref a7, .ref a8, .int x0, .ref a9, .int x1, .int x2, .ref a10, .ref a11, .int x3, .ref a12, .int x4, .ref a13, .ref a14, .ref a15, .int x5, .ref a16, .ref a17, .int x6, .int x7, .ref a18, .int x8, .ref a19, .ref a20, .int x9])), (a5, .inr (18, [.ref a1, .ref a77, .int x44, .ref a78, .int x45, .ref a79, .ref a80, .ref a81, .ref a82, .ref a83, .int x46, .int x47, .ref a84, .ref a85, .ref a86, .ref a87, .ref a88, .int x48]))] t.heap ∧ va_K (dC, dI) vwCl [] t ∧ va_D (va_A [(a0, .inr (21, [.ref a1, .ref a2, .ref a3, .ref a4, .ref a5, .ref a6, .ref a7, .ref a8, .int x0, .ref a9, .int x1, .int x2, .ref a10, .ref a11, .int x3, .ref a12, .int x4, .ref a13, .ref a14, .ref a15, .int x5, .ref a16, .ref a17, .int x6, .int x7, .ref a18, .int x8, .ref a19, .ref a20, .int x9])), (a5, .inr (18, [.ref a1, .ref a77, .int x44, .ref a78, .int x45, .ref a79, .ref a80, .ref a81, .ref a82, .ref a83, .int x46, .int x47, .ref a84, .ref a85, .ref a86, .ref a87, .ref a88, .int x48]))] sz) [(a0, .inr (21, [.ref a1, .ref a2, .ref a3, .ref a4, .ref a5, .ref a6, .ref a7, .ref a8, .int x0, .ref a9, .int x1, .int x2, .ref a10, .ref a11, .int x3, .ref a12, .int x4, .ref a13, .ref a14, .ref a15, .int x5, .ref a16, .ref a17, .int x6, .int x7, .ref a18, .int x8, .ref a19, .ref a20, .int x9])), (a5, .inr (18, [.ref a1, .ref a77, .int x44, .ref a78, .int x45, .ref a79, .ref a80, .ref a81, .ref a82, .ref a83, .int x46, .int x47, .ref a84, .ref a85, .ref a86, .ref a87, .ref a88, .int x48]))]) (va_A [(a0, .inr (21, [.ref a1, .ref a2, .ref a3, .ref a4, .ref a5, .ref a6, .ref a7, .ref a8, .int x0, .ref a9, .int x1, .int x2, .ref a10, .ref a11, .int x3, .ref a12, .int x4, .ref a13, .ref a14, .ref a15, .int x5, .ref a16, .ref a17, .int x6, .int x7, .ref a18, .int x8, .ref a19, .ref a20, .int x9])), (a5, .inr (18, [.ref a1, .ref a77, .int x44, .ref a78, .int x45, .ref a79, .ref a80, .ref a81, .ref a82, .ref a83, .int x46, .int x47, .ref a84, .ref a85, .ref a86, .ref a87, .ref a88, .int x48]))] sz)) 0 0 (va_A [(a0, .inr (21, [.ref a1, .ref a2, .ref a3, .ref a4, .ref a5, .ref a6, .ref a7, .ref a8, .int x0, .ref a9, .int x1, .int x2, .ref a10, .ref a11, .int x3, .ref a12, .int x4, .ref a13, .ref a14, .ref a15, .int x5, .ref a16, .ref a17, .int x6, .int x7, .ref a18, .int x8, .ref a19, .ref a20, .int x9])), (a5, .inr (18, [.ref a1, .ref a77, .int x44, .ref a78, .int x45, .ref a79, .ref a80, .ref a81, .ref a82, .ref a83, .int x46, .int x47, .ref a84, .ref a85, .ref a86, .ref a87, .ref a88, .int x48]))] sz) := by
  refine Met.ofW (cc := cX20_said) (maxL := 1) (ret := (some .int)) (by decide) rfl ?_
  intro p e s m args below meth c s₁ B hml hv
  obtain ⟨rfl, hsz, hP, hK, hD0, hZ0⟩ := hv
  have hx := B.exec
  have hb := B.bytes
  have hr := B.returns
  have hts := atoms_spec (ws := fw_e_X20_said) B.pre
  have hown : s.vm.findClass RX20 = some m.cls := findClass_of_methodNamed B.named
  have hlocks := B.notSynchronized
  subst hsz
  have hD := hD0.self (sz := s.heap.size)
  generalize hAe : va_A [(a0, .inr (21, [.ref a1, .ref a2, .ref a3, .ref a4, .ref a5, .ref a6, .ref a7, .ref a8, .int x0, .ref a9, .int x1, .int x2, .ref a10, .ref a11, .int x3, .ref a12, .int x4, .ref a13, .ref a14, .ref a15, .int x5, .ref a16, .ref a17, .int x6, .int x7, .ref a18, .int x8, .ref a19, .ref a20, .int x9])), (a5, .inr (18, [.ref a1, .ref a77, .int x44, .ref a78, .int x45, .ref a79, .ref a80, .ref a81, .ref a82, .ref a83, .int x46, .int x47, .ref a84, .ref a85, .ref a86, .ref a87, .ref a88, .int x48]))] s.heap.size = A at hD ⊢
  have hA : ∀ q : Nat, s.heap.size ≤ q → A q := fun q h => by rw [← hAe]; exact Or.inr h
  obtain ⟨H, hH⟩ : ∃ z, z = s.heap := ⟨_, rfl⟩
  rw [← hH] at hP
  have hS : va_S A s.heap H [] := by rw [hH]; exact va_S.rf
  have hP : va_P (dC, dI) vwCl [(a0, .inr (21, [.ref a1, .ref a2, .ref a3, .ref a4, .ref a5, .ref a6, .ref a7, .ref a8, .int x0, .ref a9, .int x1, .int x2, .ref a10, .ref a11, .int x3, .ref a12, .int x4, .ref a13, .ref a14, .ref a15, .int x5, .ref a16, .ref a17, .int x6, .int x7, .ref a18, .int x8, .ref a19, .ref a20, .int x9])), (a5, .inr (18, [.ref a1, .ref a77, .int x44, .ref a78, .int x45, .ref a79, .ref a80, .ref a81, .ref a82, .ref a83, .int x46, .int x47, .ref a84, .ref a85, .ref a86, .ref a87, .ref a88, .int x48]))] H := hP
  have hl := lv_entry ([.ref a0]) (n := 1) (Nat.le_of_ble_eq_true rfl)
  rw [lg_entry_eq]
  generalize (lg_sl ([.ref a0]) ++ List.replicate (1 - (lg_sl ([.ref a0])).length) Slot.unset).toArray = ls at hl ⊢
  have hl : lv_has ls 1 [(0, .ref a0)] := hl
  rw [← hH]
  refine lv_aload_n hx hb dX20_said_0 rfl (lv_at hl 0 rfl) ?_
  refine va_get (D := (dC, dI)) (ci := 21) (v := .ref a5) (C := RX20) (T := TX20) (N := 30) hx hb hts in_e_X20_said_RX20 hown hK hP 0 rfl rfl 4 (by decide) (hts (.fieldLink RX20 42 "TripleStoreModel" "store" "LTripleStoreModel$Store;") (List.mem_of_getElem? (i := 1) rfl)) (fun _ h9 => h9) rfl dX20_said_1 ?_
  refine va_getN (D := (dC, dI)) (ci := 18) (v := .int x44) (C := RX17) (T := TX17) (N := 18) hx hb hts in_e_X20_said_RX17 hown hK hP 1 rfl rfl 2 (by decide) (va_Nw.use rfl hZ0) (fun _ h9 => h9) rfl dX20_said_4 ?_
  exact W.iret (v := x44) hx hb hr (fun t ht hW => ⟨⟨x44, (), rfl, rfl, by rw [ht]; exact hP, va_K.moved hW.alike hK, hD⟩, hS.F ht⟩) hS.2.2 dX20_said_7
def fw_e_X20_terms : List Cond := .code yX20_terms cX20_terms 1 (some .int) :: ([.fieldLink RX20 10 "TripleStoreModel" "terms" "LTripleStoreModel$Terms;"] ++ wsX200 ++ wsX180)
theorem in_e_X20_terms_RX20 : ∀ w ∈ u_ws RX20 TX20 30, w ∈ fw_e_X20_terms := fun _ h => List.mem_cons_of_mem _ (List.mem_append_left _ (List.mem_append_right _ h))
theorem in_e_X20_terms_RX18 : ∀ w ∈ u_ws RX18 TX18 23, w ∈ fw_e_X20_terms := fun _ h => List.mem_cons_of_mem _ (List.mem_append_right _ h)
theorem gd_e_X20_terms : (fw_e_X20_terms).all goodWord = true := by decide +kernel
set_option maxHeartbeats 4000000 in
set_option maxRecDepth 100000 in
theorem e_X20_terms (l : Launch) (dC : Nat → ClassId) (dI : Nat → Nat → Nat) (a0 : Nat) (a1 : Nat) (a2 : Nat) (a3 : Nat) (a4 : Nat) (a5 : Nat) (a6 : Nat) (a7 : Nat) (a8 : Nat) (a9 : Nat) (a10 : Nat) (a11 : Nat) (a12 : Nat) (a13 : Nat) (a14 : Nat) (a15 : Nat) (a16 : Nat) (a17 : Nat) (a18 : Nat) (a19 : Nat) (a20 : Nat) (a21 : Nat) (a22 : Nat) (a23 : Nat) (a24 : Nat) (a25 : Nat) (a26 : Nat) (a27 : Nat) (a28 : Nat) (a29 : Nat) (a30 : Nat) (x0 : Int32) (x1 : Int32) (x2 : Int32) (x3 : Int32) (x4 : Int32) (x5 : Int32) (x6 : Int32) (x7 : Int32) (x8 : Int32) (x9 : Int32) (x10 : Int32) (x11 : Int32) (x12 : Int32) (x13 : Int32) (x14 : Int32) (x15 : Int32) (x16 : Int32) (x17 : Int32) (y0 : Int64) (x18 : Int32) (x19 : Int32) (x20 : Int32) (x21 : Int32) (sz : Nat) : Met l yX20_terms fw_e_X20_terms ({ frames := 1, cells := 0, slots := 0, locals := 20 }) (va_Pc [.ref a0] (fun U => U.heap.size = sz ∧ va_P (dC, dI) vwCl [(a0, .inr (21, [.ref a1, .ref a2, .ref a3, .ref a4, .ref a5, .ref a6, .ref a7, .ref a8, .int x0, .ref a9, .int x1, .int x2, .ref a10, .ref a11, .int x3, .ref a12, .int x4, .ref a13, .ref a14, .ref a15, .int x5, .ref a16, .ref a17, .int x6, .int x7, .ref a18, .int x8, .ref a19, .ref a20, .int x9])), (a1, .inr (19, [.ref a21, .ref a22, .ref a23, .ref a24, .ref a25, .ref a26, .ref a27, .ref a28, .int x10, .int x11, .int x12, .int x13, .int x14, .int x15, .int x16, .int x17, .long y0, .int x18, .ref a29, .int x19, .int x20, .ref a30, .int x21]))] U.heap ∧ va_K (dC, dI) vwCl [] U ∧ va_D (fun _ => True) [(a0, .inr (21, [.ref a1, .ref a2, .ref a3, .ref a4, .ref a5, .ref a6, .ref a7, .ref a8, .int x0, .ref a9, .int x1, .int x2, .ref a10, .ref a11, .int x3, .ref a12, .int x4, .ref a13, .ref a14, .ref a15, .int x5, .ref a16, .ref a17, .int x6, .int x7, .ref a18, .int x8, .ref a19, .ref a20, .int x9])), (a1, .inr (19, [.ref a21, .ref a22, .ref a23, .ref a24, .ref a25, .ref a26, .ref a27, .ref a28, .int x10, .int x11, .int x12, .int x13, .int x14, .int x15, .int x16, .int x17, .long y0, .int x18, .ref a29, .int x19, .int x20, .ref a30, .int x21]))] ∧ va_Nw (.fieldLinkNest RX20 295 "TripleStoreModel$Terms" "numbered" "I" "TripleStoreModel") U)) (va_Qi (fun (r : Int32) (_ : Unit) => r = x10) (fun _ t => va_P (dC, dI) vwCl [(a0, .inr (21, [.ref a1, .ref a2, .ref a3, .ref a4, .ref a5, .ref a6, .ref a7, .ref a8, .int x0, .ref a9, .int x1, .int x2, .ref a10, .ref a11, .int x3, .ref a12, .int x4, .ref a13, .ref a14, .ref a15, .int x5, .ref a16, .ref a17, .int x6, .int x7, .ref a18, .int x8, .ref a19, .ref a20, .int x9])), (a1, .inr (19, [.ref a21, .ref a22, .ref a23, .ref a24, .ref a25, .ref a26, .ref a27, .ref a28, .int x10, .int x11, .int x12, .int x13, .int x14, .int x15, .int x16, .int x17, .long y0, .int x18, .ref a29, .int x19, .int x20, .ref a30, .int x21]))] t.heap ∧ va_K (dC, dI) vwCl [] t ∧ va_D (va_A [(a0, .inr (21, [.ref a1, .ref a2, .ref a3, .ref a4, .ref a5, .ref a6, .ref a7, .ref a8, .int x0, .ref a9, .int x1, .int x2, .ref a10, .ref a11, .int x3, .ref a12, .int x4, .ref a13, .ref a14, .ref a15, .int x5, .ref a16, .ref a17, .int x6, .int x7, .ref a18, .int x8, .ref a19, .ref a20, .int x9])), (a1, .inr (19, [.ref a21, .ref a22, .ref a23, .ref a24, .ref a25, .ref a26, .ref a27, .ref a28, .int x10, .int x11, .int x12, .int x13, .int x14, .int x15, .int x16, .int x17, .long y0, .int x18, .ref a29, .int x19, .int x20, .ref a30, .int x21]))] sz) [(a0, .inr (21, [.ref a1, .ref a2, .ref a3, .ref a4, .ref a5, .ref a6, .ref a7, .ref a8, .int x0, .ref a9, .int x1, .int x2, .ref a10, .ref a11, .int x3, .ref a12, .int x4, .ref a13, .ref a14, .ref a15, .int x5, .ref a16, .ref a17, .int x6, .int x7, .ref a18, .int x8, .ref a19, .ref a20, .int x9])), (a1, .inr (19, [.ref a21, .ref a22, .ref a23, .ref a24, .ref a25, .ref a26, .ref a27, .ref a28, .int x10, .int x11, .int x12, .int x13, .int x14, .int x15, .int x16, .int x17, .long y0, .int x18, .ref a29, .int x19, .int x20, .ref a30, .int x21]))]) (va_A [(a0, .inr (21, [.ref a1, .ref a2, .ref a3, .ref a4, .ref a5, .ref a6, .ref a7, .ref a8, .int x0, .ref a9, .int x1, .int x2, .ref a10, .ref a11, .int x3, .ref a12, .int x4, .ref a13, .ref a14, .ref a15, .int x5, .ref a16, .ref a17, .int x6, .int x7, .ref a18, .int x8, .ref a19, .ref a20, .int x9])), (a1, .inr (19, [.ref a21, .ref a22, .ref a23, .ref a24, .ref a25, .ref a26, .ref a27, .ref a28, .int x10, .int x11, .int x12, .int x13, .int x14, .int x15, .int x16, .int x17, .long y0, .int x18, .ref a29, .int x19, .int x20, .ref a30, .int x21]))] sz)) 0 0 (va_A [(a0, .inr (21, [.ref a1, .ref a2, .ref a3, .ref a4, .ref a5, .ref a6, .ref a7, .ref a8, .int x0, .ref a9, .int x1, .int x2, .ref a10, .ref a11, .int x3, .ref a12, .int x4, .ref a13, .ref a14, .ref a15, .int x5, .ref a16, .ref a17, .int x6, .int x7, .ref a18, .int x8, .ref a19, .ref a20, .int x9])), (a1, .inr (19, [.ref a21, .ref a22, .ref a23, .ref a24, .ref a25, .ref a26, .ref a27, .ref a28, .int x10, .int x11, .int x12, .int x13, .int x14, .int x15, .int x16, .int x17, .long y0, .int x18, .ref a29, .int x19, .int x20, .ref a30, .int x21]))] sz) := by
  refine Met.ofW (cc := cX20_terms) (maxL := 1) (ret := (some .int)) (by decide) rfl ?_
  intro p e s m args below meth c s₁ B hml hv
  obtain ⟨rfl, hsz, hP, hK, hD0, hZ0⟩ := hv
  have hx := B.exec
  have hb := B.bytes
  have hr := B.returns
  have hts := atoms_spec (ws := fw_e_X20_terms) B.pre
  have hown : s.vm.findClass RX20 = some m.cls := findClass_of_methodNamed B.named
  have hlocks := B.notSynchronized
  subst hsz
  have hD := hD0.self (sz := s.heap.size)
  generalize hAe : va_A [(a0, .inr (21, [.ref a1, .ref a2, .ref a3, .ref a4, .ref a5, .ref a6, .ref a7, .ref a8, .int x0, .ref a9, .int x1, .int x2, .ref a10, .ref a11, .int x3, .ref a12, .int x4, .ref a13, .ref a14, .ref a15, .int x5, .ref a16, .ref a17, .int x6, .int x7, .ref a18, .int x8, .ref a19, .ref a20, .int x9])), (a1, .inr (19, [.ref a21, .ref a22, .ref a23, .ref a24, .ref a25, .ref a26, .ref a27, .ref a28, .int x10, .int x11, .int x12, .int x13, .int x14, .int x15, .int x16, .int x17, .long y0, .int x18, .ref a29, .int x19, .int x20, .ref a30, .int x21]))] s.heap.size = A at hD ⊢
  have hA : ∀ q : Nat, s.heap.size ≤ q → A q := fun q h => by rw [← hAe]; exact Or.inr h
  obtain ⟨H, hH⟩ : ∃ z, z = s.heap := ⟨_, rfl⟩
  rw [← hH] at hP
  have hS : va_S A s.heap H [] := by rw [hH]; exact va_S.rf
  have hP : va_P (dC, dI) vwCl [(a0, .inr (21, [.ref a1, .ref a2, .ref a3, .ref a4, .ref a5, .ref a6, .ref a7, .ref a8, .int x0, .ref a9, .int x1, .int x2, .ref a10, .ref a11, .int x3, .ref a12, .int x4, .ref a13, .ref a14, .ref a15, .int x5, .ref a16, .ref a17, .int x6, .int x7, .ref a18, .int x8, .ref a19, .ref a20, .int x9])), (a1, .inr (19, [.ref a21, .ref a22, .ref a23, .ref a24, .ref a25, .ref a26, .ref a27, .ref a28, .int x10, .int x11, .int x12, .int x13, .int x14, .int x15, .int x16, .int x17, .long y0, .int x18, .ref a29, .int x19, .int x20, .ref a30, .int x21]))] H := hP
  have hl := lv_entry ([.ref a0]) (n := 1) (Nat.le_of_ble_eq_true rfl)
  rw [lg_entry_eq]
  generalize (lg_sl ([.ref a0]) ++ List.replicate (1 - (lg_sl ([.ref a0])).length) Slot.unset).toArray = ls at hl ⊢
  have hl : lv_has ls 1 [(0, .ref a0)] := hl
  rw [← hH]
  refine lv_aload_n hx hb dX20_terms_0 rfl (lv_at hl 0 rfl) ?_
  refine va_get (D := (dC, dI)) (ci := 21) (v := .ref a1) (C := RX20) (T := TX20) (N := 30) hx hb hts in_e_X20_terms_RX20 hown hK hP 0 rfl rfl 0 (by decide) (hts (.fieldLink RX20 10 "TripleStoreModel" "terms" "LTripleStoreModel$Terms;") (List.mem_of_getElem? (i := 1) rfl)) (fun _ h9 => h9) rfl dX20_terms_1 ?_
  refine va_getN (D := (dC, dI)) (ci := 19) (v := .int x10) (C := RX18) (T := TX18) (N := 23) hx hb hts in_e_X20_terms_RX18 hown hK hP 1 rfl rfl 8 (by decide) (va_Nw.use rfl hZ0) (fun _ h9 => h9) rfl dX20_terms_4 ?_
  exact W.iret (v := x10) hx hb hr (fun t ht hW => ⟨⟨x10, (), rfl, rfl, by rw [ht]; exact hP, va_K.moved hW.alike hK, hD⟩, hS.F ht⟩) hS.2.2 dX20_terms_7
def fw_e_X20_rules : List Cond := .code yX20_rules cX20_rules 1 (some .int) :: ([.fieldLink RX20 42 "TripleStoreModel" "store" "LTripleStoreModel$Store;"] ++ wsX200 ++ wsX170)
theorem in_e_X20_rules_RX20 : ∀ w ∈ u_ws RX20 TX20 30, w ∈ fw_e_X20_rules := fun _ h => List.mem_cons_of_mem _ (List.mem_append_left _ (List.mem_append_right _ h))
theorem in_e_X20_rules_RX17 : ∀ w ∈ u_ws RX17 TX17 18, w ∈ fw_e_X20_rules := fun _ h => List.mem_cons_of_mem _ (List.mem_append_right _ h)
theorem gd_e_X20_rules : (fw_e_X20_rules).all goodWord = true := by decide +kernel
set_option maxHeartbeats 4000000 in
set_option maxRecDepth 100000 in
theorem e_X20_rules (l : Launch) (dC : Nat → ClassId) (dI : Nat → Nat → Nat) (a0 : Nat) (a1 : Nat) (a2 : Nat) (a3 : Nat) (a4 : Nat) (a5 : Nat) (a6 : Nat) (a7 : Nat) (a8 : Nat) (a9 : Nat) (a10 : Nat) (a11 : Nat) (a12 : Nat) (a13 : Nat) (a14 : Nat) (a15 : Nat) (a16 : Nat) (a17 : Nat) (a18 : Nat) (a19 : Nat) (a20 : Nat) (a77 : Nat) (a78 : Nat) (a79 : Nat) (a80 : Nat) (a81 : Nat) (a82 : Nat) (a83 : Nat) (a84 : Nat) (a85 : Nat) (a86 : Nat) (a87 : Nat) (a88 : Nat) (x0 : Int32) (x1 : Int32) (x2 : Int32) (x3 : Int32) (x4 : Int32) (x5 : Int32) (x6 : Int32) (x7 : Int32) (x8 : Int32) (x9 : Int32) (x44 : Int32) (x45 : Int32) (x46 : Int32) (x47 : Int32) (x48 : Int32) (sz : Nat) : Met l yX20_rules fw_e_X20_rules ({ frames := 1, cells := 0, slots := 0, locals := 20 }) (va_Pc [.ref a0] (fun U => U.heap.size = sz ∧ va_P (dC, dI) vwCl [(a0, .inr (21, [.ref a1, .ref a2, .ref a3, .ref a4, .ref a5, .ref a6, .ref a7, .ref a8, .int x0, .ref a9, .int x1, .int x2, .ref a10, .ref a11, .int x3, .ref a12, .int x4, .ref a13, .ref a14, .ref a15, .int x5, .ref a16, .ref a17, .int x6, .int x7, .ref a18, .int x8, .ref a19, .ref a20, .int x9])), (a5, .inr (18, [.ref a1, .ref a77, .int x44, .ref a78, .int x45, .ref a79, .ref a80, .ref a81, .ref a82, .ref a83, .int x46, .int x47, .ref a84, .ref a85, .ref a86, .ref a87, .ref a88, .int x48]))] U.heap ∧ va_K (dC, dI) vwCl [] U ∧ va_D (fun _ => True) [(a0, .inr (21, [.ref a1, .ref a2, .ref a3, .ref a4, .ref a5, .ref a6, .ref a7, .ref a8, .int x0, .ref a9, .int x1, .int x2, .ref a10, .ref a11, .int x3, .ref a12, .int x4, .ref a13, .ref a14, .ref a15, .int x5, .ref a16, .ref a17, .int x6, .int x7, .ref a18, .int x8, .ref a19, .ref a20, .int x9])), (a5, .inr (18, [.ref a1, .ref a77, .int x44, .ref a78, .int x45, .ref a79, .ref a80, .ref a81, .ref a82, .ref a83, .int x46, .int x47, .ref a84, .ref a85, .ref a86, .ref a87, .ref a88, .int x48]))] ∧ va_Nw (.fieldLinkNest RX20 220 "TripleStoreModel$Store" "rules" "I" "TripleStoreModel") U)) (va_Qi (fun (r : Int32) (_ : Unit) => r = x46) (fun _ t => va_P (dC, dI) vwCl [(a0, .inr (21, [.ref a1, .ref a2, .ref a3, .ref a4, .ref a5, .ref a6, .ref a7, .ref a8, .int x0, .ref a9, .int x1, .int x2, .ref a10, .ref a11, .int x3, .ref a12, .int x4, .ref a13, .ref a14, .ref a15, .int x5, .ref a16, .ref a17, .int x6, .int x7, .ref a18, .int x8, .ref a19, .ref a20, .int x9])), (a5, .inr (18, [.ref a1, .ref a77, .int x44, .ref a78, .int x45, .ref a79, .ref a80, .ref a81, .ref a82, .ref a83, .int x46, .int x47, .ref a84, .ref a85, .ref a86, .ref a87, .ref a88, .int x48]))] t.heap ∧ va_K (dC, dI) vwCl [] t ∧ va_D (va_A [(a0, .inr (21, [.ref a1, .ref a2, .ref a3, .ref a4, .ref a5, .ref a6, .ref a7, .ref a8, .int x0, .ref a9, .int x1, .int x2, .ref a10, .ref a11, .int x3, .ref a12, .int x4, .ref a13, .ref a14, .ref a15, .int x5, .ref a16, .ref a17, .int x6, .int x7, .ref a18, .int x8, .ref a19, .ref a20, .int x9])), (a5, .inr (18, [.ref a1, .ref a77, .int x44, .ref a78, .int x45, .ref a79, .ref a80, .ref a81, .ref a82, .ref a83, .int x46, .int x47, .ref a84, .ref a85, .ref a86, .ref a87, .ref a88, .int x48]))] sz) [(a0, .inr (21, [.ref a1, .ref a2, .ref a3, .ref a4, .ref a5, .ref a6, .ref a7, .ref a8, .int x0, .ref a9, .int x1, .int x2, .ref a10, .ref a11, .int x3, .ref a12, .int x4, .ref a13, .ref a14, .ref a15, .int x5, .ref a16, .ref a17, .int x6, .int x7, .ref a18, .int x8, .ref a19, .ref a20, .int x9])), (a5, .inr (18, [.ref a1, .ref a77, .int x44, .ref a78, .int x45, .ref a79, .ref a80, .ref a81, .ref a82, .ref a83, .int x46, .int x47, .ref a84, .ref a85, .ref a86, .ref a87, .ref a88, .int x48]))]) (va_A [(a0, .inr (21, [.ref a1, .ref a2, .ref a3, .ref a4, .ref a5, .ref a6, .ref a7, .ref a8, .int x0, .ref a9, .int x1, .int x2, .ref a10, .ref a11, .int x3, .ref a12, .int x4, .ref a13, .ref a14, .ref a15, .int x5, .ref a16, .ref a17, .int x6, .int x7, .ref a18, .int x8, .ref a19, .ref a20, .int x9])), (a5, .inr (18, [.ref a1, .ref a77, .int x44, .ref a78, .int x45, .ref a79, .ref a80, .ref a81, .ref a82, .ref a83, .int x46, .int x47, .ref a84, .ref a85, .ref a86, .ref a87, .ref a88, .int x48]))] sz)) 0 0 (va_A [(a0, .inr (21, [.ref a1, .ref a2, .ref a3, .ref a4, .ref a5, .ref a6, .ref a7, .ref a8, .int x0, .ref a9, .int x1, .int x2, .ref a10, .ref a11, .int x3, .ref a12, .int x4, .ref a13, .ref a14, .ref a15, .int x5, .ref a16, .ref a17, .int x6, .int x7, .ref a18, .int x8, .ref a19, .ref a20, .int x9])), (a5, .inr (18, [.ref a1, .ref a77, .int x44, .ref a78, .int x45, .ref a79, .ref a80, .ref a81, .ref a82, .ref a83, .int x46, .int x47, .ref a84, .ref a85, .ref a86, .ref a87, .ref a88, .int x48]))] sz) := by
  refine Met.ofW (cc := cX20_rules) (maxL := 1) (ret := (some .int)) (by decide) rfl ?_
  intro p e s m args below meth c s₁ B hml hv
  obtain ⟨rfl, hsz, hP, hK, hD0, hZ0⟩ := hv
  have hx := B.exec
  have hb := B.bytes
  have hr := B.returns
  have hts := atoms_spec (ws := fw_e_X20_rules) B.pre
  have hown : s.vm.findClass RX20 = some m.cls := findClass_of_methodNamed B.named
  have hlocks := B.notSynchronized
  subst hsz
  have hD := hD0.self (sz := s.heap.size)
  generalize hAe : va_A [(a0, .inr (21, [.ref a1, .ref a2, .ref a3, .ref a4, .ref a5, .ref a6, .ref a7, .ref a8, .int x0, .ref a9, .int x1, .int x2, .ref a10, .ref a11, .int x3, .ref a12, .int x4, .ref a13, .ref a14, .ref a15, .int x5, .ref a16, .ref a17, .int x6, .int x7, .ref a18, .int x8, .ref a19, .ref a20, .int x9])), (a5, .inr (18, [.ref a1, .ref a77, .int x44, .ref a78, .int x45, .ref a79, .ref a80, .ref a81, .ref a82, .ref a83, .int x46, .int x47, .ref a84, .ref a85, .ref a86, .ref a87, .ref a88, .int x48]))] s.heap.size = A at hD ⊢
  have hA : ∀ q : Nat, s.heap.size ≤ q → A q := fun q h => by rw [← hAe]; exact Or.inr h
  obtain ⟨H, hH⟩ : ∃ z, z = s.heap := ⟨_, rfl⟩
  rw [← hH] at hP
  have hS : va_S A s.heap H [] := by rw [hH]; exact va_S.rf
  have hP : va_P (dC, dI) vwCl [(a0, .inr (21, [.ref a1, .ref a2, .ref a3, .ref a4, .ref a5, .ref a6, .ref a7, .ref a8, .int x0, .ref a9, .int x1, .int x2, .ref a10, .ref a11, .int x3, .ref a12, .int x4, .ref a13, .ref a14, .ref a15, .int x5, .ref a16, .ref a17, .int x6, .int x7, .ref a18, .int x8, .ref a19, .ref a20, .int x9])), (a5, .inr (18, [.ref a1, .ref a77, .int x44, .ref a78, .int x45, .ref a79, .ref a80, .ref a81, .ref a82, .ref a83, .int x46, .int x47, .ref a84, .ref a85, .ref a86, .ref a87, .ref a88, .int x48]))] H := hP
  have hl := lv_entry ([.ref a0]) (n := 1) (Nat.le_of_ble_eq_true rfl)
  rw [lg_entry_eq]
  generalize (lg_sl ([.ref a0]) ++ List.replicate (1 - (lg_sl ([.ref a0])).length) Slot.unset).toArray = ls at hl ⊢
  have hl : lv_has ls 1 [(0, .ref a0)] := hl
  rw [← hH]
  refine lv_aload_n hx hb dX20_rules_0 rfl (lv_at hl 0 rfl) ?_
  refine va_get (D := (dC, dI)) (ci := 21) (v := .ref a5) (C := RX20) (T := TX20) (N := 30) hx hb hts in_e_X20_rules_RX20 hown hK hP 0 rfl rfl 4 (by decide) (hts (.fieldLink RX20 42 "TripleStoreModel" "store" "LTripleStoreModel$Store;") (List.mem_of_getElem? (i := 1) rfl)) (fun _ h9 => h9) rfl dX20_rules_1 ?_
  refine va_getN (D := (dC, dI)) (ci := 18) (v := .int x46) (C := RX17) (T := TX17) (N := 18) hx hb hts in_e_X20_rules_RX17 hown hK hP 1 rfl rfl 10 (by decide) (va_Nw.use rfl hZ0) (fun _ h9 => h9) rfl dX20_rules_4 ?_
  exact W.iret (v := x46) hx hb hr (fun t ht hW => ⟨⟨x46, (), rfl, rfl, by rw [ht]; exact hP, va_K.moved hW.alike hK, hD⟩, hS.F ht⟩) hS.2.2 dX20_rules_7
