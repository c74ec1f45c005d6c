theorem k_pos {x : Int32} (h : ¬ x < 1) : ¬ x ≤ 0 := by
  rw [Int32.lt_iff_toInt_lt, show (1 : Int32).toInt = 1 by decide] at h
  rw [Int32.le_iff_toInt_le, show (0 : Int32).toInt = 0 by decide]
  omega
theorem k_npos {x : Int32} (h : ¬ 0 < x) : ¬ 1 ≤ x := by
  rw [Int32.lt_iff_toInt_lt, show (0 : Int32).toInt = 0 by decide] at h
  rw [Int32.le_iff_toInt_le, show (1 : Int32).toInt = 1 by decide]
  omega
theorem k_zero {x : Int32} (h : ¬ x < 0) (h2 : x ≤ 0) : x = 0 := Int32.le_antisymm h2 (Int32.not_lt.mp h)
theorem k_one_to_8 {x : Int32} (h : ¬ x < 1) (h2 : x ≤ 8) : x = 1 ∨ x = 2 ∨ x = 3 ∨ x = 4 ∨ x = 5 ∨ x = 6 ∨ x = 7 ∨ x = 8 := by
  have h1 : (1 : Int32).toInt ≤ x.toInt := Int32.le_iff_toInt_le.mp (Int32.not_lt.mp h)
  have h3 : x.toInt ≤ (8 : Int32).toInt := Int32.le_iff_toInt_le.mp h2
  rw [show (1 : Int32).toInt = 1 by decide] at h1
  rw [show (8 : Int32).toInt = 8 by decide] at h3
  simp only [← Int32.toInt_inj]
  rw [show (1 : Int32).toInt = 1 by decide, show (2 : Int32).toInt = 2 by decide, show (3 : Int32).toInt = 3 by decide, show (4 : Int32).toInt = 4 by decide, show (5 : Int32).toInt = 5 by decide, show (6 : Int32).toInt = 6 by decide, show (7 : Int32).toInt = 7 by decide, show (8 : Int32).toInt = 8 by decide]
  omega
def fw_f_X11_wipe : List Cond := .code yX11_wipe cX11_wipe 2 (some .int) :: ([.fieldLink RX11 90 "TripleStore" "length" "I"] ++ wsX110)
theorem in_f_X11_wipe_RX11 : ∀ w ∈ u_ws RX11 TX11 18, w ∈ fw_f_X11_wipe := fun _ h => List.mem_cons_of_mem _ (List.mem_append_right _ h)
theorem gd_f_X11_wipe : (fw_f_X11_wipe).all goodWord = true := by decide +kernel
set_option maxHeartbeats 4000000 in
set_option maxRecDepth 100000 in
theorem f_X11_wipe (l : Launch) (dC : Nat → ClassId) (dI : Nat → Nat → Nat) (a0 : Nat) (a1 : Nat) (a2 : Nat) (a3 : Nat) (a4 : Nat) (a5 : Nat) (a6 : Nat) (a7 : Nat) (a8 : Nat) (a9 : Nat) (a10 : Nat) (sz : Nat) : Met l yX11_wipe fw_f_X11_wipe ({ frames := 1, cells := 0, slots := 0, locals := 20 }) (va_Pc [.ref a0] (fun U => U.heap.size = sz ∧ va_P (dC, dI) vwCl [(a0, .inr (12, [.ref a1, .int 0, .ref a2, .ref a3, .ref a4, .ref a5, .ref a6, .ref a7, .ref a8, .ref a9, .ref a10, .int 0, .int 0, .int 0, .int 0, .int 0, .null, .int 0]))] U.heap ∧ va_K (dC, dI) vwCl [] U ∧ va_D (fun _ => True) [(a0, .inr (12, [.ref a1, .int 0, .ref a2, .ref a3, .ref a4, .ref a5, .ref a6, .ref a7, .ref a8, .ref a9, .ref a10, .int 0, .int 0, .int 0, .int 0, .int 0, .null, .int 0]))])) (va_Qi (fun (r : Int32) (_ : Unit) => r = 0) (fun _ t => va_P (dC, dI) vwCl [(a0, .inr (12, [.ref a1, .int 0, .ref a2, .ref a3, .ref a4, .ref a5, .ref a6, .ref a7, .ref a8, .ref a9, .ref a10, .int 0, .int 0, .int 0, .int 0, .int 0, .null, .int 0]))] t.heap ∧ va_K (dC, dI) vwCl [] t ∧ va_D (va_A [(a0, .inr (12, [.ref a1, .int 0, .ref a2, .ref a3, .ref a4, .ref a5, .ref a6, .ref a7, .ref a8, .ref a9, .ref a10, .int 0, .int 0, .int 0, .int 0, .int 0, .null, .int 0]))] sz) [(a0, .inr (12, [.ref a1, .int 0, .ref a2, .ref a3, .ref a4, .ref a5, .ref a6, .ref a7, .ref a8, .ref a9, .ref a10, .int 0, .int 0, .int 0, .int 0, .int 0, .null, .int 0]))]) (va_A [(a0, .inr (12, [.ref a1, .int 0, .ref a2, .ref a3, .ref a4, .ref a5, .ref a6, .ref a7, .ref a8, .ref a9, .ref a10, .int 0, .int 0, .int 0, .int 0, .int 0, .null, .int 0]))] sz)) 0 0 (va_A [(a0, .inr (12, [.ref a1, .int 0, .ref a2, .ref a3, .ref a4, .ref a5, .ref a6, .ref a7, .ref a8, .ref a9, .ref a10, .int 0, .int 0, .int 0, .int 0, .int 0, .null, .int 0]))] sz) := by
  refine Met.ofW (cc := cX11_wipe) (maxL := 2) (ret := (some .int)) (by decide) rfl ?_
  intro p e s m args below meth c s₁ B hml hv
  obtain ⟨rfl, hsz, hP, hK, hD0⟩ := hv
  have hx := B.exec
  have hb := B.bytes
  have hr := B.returns
  have hts := atoms_spec (ws := fw_f_X11_wipe) B.pre
  have hown : s.vm.findClass RX11 = some m.cls := findClass_of_methodNamed B.named
  have hlocks := B.notSynchronized
  subst hsz
  have hD := hD0.self (sz := s.heap.size)
  generalize hAe : va_A [(a0, .inr (12, [.ref a1, .int 0, .ref a2, .ref a3, .ref a4, .ref a5, .ref a6, .ref a7, .ref a8, .ref a9, .ref a10, .int 0, .int 0, .int 0, .int 0, .int 0, .null, .int 0]))] s.heap.size = A at hD ⊢
  have hA : ∀ q : Nat, s.heap.size ≤ q → A q := fun q h => by rw [← hAe]; exact Or.inr h
  obtain ⟨H, hH⟩ : ∃ z, z = s.heap := ⟨_, rfl⟩
  rw [← hH] at hP
  have hS : va_S A s.heap H [] := by rw [hH]; exact va_S.rf
  have hP : va_P (dC, dI) vwCl [(a0, .inr (12, [.ref a1, .int 0, .ref a2, .ref a3, .ref a4, .ref a5, .ref a6, .ref a7, .ref a8, .ref a9, .ref a10, .int 0, .int 0, .int 0, .int 0, .int 0, .null, .int 0]))] H := hP
  have hl := lv_entry ([.ref a0]) (n := 2) (Nat.le_of_ble_eq_true rfl)
  rw [lg_entry_eq]
  generalize (lg_sl ([.ref a0]) ++ List.replicate (2 - (lg_sl ([.ref a0])).length) Slot.unset).toArray = ls at hl ⊢
  have hl : lv_has ls 2 [(0, .ref a0)] := hl
  rw [← hH]
  refine lv_aload_n hx hb dX11_wipe_0 rfl (lv_at hl 0 rfl) ?_
  refine va_get (D := (dC, dI)) (ci := 12) (v := .int 0) (C := RX11) (T := TX11) (N := 18) hx hb hts in_f_X11_wipe_RX11 hown hK hP 0 rfl rfl 1 (by decide) (hts (.fieldLink RX11 90 "TripleStore" "length" "I") (List.mem_of_getElem? (i := 1) rfl)) (fun _ h9 => h9) rfl dX11_wipe_1 ?_
  refine lv_istore_n (lv' := [(1, .int 0), (0, .ref a0)]) hx hb dX11_wipe_4 rfl hl (by decide) rfl (fun ls hl => ?_)
  refine lv_aload_n hx hb dX11_wipe_5 rfl (lv_at hl 1 rfl) ?_
  refine lv_iconst (v := 0) hx hb dX11_wipe_6 (by decide) ?_
  refine va_put (D := (dC, dI)) (ci := 12) (v := .int 0) (ty := .int) (C := RX11) (T := TX11) (N := 18) hx hb hts in_f_X11_wipe_RX11 tyX11 tyX11_ok nmX11 hown hK hP hD hS 0 rfl rfl 1 (by decide) (hts (.fieldLink RX11 90 "TripleStore" "length" "I") (List.mem_of_getElem? (i := 1) rfl)) (fun _ h9 => h9) rfl (by decide +kernel) rfl rfl (Nat.le_of_ble_eq_true rfl) dX11_wipe_7 (fun H locs hP hD hS => ?_)
  have hP : va_P (dC, dI) vwCl [(a0, .inr (12, [.ref a1, .int 0, .ref a2, .ref a3, .ref a4, .ref a5, .ref a6, .ref a7, .ref a8, .ref a9, .ref a10, .int 0, .int 0, .int 0, .int 0, .int 0, .null, .int 0]))] H := hP
  have hD : va_D A [(a0, .inr (12, [.ref a1, .int 0, .ref a2, .ref a3, .ref a4, .ref a5, .ref a6, .ref a7, .ref a8, .ref a9, .ref a10, .int 0, .int 0, .int 0, .int 0, .int 0, .null, .int 0]))] := hD
  refine lv_iload_n hx hb dX11_wipe_10 rfl (lv_at hl 0 rfl) ?_
  exact W.iret (v := 0) hx hb hr (fun t ht hW => ⟨⟨0, (), rfl, rfl, by rw [ht]; exact hP, va_K.moved hW.alike hK, hD⟩, hS.F ht⟩) hS.2.2 dX11_wipe_11
def fw_f_X11_place : List Cond := .code yX11_place cX11_place 1 (some .int) :: ([.fieldLink RX11 167 "TripleStore" "foundAt" "I"] ++ wsX110)
theorem in_f_X11_place_RX11 : ∀ w ∈ u_ws RX11 TX11 18, w ∈ fw_f_X11_place := fun _ h => List.mem_cons_of_mem _ (List.mem_append_right _ h)
theorem gd_f_X11_place : (fw_f_X11_place).all goodWord = true := by decide +kernel
set_option maxHeartbeats 4000000 in
set_option maxRecDepth 100000 in
theorem f_X11_place (l : Launch) (dC : Nat → ClassId) (dI : Nat → Nat → Nat) (a0 : Nat) (a1 : Nat) (a2 : Nat) (a3 : Nat) (a4 : Nat) (a5 : Nat) (a6 : Nat) (a7 : Nat) (a8 : Nat) (a9 : Nat) (a10 : Nat) (sz : Nat) : Met l yX11_place fw_f_X11_place ({ frames := 1, cells := 0, slots := 0, locals := 20 }) (va_Pc [.ref a0] (fun U => U.heap.size = sz ∧ va_P (dC, dI) vwCl [(a0, .inr (12, [.ref a1, .int 0, .ref a2, .ref a3, .ref a4, .ref a5, .ref a6, .ref a7, .ref a8, .ref a9, .ref a10, .int 0, .int 0, .int 0, .int 0, .int 0, .null, .int 0]))] U.heap ∧ va_K (dC, dI) vwCl [] U ∧ va_D (fun _ => True) [(a0, .inr (12, [.ref a1, .int 0, .ref a2, .ref a3, .ref a4, .ref a5, .ref a6, .ref a7, .ref a8, .ref a9, .ref a10, .int 0, .int 0, .int 0, .int 0, .int 0, .null, .int 0]))])) (va_Qi (fun (r : Int32) (_ : Unit) => r = 0) (fun _ t => va_P (dC, dI) vwCl [(a0, .inr (12, [.ref a1, .int 0, .ref a2, .ref a3, .ref a4, .ref a5, .ref a6, .ref a7, .ref a8, .ref a9, .ref a10, .int 0, .int 0, .int 0, .int 0, .int 0, .null, .int 0]))] t.heap ∧ va_K (dC, dI) vwCl [] t ∧ va_D (va_A [(a0, .inr (12, [.ref a1, .int 0, .ref a2, .ref a3, .ref a4, .ref a5, .ref a6, .ref a7, .ref a8, .ref a9, .ref a10, .int 0, .int 0, .int 0, .int 0, .int 0, .null, .int 0]))] sz) [(a0, .inr (12, [.ref a1, .int 0, .ref a2, .ref a3, .ref a4, .ref a5, .ref a6, .ref a7, .ref a8, .ref a9, .ref a10, .int 0, .int 0, .int 0, .int 0, .int 0, .null, .int 0]))]) (va_A [(a0, .inr (12, [.ref a1, .int 0, .ref a2, .ref a3, .ref a4, .ref a5, .ref a6, .ref a7, .ref a8, .ref a9, .ref a10, .int 0, .int 0, .int 0, .int 0, .int 0, .null, .int 0]))] sz)) 0 0 (va_A [(a0, .inr (12, [.ref a1, .int 0, .ref a2, .ref a3, .ref a4, .ref a5, .ref a6, .ref a7, .ref a8, .ref a9, .ref a10, .int 0, .int 0, .int 0, .int 0, .int 0, .null, .int 0]))] sz) := by
  refine Met.ofW (cc := cX11_place) (maxL := 1) (ret := (some .int)) (by decide) rfl ?_
  intro p e s m args below meth c s₁ B hml hv
  obtain ⟨rfl, hsz, hP, hK, hD0⟩ := hv
  have hx := B.exec
  have hb := B.bytes
  have hr := B.returns
  have hts := atoms_spec (ws := fw_f_X11_place) B.pre
  have hown : s.vm.findClass RX11 = some m.cls := findClass_of_methodNamed B.named
  have hlocks := B.notSynchronized
  subst hsz
  have hD := hD0.self (sz := s.heap.size)
  generalize hAe : va_A [(a0, .inr (12, [.ref a1, .int 0, .ref a2, .ref a3, .ref a4, .ref a5, .ref a6, .ref a7, .ref a8, .ref a9, .ref a10, .int 0, .int 0, .int 0, .int 0, .int 0, .null, .int 0]))] s.heap.size = A at hD ⊢
  have hA : ∀ q : Nat, s.heap.size ≤ q → A q := fun q h => by rw [← hAe]; exact Or.inr h
  obtain ⟨H, hH⟩ : ∃ z, z = s.heap := ⟨_, rfl⟩
  rw [← hH] at hP
  have hS : va_S A s.heap H [] := by rw [hH]; exact va_S.rf
  have hP : va_P (dC, dI) vwCl [(a0, .inr (12, [.ref a1, .int 0, .ref a2, .ref a3, .ref a4, .ref a5, .ref a6, .ref a7, .ref a8, .ref a9, .ref a10, .int 0, .int 0, .int 0, .int 0, .int 0, .null, .int 0]))] H := hP
  have hl := lv_entry ([.ref a0]) (n := 1) (Nat.le_of_ble_eq_true rfl)
  rw [lg_entry_eq]
  generalize (lg_sl ([.ref a0]) ++ List.replicate (1 - (lg_sl ([.ref a0])).length) Slot.unset).toArray = ls at hl ⊢
  have hl : lv_has ls 1 [(0, .ref a0)] := hl
  rw [← hH]
  refine lv_aload_n hx hb dX11_place_0 rfl (lv_at hl 0 rfl) ?_
  refine va_get (D := (dC, dI)) (ci := 12) (v := .int 0) (C := RX11) (T := TX11) (N := 18) hx hb hts in_f_X11_place_RX11 hown hK hP 0 rfl rfl 12 (by decide) (hts (.fieldLink RX11 167 "TripleStore" "foundAt" "I") (List.mem_of_getElem? (i := 1) rfl)) (fun _ h9 => h9) rfl dX11_place_1 ?_
  exact W.iret (v := 0) hx hb hr (fun t ht hW => ⟨⟨0, (), rfl, rfl, by rw [ht]; exact hP, va_K.moved hW.alike hK, hD⟩, hS.F ht⟩) hS.2.2 dX11_place_4
def fw_f_X11_rows : List Cond := .code yX11_rows cX11_rows 1 (some .int) :: ([.fieldLink RX11 98 "TripleStore" "shownRows" "I"] ++ wsX110)
theorem in_f_X11_rows_RX11 : ∀ w ∈ u_ws RX11 TX11 18, w ∈ fw_f_X11_rows := fun _ h => List.mem_cons_of_mem _ (List.mem_append_right _ h)
theorem gd_f_X11_rows : (fw_f_X11_rows).all goodWord = true := by decide +kernel
set_option maxHeartbeats 4000000 in
set_option maxRecDepth 100000 in
theorem f_X11_rows (l : Launch) (dC : Nat → ClassId) (dI : Nat → Nat → Nat) (a0 : Nat) (a1 : Nat) (a2 : Nat) (a3 : Nat) (a4 : Nat) (a5 : Nat) (a6 : Nat) (a7 : Nat) (a8 : Nat) (a9 : Nat) (a10 : Nat) (sz : Nat) : Met l yX11_rows fw_f_X11_rows ({ frames := 1, cells := 0, slots := 0, locals := 20 }) (va_Pc [.ref a0] (fun U => U.heap.size = sz ∧ va_P (dC, dI) vwCl [(a0, .inr (12, [.ref a1, .int 0, .ref a2, .ref a3, .ref a4, .ref a5, .ref a6, .ref a7, .ref a8, .ref a9, .ref a10, .int 0, .int 0, .int 0, .int 0, .int 0, .null, .int 0]))] U.heap ∧ va_K (dC, dI) vwCl [] U ∧ va_D (fun _ => True) [(a0, .inr (12, [.ref a1, .int 0, .ref a2, .ref a3, .ref a4, .ref a5, .ref a6, .ref a7, .ref a8, .ref a9, .ref a10, .int 0, .int 0, .int 0, .int 0, .int 0, .null, .int 0]))])) (va_Qi (fun (r : Int32) (_ : Unit) => r = 0) (fun _ t => va_P (dC, dI) vwCl [(a0, .inr (12, [.ref a1, .int 0, .ref a2, .ref a3, .ref a4, .ref a5, .ref a6, .ref a7, .ref a8, .ref a9, .ref a10, .int 0, .int 0, .int 0, .int 0, .int 0, .null, .int 0]))] t.heap ∧ va_K (dC, dI) vwCl [] t ∧ va_D (va_A [(a0, .inr (12, [.ref a1, .int 0, .ref a2, .ref a3, .ref a4, .ref a5, .ref a6, .ref a7, .ref a8, .ref a9, .ref a10, .int 0, .int 0, .int 0, .int 0, .int 0, .null, .int 0]))] sz) [(a0, .inr (12, [.ref a1, .int 0, .ref a2, .ref a3, .ref a4, .ref a5, .ref a6, .ref a7, .ref a8, .ref a9, .ref a10, .int 0, .int 0, .int 0, .int 0, .int 0, .null, .int 0]))]) (va_A [(a0, .inr (12, [.ref a1, .int 0, .ref a2, .ref a3, .ref a4, .ref a5, .ref a6, .ref a7, .ref a8, .ref a9, .ref a10, .int 0, .int 0, .int 0, .int 0, .int 0, .null, .int 0]))] sz)) 0 0 (va_A [(a0, .inr (12, [.ref a1, .int 0, .ref a2, .ref a3, .ref a4, .ref a5, .ref a6, .ref a7, .ref a8, .ref a9, .ref a10, .int 0, .int 0, .int 0, .int 0, .int 0, .null, .int 0]))] sz) := by
  refine Met.ofW (cc := cX11_rows) (maxL := 1) (ret := (some .int)) (by decide) rfl ?_
  intro p e s m args below meth c s₁ B hml hv
  obtain ⟨rfl, hsz, hP, hK, hD0⟩ := hv
  have hx := B.exec
  have hb := B.bytes
  have hr := B.returns
  have hts := atoms_spec (ws := fw_f_X11_rows) B.pre
  have hown : s.vm.findClass RX11 = some m.cls := findClass_of_methodNamed B.named
  have hlocks := B.notSynchronized
  subst hsz
  have hD := hD0.self (sz := s.heap.size)
  generalize hAe : va_A [(a0, .inr (12, [.ref a1, .int 0, .ref a2, .ref a3, .ref a4, .ref a5, .ref a6, .ref a7, .ref a8, .ref a9, .ref a10, .int 0, .int 0, .int 0, .int 0, .int 0, .null, .int 0]))] s.heap.size = A at hD ⊢
  have hA : ∀ q : Nat, s.heap.size ≤ q → A q := fun q h => by rw [← hAe]; exact Or.inr h
  obtain ⟨H, hH⟩ : ∃ z, z = s.heap := ⟨_, rfl⟩
  rw [← hH] at hP
  have hS : va_S A s.heap H [] := by rw [hH]; exact va_S.rf
  have hP : va_P (dC, dI) vwCl [(a0, .inr (12, [.ref a1, .int 0, .ref a2, .ref a3, .ref a4, .ref a5, .ref a6, .ref a7, .ref a8, .ref a9, .ref a10, .int 0, .int 0, .int 0, .int 0, .int 0, .null, .int 0]))] H := hP
  have hl := lv_entry ([.ref a0]) (n := 1) (Nat.le_of_ble_eq_true rfl)
  rw [lg_entry_eq]
  generalize (lg_sl ([.ref a0]) ++ List.replicate (1 - (lg_sl ([.ref a0])).length) Slot.unset).toArray = ls at hl ⊢
  have hl : lv_has ls 1 [(0, .ref a0)] := hl
  rw [← hH]
  refine lv_aload_n hx hb dX11_rows_0 rfl (lv_at hl 0 rfl) ?_
  refine va_get (D := (dC, dI)) (ci := 12) (v := .int 0) (C := RX11) (T := TX11) (N := 18) hx hb hts in_f_X11_rows_RX11 hown hK hP 0 rfl rfl 17 (by decide) (hts (.fieldLink RX11 98 "TripleStore" "shownRows" "I") (List.mem_of_getElem? (i := 1) rfl)) (fun _ h9 => h9) rfl dX11_rows_1 ?_
  exact W.iret (v := 0) hx hb hr (fun t ht hW => ⟨⟨0, (), rfl, rfl, by rw [ht]; exact hP, va_K.moved hW.alike hK, hD⟩, hS.F ht⟩) hS.2.2 dX11_rows_4
def fw_f_X11_columns : List Cond := .code yX11_columns cX11_columns 1 (some .int) :: ([.fieldLink RX11 94 "TripleStore" "shown" "LTripleStore$Node;"] ++ wsX110)
theorem in_f_X11_columns_RX11 : ∀ w ∈ u_ws RX11 TX11 18, w ∈ fw_f_X11_columns := fun _ h => List.mem_cons_of_mem _ (List.mem_append_right _ h)
theorem gd_f_X11_columns : (fw_f_X11_columns).all goodWord = true := by decide +kernel
set_option maxHeartbeats 4000000 in
set_option maxRecDepth 100000 in
theorem f_X11_columns (l : Launch) (dC : Nat → ClassId) (dI : Nat → Nat → Nat) (a0 : Nat) (a1 : Nat) (a2 : Nat) (a3 : Nat) (a4 : Nat) (a5 : Nat) (a6 : Nat) (a7 : Nat) (a8 : Nat) (a9 : Nat) (a10 : Nat) (sz : Nat) : Met l yX11_columns fw_f_X11_columns ({ frames := 1, cells := 0, slots := 0, locals := 20 }) (va_Pc [.ref a0] (fun U => U.heap.size = sz ∧ va_P (dC, dI) vwCl [(a0, .inr (12, [.ref a1, .int 0, .ref a2, .ref a3, .ref a4, .ref a5, .ref a6, .ref a7, .ref a8, .ref a9, .ref a10, .int 0, .int 0, .int 0, .int 0, .int 0, .null, .int 0]))] U.heap ∧ va_K (dC, dI) vwCl [] U ∧ va_D (fun _ => True) [(a0, .inr (12, [.ref a1, .int 0, .ref a2, .ref a3, .ref a4, .ref a5, .ref a6, .ref a7, .ref a8, .ref a9, .ref a10, .int 0, .int 0, .int 0, .int 0, .int 0, .null, .int 0]))])) (va_Qi (fun (r : Int32) (_ : Unit) => r = 0) (fun _ t => va_P (dC, dI) vwCl [(a0, .inr (12, [.ref a1, .int 0, .ref a2, .ref a3, .ref a4, .ref a5, .ref a6, .ref a7, .ref a8, .ref a9, .ref a10, .int 0, .int 0, .int 0, .int 0, .int 0, .null, .int 0]))] t.heap ∧ va_K (dC, dI) vwCl [] t ∧ va_D (va_A [(a0, .inr (12, [.ref a1, .int 0, .ref a2, .ref a3, .ref a4, .ref a5, .ref a6, .ref a7, .ref a8, .ref a9, .ref a10, .int 0, .int 0, .int 0, .int 0, .int 0, .null, .int 0]))] sz) [(a0, .inr (12, [.ref a1, .int 0, .ref a2, .ref a3, .ref a4, .ref a5, .ref a6, .ref a7, .ref a8, .ref a9, .ref a10, .int 0, .int 0, .int 0, .int 0, .int 0, .null, .int 0]))]) (va_A [(a0, .inr (12, [.ref a1, .int 0, .ref a2, .ref a3, .ref a4, .ref a5, .ref a6, .ref a7, .ref a8, .ref a9, .ref a10, .int 0, .int 0, .int 0, .int 0, .int 0, .null, .int 0]))] sz)) 0 0 (va_A [(a0, .inr (12, [.ref a1, .int 0, .ref a2, .ref a3, .ref a4, .ref a5, .ref a6, .ref a7, .ref a8, .ref a9, .ref a10, .int 0, .int 0, .int 0, .int 0, .int 0, .null, .int 0]))] sz) := by
  refine Met.ofW (cc := cX11_columns) (maxL := 1) (ret := (some .int)) (by decide) rfl ?_
  intro p e s m args below meth c s₁ B hml hv
  obtain ⟨rfl, hsz, hP, hK, hD0⟩ := hv
  have hx := B.exec
  have hb := B.bytes
  have hr := B.returns
  have hts := atoms_spec (ws := fw_f_X11_columns) B.pre
  have hown : s.vm.findClass RX11 = some m.cls := findClass_of_methodNamed B.named
  have hlocks := B.notSynchronized
  subst hsz
  have hD := hD0.self (sz := s.heap.size)
  generalize hAe : va_A [(a0, .inr (12, [.ref a1, .int 0, .ref a2, .ref a3, .ref a4, .ref a5, .ref a6, .ref a7, .ref a8, .ref a9, .ref a10, .int 0, .int 0, .int 0, .int 0, .int 0, .null, .int 0]))] s.heap.size = A at hD ⊢
  have hA : ∀ q : Nat, s.heap.size ≤ q → A q := fun q h => by rw [← hAe]; exact Or.inr h
  obtain ⟨H, hH⟩ : ∃ z, z = s.heap := ⟨_, rfl⟩
  rw [← hH] at hP
  have hS : va_S A s.heap H [] := by rw [hH]; exact va_S.rf
  have hP : va_P (dC, dI) vwCl [(a0, .inr (12, [.ref a1, .int 0, .ref a2, .ref a3, .ref a4, .ref a5, .ref a6, .ref a7, .ref a8, .ref a9, .ref a10, .int 0, .int 0, .int 0, .int 0, .int 0, .null, .int 0]))] H := hP
  have hl := lv_entry ([.ref a0]) (n := 1) (Nat.le_of_ble_eq_true rfl)
  rw [lg_entry_eq]
  generalize (lg_sl ([.ref a0]) ++ List.replicate (1 - (lg_sl ([.ref a0])).length) Slot.unset).toArray = ls at hl ⊢
  have hl : lv_has ls 1 [(0, .ref a0)] := hl
  rw [← hH]
  refine lv_aload_n hx hb dX11_columns_0 rfl (lv_at hl 0 rfl) ?_
  refine va_get (D := (dC, dI)) (ci := 12) (v := .null) (C := RX11) (T := TX11) (N := 18) hx hb hts in_f_X11_columns_RX11 hown hK hP 0 rfl rfl 16 (by decide) (hts (.fieldLink RX11 94 "TripleStore" "shown" "LTripleStore$Node;") (List.mem_of_getElem? (i := 1) rfl)) (fun _ h9 => h9) rfl dX11_columns_1 ?_
  refine lv_ifnonnullN hx hb dX11_columns_4 ?_
  refine lv_iconst (v := 0) hx hb dX11_columns_7 (by decide) ?_
  refine lv_goto (tgt := 18) hx hb dX11_columns_8 (by decide) ?_
  exact W.iret (v := 0) hx hb hr (fun t ht hW => ⟨⟨0, (), rfl, rfl, by rw [ht]; exact hP, va_K.moved hW.alike hK, hD⟩, hS.F ht⟩) hS.2.2 dX11_columns_18
def fw_f_X11_cell : List Cond := .code yX11_cell cX11_cell 3 (some .int) :: ([.fieldLink RX11 94 "TripleStore" "shown" "LTripleStore$Node;"] ++ wsX110)
theorem in_f_X11_cell_RX11 : ∀ w ∈ u_ws RX11 TX11 18, w ∈ fw_f_X11_cell := fun _ h => List.mem_cons_of_mem _ (List.mem_append_right _ h)
theorem gd_f_X11_cell : (fw_f_X11_cell).all goodWord = true := by decide +kernel
set_option maxHeartbeats 4000000 in
set_option maxRecDepth 100000 in
theorem f_X11_cell (l : Launch) (dC : Nat → ClassId) (dI : Nat → Nat → Nat) (a0 : Nat) (a1 : Nat) (a2 : Nat) (a3 : Nat) (a4 : Nat) (a5 : Nat) (a6 : Nat) (a7 : Nat) (a8 : Nat) (a9 : Nat) (a10 : Nat) (x0 : Int32) (x1 : Int32) (sz : Nat) : Met l yX11_cell fw_f_X11_cell ({ frames := 1, cells := 0, slots := 0, locals := 20 }) (va_Pc [.ref a0, .int x0, .int x1] (fun U => U.heap.size = sz ∧ va_P (dC, dI) vwCl [(a0, .inr (12, [.ref a1, .int 0, .ref a2, .ref a3, .ref a4, .ref a5, .ref a6, .ref a7, .ref a8, .ref a9, .ref a10, .int 0, .int 0, .int 0, .int 0, .int 0, .null, .int 0]))] U.heap ∧ va_K (dC, dI) vwCl [] U ∧ va_D (fun _ => True) [(a0, .inr (12, [.ref a1, .int 0, .ref a2, .ref a3, .ref a4, .ref a5, .ref a6, .ref a7, .ref a8, .ref a9, .ref a10, .int 0, .int 0, .int 0, .int 0, .int 0, .null, .int 0]))])) (va_Qi (fun (r : Int32) (_ : Unit) => r = (-1)) (fun _ t => va_P (dC, dI) vwCl [(a0, .inr (12, [.ref a1, .int 0, .ref a2, .ref a3, .ref a4, .ref a5, .ref a6, .ref a7, .ref a8, .ref a9, .ref a10, .int 0, .int 0, .int 0, .int 0, .int 0, .null, .int 0]))] t.heap ∧ va_K (dC, dI) vwCl [] t ∧ va_D (va_A [(a0, .inr (12, [.ref a1, .int 0, .ref a2, .ref a3, .ref a4, .ref a5, .ref a6, .ref a7, .ref a8, .ref a9, .ref a10, .int 0, .int 0, .int 0, .int 0, .int 0, .null, .int 0]))] sz) [(a0, .inr (12, [.ref a1, .int 0, .ref a2, .ref a3, .ref a4, .ref a5, .ref a6, .ref a7, .ref a8, .ref a9, .ref a10, .int 0, .int 0, .int 0, .int 0, .int 0, .null, .int 0]))]) (va_A [(a0, .inr (12, [.ref a1, .int 0, .ref a2, .ref a3, .ref a4, .ref a5, .ref a6, .ref a7, .ref a8, .ref a9, .ref a10, .int 0, .int 0, .int 0, .int 0, .int 0, .null, .int 0]))] sz)) 0 0 (va_A [(a0, .inr (12, [.ref a1, .int 0, .ref a2, .ref a3, .ref a4, .ref a5, .ref a6, .ref a7, .ref a8, .ref a9, .ref a10, .int 0, .int 0, .int 0, .int 0, .int 0, .null, .int 0]))] sz) := by
  refine Met.ofW (cc := cX11_cell) (maxL := 3) (ret := (some .int)) (by decide) rfl ?_
  intro p e s m args below meth c s₁ B hml hv
  obtain ⟨rfl, hsz, hP, hK, hD0⟩ := hv
  have hx := B.exec
  have hb := B.bytes
  have hr := B.returns
  have hts := atoms_spec (ws := fw_f_X11_cell) B.pre
  have hown : s.vm.findClass RX11 = some m.cls := findClass_of_methodNamed B.named
  have hlocks := B.notSynchronized
  subst hsz
  have hD := hD0.self (sz := s.heap.size)
  generalize hAe : va_A [(a0, .inr (12, [.ref a1, .int 0, .ref a2, .ref a3, .ref a4, .ref a5, .ref a6, .ref a7, .ref a8, .ref a9, .ref a10, .int 0, .int 0, .int 0, .int 0, .int 0, .null, .int 0]))] s.heap.size = A at hD ⊢
  have hA : ∀ q : Nat, s.heap.size ≤ q → A q := fun q h => by rw [← hAe]; exact Or.inr h
  obtain ⟨H, hH⟩ : ∃ z, z = s.heap := ⟨_, rfl⟩
  rw [← hH] at hP
  have hS : va_S A s.heap H [] := by rw [hH]; exact va_S.rf
  have hP : va_P (dC, dI) vwCl [(a0, .inr (12, [.ref a1, .int 0, .ref a2, .ref a3, .ref a4, .ref a5, .ref a6, .ref a7, .ref a8, .ref a9, .ref a10, .int 0, .int 0, .int 0, .int 0, .int 0, .null, .int 0]))] H := hP
  have hl := lv_entry ([.ref a0, .int x0, .int x1]) (n := 3) (Nat.le_of_ble_eq_true rfl)
  rw [lg_entry_eq]
  generalize (lg_sl ([.ref a0, .int x0, .int x1]) ++ List.replicate (3 - (lg_sl ([.ref a0, .int x0, .int x1])).length) Slot.unset).toArray = ls at hl ⊢
  have hl : lv_has ls 3 [(0, .ref a0), (1, .int x0), (2, .int x1)] := hl
  rw [← hH]
  refine lv_aload_n hx hb dX11_cell_0 rfl (lv_at hl 0 rfl) ?_
  refine va_get (D := (dC, dI)) (ci := 12) (v := .null) (C := RX11) (T := TX11) (N := 18) hx hb hts in_f_X11_cell_RX11 hown hK hP 0 rfl rfl 16 (by decide) (hts (.fieldLink RX11 94 "TripleStore" "shown" "LTripleStore$Node;") (List.mem_of_getElem? (i := 1) rfl)) (fun _ h9 => h9) rfl dX11_cell_1 ?_
  refine lv_ifnullN (tgt := 34) hx hb dX11_cell_4 (by decide) ?_
  refine lv_iconst (v := (-1)) hx hb dX11_cell_34 (by decide) ?_
  exact W.iret (v := (-1)) hx hb hr (fun t ht hW => ⟨⟨(-1), (), rfl, rfl, by rw [ht]; exact hP, va_K.moved hW.alike hK, hD⟩, hS.F ht⟩) hS.2.2 dX11_cell_35
def fw_f_X11_column : List Cond := .code yX11_column cX11_column 2 (some .int) :: ([.fieldLink RX11 94 "TripleStore" "shown" "LTripleStore$Node;"] ++ wsX110)
theorem in_f_X11_column_RX11 : ∀ w ∈ u_ws RX11 TX11 18, w ∈ fw_f_X11_column := fun _ h => List.mem_cons_of_mem _ (List.mem_append_right _ h)
theorem gd_f_X11_column : (fw_f_X11_column).all goodWord = true := by decide +kernel
set_option maxHeartbeats 4000000 in
set_option maxRecDepth 100000 in
theorem f_X11_column (l : Launch) (dC : Nat → ClassId) (dI : Nat → Nat → Nat) (a0 : Nat) (a1 : Nat) (a2 : Nat) (a3 : Nat) (a4 : Nat) (a5 : Nat) (a6 : Nat) (a7 : Nat) (a8 : Nat) (a9 : Nat) (a10 : Nat) (x0 : Int32) (sz : Nat) : Met l yX11_column fw_f_X11_column ({ frames := 1, cells := 0, slots := 0, locals := 20 }) (va_Pc [.ref a0, .int x0] (fun U => U.heap.size = sz ∧ va_P (dC, dI) vwCl [(a0, .inr (12, [.ref a1, .int 0, .ref a2, .ref a3, .ref a4, .ref a5, .ref a6, .ref a7, .ref a8, .ref a9, .ref a10, .int 0, .int 0, .int 0, .int 0, .int 0, .null, .int 0]))] U.heap ∧ va_K (dC, dI) vwCl [] U ∧ va_D (fun _ => True) [(a0, .inr (12, [.ref a1, .int 0, .ref a2, .ref a3, .ref a4, .ref a5, .ref a6, .ref a7, .ref a8, .ref a9, .ref a10, .int 0, .int 0, .int 0, .int 0, .int 0, .null, .int 0]))])) (va_Qi (fun (r : Int32) (_ : Unit) => r = (-1)) (fun _ t => va_P (dC, dI) vwCl [(a0, .inr (12, [.ref a1, .int 0, .ref a2, .ref a3, .ref a4, .ref a5, .ref a6, .ref a7, .ref a8, .ref a9, .ref a10, .int 0, .int 0, .int 0, .int 0, .int 0, .null, .int 0]))] t.heap ∧ va_K (dC, dI) vwCl [] t ∧ va_D (va_A [(a0, .inr (12, [.ref a1, .int 0, .ref a2, .ref a3, .ref a4, .ref a5, .ref a6, .ref a7, .ref a8, .ref a9, .ref a10, .int 0, .int 0, .int 0, .int 0, .int 0, .null, .int 0]))] sz) [(a0, .inr (12, [.ref a1, .int 0, .ref a2, .ref a3, .ref a4, .ref a5, .ref a6, .ref a7, .ref a8, .ref a9, .ref a10, .int 0, .int 0, .int 0, .int 0, .int 0, .null, .int 0]))]) (va_A [(a0, .inr (12, [.ref a1, .int 0, .ref a2, .ref a3, .ref a4, .ref a5, .ref a6, .ref a7, .ref a8, .ref a9, .ref a10, .int 0, .int 0, .int 0, .int 0, .int 0, .null, .int 0]))] sz)) 0 0 (va_A [(a0, .inr (12, [.ref a1, .int 0, .ref a2, .ref a3, .ref a4, .ref a5, .ref a6, .ref a7, .ref a8, .ref a9, .ref a10, .int 0, .int 0, .int 0, .int 0, .int 0, .null, .int 0]))] sz) := by
  refine Met.ofW (cc := cX11_column) (maxL := 2) (ret := (some .int)) (by decide) rfl ?_
  intro p e s m args below meth c s₁ B hml hv
  obtain ⟨rfl, hsz, hP, hK, hD0⟩ := hv
  have hx := B.exec
  have hb := B.bytes
  have hr := B.returns
  have hts := atoms_spec (ws := fw_f_X11_column) B.pre
  have hown : s.vm.findClass RX11 = some m.cls := findClass_of_methodNamed B.named
  have hlocks := B.notSynchronized
  subst hsz
  have hD := hD0.self (sz := s.heap.size)
  generalize hAe : va_A [(a0, .inr (12, [.ref a1, .int 0, .ref a2, .ref a3, .ref a4, .ref a5, .ref a6, .ref a7, .ref a8, .ref a9, .ref a10, .int 0, .int 0, .int 0, .int 0, .int 0, .null, .int 0]))] s.heap.size = A at hD ⊢
  have hA : ∀ q : Nat, s.heap.size ≤ q → A q := fun q h => by rw [← hAe]; exact Or.inr h
  obtain ⟨H, hH⟩ : ∃ z, z = s.heap := ⟨_, rfl⟩
  rw [← hH] at hP
  have hS : va_S A s.heap H [] := by rw [hH]; exact va_S.rf
  have hP : va_P (dC, dI) vwCl [(a0, .inr (12, [.ref a1, .int 0, .ref a2, .ref a3, .ref a4, .ref a5, .ref a6, .ref a7, .ref a8, .ref a9, .ref a10, .int 0, .int 0, .int 0, .int 0, .int 0, .null, .int 0]))] H := hP
  have hl := lv_entry ([.ref a0, .int x0]) (n := 2) (Nat.le_of_ble_eq_true rfl)
  rw [lg_entry_eq]
  generalize (lg_sl ([.ref a0, .int x0]) ++ List.replicate (2 - (lg_sl ([.ref a0, .int x0])).length) Slot.unset).toArray = ls at hl ⊢
  have hl : lv_has ls 2 [(0, .ref a0), (1, .int x0)] := hl
  rw [← hH]
  refine lv_aload_n hx hb dX11_column_0 rfl (lv_at hl 0 rfl) ?_
  refine va_get (D := (dC, dI)) (ci := 12) (v := .null) (C := RX11) (T := TX11) (N := 18) hx hb hts in_f_X11_column_RX11 hown hK hP 0 rfl rfl 16 (by decide) (hts (.fieldLink RX11 94 "TripleStore" "shown" "LTripleStore$Node;") (List.mem_of_getElem? (i := 1) rfl)) (fun _ h9 => h9) rfl dX11_column_1 ?_
  refine lv_ifnullN (tgt := 22) hx hb dX11_column_4 (by decide) ?_
  refine lv_iconst (v := (-1)) hx hb dX11_column_22 (by decide) ?_
  exact W.iret (v := (-1)) hx hb hr (fun t ht hW => ⟨⟨(-1), (), rfl, rfl, by rw [ht]; exact hP, va_K.moved hW.alike hK, hD⟩, hS.F ht⟩) hS.2.2 dX11_column_23
def fw_f_X11_written : List Cond := .code yX11_written cX11_written 2 (some .int) :: ([.fieldLink RX11 184 "TripleStore" "buffered" "I"] ++ wsX110)
theorem in_f_X11_written_RX11 : ∀ w ∈ u_ws RX11 TX11 18, w ∈ fw_f_X11_written := fun _ h => List.mem_cons_of_mem _ (List.mem_append_right _ h)
theorem gd_f_X11_written : (fw_f_X11_written).all goodWord = true := by decide +kernel
set_option maxHeartbeats 4000000 in
set_option maxRecDepth 100000 in
theorem f_X11_written (l : Launch) (dC : Nat → ClassId) (dI : Nat → Nat → Nat) (a0 : Nat) (a1 : Nat) (a2 : Nat) (a3 : Nat) (a4 : Nat) (a5 : Nat) (a6 : Nat) (a7 : Nat) (a8 : Nat) (a9 : Nat) (a10 : Nat) (x0 : Int32) (sz : Nat) : Met l yX11_written fw_f_X11_written ({ frames := 1, cells := 0, slots := 0, locals := 20 }) (va_Pc [.ref a0, .int x0] (fun U => U.heap.size = sz ∧ va_P (dC, dI) vwCl [(a0, .inr (12, [.ref a1, .int 0, .ref a2, .ref a3, .ref a4, .ref a5, .ref a6, .ref a7, .ref a8, .ref a9, .ref a10, .int 0, .int 0, .int 0, .int 0, .int 0, .null, .int 0]))] U.heap ∧ va_K (dC, dI) vwCl [] U ∧ va_D (fun _ => True) [(a0, .inr (12, [.ref a1, .int 0, .ref a2, .ref a3, .ref a4, .ref a5, .ref a6, .ref a7, .ref a8, .ref a9, .ref a10, .int 0, .int 0, .int 0, .int 0, .int 0, .null, .int 0]))])) (va_Qi (fun (r : Int32) (_ : Unit) => r = -1) (fun _ _ => True) (va_A [(a0, .inr (12, [.ref a1, .int 0, .ref a2, .ref a3, .ref a4, .ref a5, .ref a6, .ref a7, .ref a8, .ref a9, .ref a10, .int 0, .int 0, .int 0, .int 0, .int 0, .null, .int 0]))] sz)) 0 0 (va_A [(a0, .inr (12, [.ref a1, .int 0, .ref a2, .ref a3, .ref a4, .ref a5, .ref a6, .ref a7, .ref a8, .ref a9, .ref a10, .int 0, .int 0, .int 0, .int 0, .int 0, .null, .int 0]))] sz) := by
  refine Met.ofW (cc := cX11_written) (maxL := 2) (ret := (some .int)) (by decide) rfl ?_
  intro p e s m args below meth c s₁ B hml hv
  obtain ⟨rfl, hsz, hP, hK, hD0⟩ := hv
  have hx := B.exec
  have hb := B.bytes
  have hr := B.returns
  have hts := atoms_spec (ws := fw_f_X11_written) B.pre
  have hown : s.vm.findClass RX11 = some m.cls := findClass_of_methodNamed B.named
  have hlocks := B.notSynchronized
  subst hsz
  have hD := hD0.self (sz := s.heap.size)
  generalize hAe : va_A [(a0, .inr (12, [.ref a1, .int 0, .ref a2, .ref a3, .ref a4, .ref a5, .ref a6, .ref a7, .ref a8, .ref a9, .ref a10, .int 0, .int 0, .int 0, .int 0, .int 0, .null, .int 0]))] s.heap.size = A at hD ⊢
  have hA : ∀ q : Nat, s.heap.size ≤ q → A q := fun q h => by rw [← hAe]; exact Or.inr h
  obtain ⟨H, hH⟩ : ∃ z, z = s.heap := ⟨_, rfl⟩
  rw [← hH] at hP
  have hS : va_S A s.heap H [] := by rw [hH]; exact va_S.rf
  have hP : va_P (dC, dI) vwCl [(a0, .inr (12, [.ref a1, .int 0, .ref a2, .ref a3, .ref a4, .ref a5, .ref a6, .ref a7, .ref a8, .ref a9, .ref a10, .int 0, .int 0, .int 0, .int 0, .int 0, .null, .int 0]))] H := hP
  have hl := lv_entry ([.ref a0, .int x0]) (n := 2) (Nat.le_of_ble_eq_true rfl)
  rw [lg_entry_eq]
  generalize (lg_sl ([.ref a0, .int x0]) ++ List.replicate (2 - (lg_sl ([.ref a0, .int x0])).length) Slot.unset).toArray = ls at hl ⊢
  have hl : lv_has ls 2 [(0, .ref a0), (1, .int x0)] := hl
  rw [← hH]
  refine lv_iload_n hx hb dX11_written_0 rfl (lv_at hl 1 rfl) ?_
  refine lv_if_lt (tgt := 28) hx hb dX11_written_1 (by decide) (fun c_1 => ?_) (fun c_1 => ?_)
  · refine lv_iconst (v := (-1)) hx hb dX11_written_28 (by decide) ?_
    refine W.widen (k := 0) (n := 0) (Nat.le_of_ble_eq_true rfl) (Nat.le_of_ble_eq_true rfl) ?_
    exact W.iret (v := (-1)) hx hb hr (fun t ht hW => ⟨⟨(-1), (), rfl, rfl, trivial⟩, hS.F ht⟩) hS.2.2 dX11_written_29
  · refine lv_iload_n hx hb dX11_written_4 rfl (lv_at hl 1 rfl) ?_
    refine lv_aload_n hx hb dX11_written_5 rfl (lv_at hl 0 rfl) ?_
    refine va_get (D := (dC, dI)) (ci := 12) (v := .int 0) (C := RX11) (T := TX11) (N := 18) hx hb hts in_f_X11_written_RX11 hown hK hP 0 rfl rfl 11 (by decide) (hts (.fieldLink RX11 184 "TripleStore" "buffered" "I") (List.mem_of_getElem? (i := 1) rfl)) (fun _ h9 => h9) rfl dX11_written_6 ?_
    refine lv_icmp_ge (tgt := 28) hx hb dX11_written_9 (by decide) (fun c_9 => ?_) (fun c_9 => ?_)
    · refine lv_iconst (v := (-1)) hx hb dX11_written_28 (by decide) ?_
      refine W.widen (k := 0) (n := 0) (Nat.le_of_ble_eq_true rfl) (Nat.le_of_ble_eq_true rfl) ?_
      exact W.iret (v := (-1)) hx hb hr (fun t ht hW => ⟨⟨(-1), (), rfl, rfl, trivial⟩, hS.F ht⟩) hS.2.2 dX11_written_29
    · exact absurd (Int32.not_lt.mp c_1) c_9
def fw_f_X11_made : List Cond := .code yX11_made cX11_made 1 (some .int) :: ([.fieldLink RX11 190 "TripleStore" "madeLately" "I"] ++ wsX110)
theorem in_f_X11_made_RX11 : ∀ w ∈ u_ws RX11 TX11 18, w ∈ fw_f_X11_made := fun _ h => List.mem_cons_of_mem _ (List.mem_append_right _ h)
theorem gd_f_X11_made : (fw_f_X11_made).all goodWord = true := by decide +kernel
set_option maxHeartbeats 4000000 in
set_option maxRecDepth 100000 in
theorem f_X11_made (l : Launch) (dC : Nat → ClassId) (dI : Nat → Nat → Nat) (a0 : Nat) (a1 : Nat) (a2 : Nat) (a3 : Nat) (a4 : Nat) (a5 : Nat) (a6 : Nat) (a7 : Nat) (a8 : Nat) (a9 : Nat) (a10 : Nat) (sz : Nat) : Met l yX11_made fw_f_X11_made ({ frames := 1, cells := 0, slots := 0, locals := 20 }) (va_Pc [.ref a0] (fun U => U.heap.size = sz ∧ va_P (dC, dI) vwCl [(a0, .inr (12, [.ref a1, .int 0, .ref a2, .ref a3, .ref a4, .ref a5, .ref a6, .ref a7, .ref a8, .ref a9, .ref a10, .int 0, .int 0, .int 0, .int 0, .int 0, .null, .int 0]))] U.heap ∧ va_K (dC, dI) vwCl [] U ∧ va_D (fun _ => True) [(a0, .inr (12, [.ref a1, .int 0, .ref a2, .ref a3, .ref a4, .ref a5, .ref a6, .ref a7, .ref a8, .ref a9, .ref a10, .int 0, .int 0, .int 0, .int 0, .int 0, .null, .int 0]))])) (va_Qi (fun (r : Int32) (_ : Unit) => r = 0) (fun _ t => va_P (dC, dI) vwCl [(a0, .inr (12, [.ref a1, .int 0, .ref a2, .ref a3, .ref a4, .ref a5, .ref a6, .ref a7, .ref a8, .ref a9, .ref a10, .int 0, .int 0, .int 0, .int 0, .int 0, .null, .int 0]))] t.heap ∧ va_K (dC, dI) vwCl [] t ∧ va_D (va_A [(a0, .inr (12, [.ref a1, .int 0, .ref a2, .ref a3, .ref a4, .ref a5, .ref a6, .ref a7, .ref a8, .ref a9, .ref a10, .int 0, .int 0, .int 0, .int 0, .int 0, .null, .int 0]))] sz) [(a0, .inr (12, [.ref a1, .int 0, .ref a2, .ref a3, .ref a4, .ref a5, .ref a6, .ref a7, .ref a8, .ref a9, .ref a10, .int 0, .int 0, .int 0, .int 0, .int 0, .null, .int 0]))]) (va_A [(a0, .inr (12, [.ref a1, .int 0, .ref a2, .ref a3, .ref a4, .ref a5, .ref a6, .ref a7, .ref a8, .ref a9, .ref a10, .int 0, .int 0, .int 0, .int 0, .int 0, .null, .int 0]))] sz)) 0 0 (va_A [(a0, .inr (12, [.ref a1, .int 0, .ref a2, .ref a3, .ref a4, .ref a5, .ref a6, .ref a7, .ref a8, .ref a9, .ref a10, .int 0, .int 0, .int 0, .int 0, .int 0, .null, .int 0]))] sz) := by
  refine Met.ofW (cc := cX11_made) (maxL := 1) (ret := (some .int)) (by decide) rfl ?_
  intro p e s m args below meth c s₁ B hml hv
  obtain ⟨rfl, hsz, hP, hK, hD0⟩ := hv
  have hx := B.exec
  have hb := B.bytes
  have hr := B.returns
  have hts := atoms_spec (ws := fw_f_X11_made) B.pre
  have hown : s.vm.findClass RX11 = some m.cls := findClass_of_methodNamed B.named
  have hlocks := B.notSynchronized
  subst hsz
  have hD := hD0.self (sz := s.heap.size)
  generalize hAe : va_A [(a0, .inr (12, [.ref a1, .int 0, .ref a2, .ref a3, .ref a4, .ref a5, .ref a6, .ref a7, .ref a8, .ref a9, .ref a10, .int 0, .int 0, .int 0, .int 0, .int 0, .null, .int 0]))] s.heap.size = A at hD ⊢
  have hA : ∀ q : Nat, s.heap.size ≤ q → A q := fun q h => by rw [← hAe]; exact Or.inr h
  obtain ⟨H, hH⟩ : ∃ z, z = s.heap := ⟨_, rfl⟩
  rw [← hH] at hP
  have hS : va_S A s.heap H [] := by rw [hH]; exact va_S.rf
  have hP : va_P (dC, dI) vwCl [(a0, .inr (12, [.ref a1, .int 0, .ref a2, .ref a3, .ref a4, .ref a5, .ref a6, .ref a7, .ref a8, .ref a9, .ref a10, .int 0, .int 0, .int 0, .int 0, .int 0, .null, .int 0]))] H := hP
  have hl := lv_entry ([.ref a0]) (n := 1) (Nat.le_of_ble_eq_true rfl)
  rw [lg_entry_eq]
  generalize (lg_sl ([.ref a0]) ++ List.replicate (1 - (lg_sl ([.ref a0])).length) Slot.unset).toArray = ls at hl ⊢
  have hl : lv_has ls 1 [(0, .ref a0)] := hl
  rw [← hH]
  refine lv_aload_n hx hb dX11_made_0 rfl (lv_at hl 0 rfl) ?_
  refine va_get (D := (dC, dI)) (ci := 12) (v := .int 0) (C := RX11) (T := TX11) (N := 18) hx hb hts in_f_X11_made_RX11 hown hK hP 0 rfl rfl 14 (by decide) (hts (.fieldLink RX11 190 "TripleStore" "madeLately" "I") (List.mem_of_getElem? (i := 1) rfl)) (fun _ h9 => h9) rfl dX11_made_1 ?_
  exact W.iret (v := 0) hx hb hr (fun t ht hW => ⟨⟨0, (), rfl, rfl, by rw [ht]; exact hP, va_K.moved hW.alike hK, hD⟩, hS.F ht⟩) hS.2.2 dX11_made_4
def fw_f_X0_plannedPattern : List Cond := .code yX0_plannedPattern cX0_plannedPattern 2 (some .int) :: ([.fieldLink RX0 60 "TripleStore$Blocks" "planned" "I"] ++ wsX00)
theorem in_f_X0_plannedPattern_RX0 : ∀ w ∈ u_ws RX0 TX0 17, w ∈ fw_f_X0_plannedPattern := fun _ h => List.mem_cons_of_mem _ (List.mem_append_right _ h)
theorem gd_f_X0_plannedPattern : (fw_f_X0_plannedPattern).all goodWord = true := by decide +kernel
set_option maxHeartbeats 4000000 in
set_option maxRecDepth 100000 in
theorem f_X0_plannedPattern (l : Launch) (dC : Nat → ClassId) (dI : Nat → Nat → Nat) (a0 : Nat) (a1 : Nat) (a2 : Nat) (a3 : Nat) (a4 : Nat) (a5 : Nat) (a6 : Nat) (a7 : Nat) (a8 : Nat) (a9 : Nat) (a10 : Nat) (a11 : Nat) (a12 : Nat) (a13 : Nat) (x0 : Int32) (sz : Nat) : Met l yX0_plannedPattern fw_f_X0_plannedPattern ({ frames := 1, cells := 0, slots := 0, locals := 20 }) (va_Pc [.ref a0, .int x0] (fun U => U.heap.size = sz ∧ va_P (dC, dI) vwCl [(a0, .inr (1, [.ref a1, .ref a2, .ref a3, .ref a4, .ref a5, .ref a6, .ref a7, .ref a8, .ref a9, .ref a10, .ref a11, .ref a12, .ref a13, .int 0, .int 0, .long 0, .int 0]))] U.heap ∧ va_K (dC, dI) vwCl [] U ∧ va_D (fun _ => True) [(a0, .inr (1, [.ref a1, .ref a2, .ref a3, .ref a4, .ref a5, .ref a6, .ref a7, .ref a8, .ref a9, .ref a10, .ref a11, .ref a12, .ref a13, .int 0, .int 0, .long 0, .int 0]))])) (va_Qi (fun (r : Int32) (_ : Unit) => r = -1) (fun _ _ => True) (va_A [(a0, .inr (1, [.ref a1, .ref a2, .ref a3, .ref a4, .ref a5, .ref a6, .ref a7, .ref a8, .ref a9, .ref a10, .ref a11, .ref a12, .ref a13, .int 0, .int 0, .long 0, .int 0]))] sz)) 0 0 (va_A [(a0, .inr (1, [.ref a1, .ref a2, .ref a3, .ref a4, .ref a5, .ref a6, .ref a7, .ref a8, .ref a9, .ref a10, .ref a11, .ref a12, .ref a13, .int 0, .int 0, .long 0, .int 0]))] sz) := by
  refine Met.ofW (cc := cX0_plannedPattern) (maxL := 2) (ret := (some .int)) (by decide) rfl ?_
  intro p e s m args below meth c s₁ B hml hv
  obtain ⟨rfl, hsz, hP, hK, hD0⟩ := hv
  have hx := B.exec
  have hb := B.bytes
  have hr := B.returns
  have hts := atoms_spec (ws := fw_f_X0_plannedPattern) B.pre
  have hown : s.vm.findClass RX0 = some m.cls := findClass_of_methodNamed B.named
  have hlocks := B.notSynchronized
  subst hsz
  have hD := hD0.self (sz := s.heap.size)
  generalize hAe : va_A [(a0, .inr (1, [.ref a1, .ref a2, .ref a3, .ref a4, .ref a5, .ref a6, .ref a7, .ref a8, .ref a9, .ref a10, .ref a11, .ref a12, .ref a13, .int 0, .int 0, .long 0, .int 0]))] s.heap.size = A at hD ⊢
  have hA : ∀ q : Nat, s.heap.size ≤ q → A q := fun q h => by rw [← hAe]; exact Or.inr h
  obtain ⟨H, hH⟩ : ∃ z, z = s.heap := ⟨_, rfl⟩
  rw [← hH] at hP
  have hS : va_S A s.heap H [] := by rw [hH]; exact va_S.rf
  have hP : va_P (dC, dI) vwCl [(a0, .inr (1, [.ref a1, .ref a2, .ref a3, .ref a4, .ref a5, .ref a6, .ref a7, .ref a8, .ref a9, .ref a10, .ref a11, .ref a12, .ref a13, .int 0, .int 0, .long 0, .int 0]))] H := hP
  have hl := lv_entry ([.ref a0, .int x0]) (n := 2) (Nat.le_of_ble_eq_true rfl)
  rw [lg_entry_eq]
  generalize (lg_sl ([.ref a0, .int x0]) ++ List.replicate (2 - (lg_sl ([.ref a0, .int x0])).length) Slot.unset).toArray = ls at hl ⊢
  have hl : lv_has ls 2 [(0, .ref a0), (1, .int x0)] := hl
  rw [← hH]
  refine lv_iload_n hx hb dX0_plannedPattern_0 rfl (lv_at hl 1 rfl) ?_
  refine lv_if_lt (tgt := 42) hx hb dX0_plannedPattern_1 (by decide) (fun c_1 => ?_) (fun c_1 => ?_)
  · refine lv_iconst (v := (-1)) hx hb dX0_plannedPattern_42 (by decide) ?_
    refine W.widen (k := 0) (n := 0) (Nat.le_of_ble_eq_true rfl) (Nat.le_of_ble_eq_true rfl) ?_
    exact W.iret (v := (-1)) hx hb hr (fun t ht hW => ⟨⟨(-1), (), rfl, rfl, trivial⟩, hS.F ht⟩) hS.2.2 dX0_plannedPattern_43
  · refine lv_iload_n hx hb dX0_plannedPattern_4 rfl (lv_at hl 1 rfl) ?_
    refine lv_aload_n hx hb dX0_plannedPattern_5 rfl (lv_at hl 0 rfl) ?_
    refine va_get (D := (dC, dI)) (ci := 1) (v := .int 0) (C := RX0) (T := TX0) (N := 17) hx hb hts in_f_X0_plannedPattern_RX0 hown hK hP 0 rfl rfl 16 (by decide) (hts (.fieldLink RX0 60 "TripleStore$Blocks" "planned" "I") (List.mem_of_getElem? (i := 1) rfl)) (fun _ h9 => h9) rfl dX0_plannedPattern_6 ?_
    refine lv_icmp_ge (tgt := 42) hx hb dX0_plannedPattern_9 (by decide) (fun c_9 => ?_) (fun c_9 => ?_)
    · refine lv_iconst (v := (-1)) hx hb dX0_plannedPattern_42 (by decide) ?_
      refine W.widen (k := 0) (n := 0) (Nat.le_of_ble_eq_true rfl) (Nat.le_of_ble_eq_true rfl) ?_
      exact W.iret (v := (-1)) hx hb hr (fun t ht hW => ⟨⟨(-1), (), rfl, rfl, trivial⟩, hS.F ht⟩) hS.2.2 dX0_plannedPattern_43
    · exact absurd (Int32.not_lt.mp c_1) c_9
def fw_f_X11_plan : List Cond := .code yX11_plan cX11_plan 2 (some .int) :: ([.fieldLink RX11 71 "TripleStore" "blocks" "LTripleStore$Blocks;", .methodLink RX11 193 yX0_plannedPattern, .instanceMethod yX0_plannedPattern, .selects RX0 yX0_plannedPattern yX0_plannedPattern, .initialized RX0] ++ wsX110 ++ fw_f_X0_plannedPattern)
theorem in_f_X11_plan_RX11 : ∀ w ∈ u_ws RX11 TX11 18, w ∈ fw_f_X11_plan := fun _ h => List.mem_cons_of_mem _ (List.mem_append_left _ (List.mem_append_right _ h))
theorem gd_f_X11_plan : (fw_f_X11_plan).all goodWord = true := by decide +kernel
theorem gf_f_X11_plan_f_X0_plannedPattern : GoodIn fw_f_X11_plan fw_f_X0_plannedPattern := goodIn_sub (fun _ h => List.mem_cons_of_mem _ (List.mem_append_right _ h)) gd_f_X0_plannedPattern
theorem gh_f_X11_plan_f_X0_plannedPattern_193 : GoodIn fw_f_X11_plan (wsV RX11 193 RX0 yX0_plannedPattern fw_f_X0_plannedPattern) := goodIn_app (goodIn_r _ [2, 3, 4, 5] (by decide +kernel) (by decide +kernel)) gf_f_X11_plan_f_X0_plannedPattern
set_option maxHeartbeats 4000000 in
set_option maxRecDepth 100000 in
theorem f_X11_plan (l : Launch) (dC : Nat → ClassId) (dI : Nat → Nat → Nat) (a0 : Nat) (a1 : Nat) (a2 : Nat) (a3 : Nat) (a4 : Nat) (a5 : Nat) (a6 : Nat) (a7 : Nat) (a8 : Nat) (a9 : Nat) (a10 : Nat) (a54 : Nat) (a55 : Nat) (a56 : Nat) (a57 : Nat) (a58 : Nat) (a59 : Nat) (a60 : Nat) (a61 : Nat) (a62 : Nat) (a63 : Nat) (x0 : Int32) (sz : Nat) : Met l yX11_plan fw_f_X11_plan ({ frames := 2, cells := 0, slots := 0, locals := 41 }) (va_Pc [.ref a0, .int x0] (fun U => U.heap.size = sz ∧ va_P (dC, dI) vwCl [(a0, .inr (12, [.ref a1, .int 0, .ref a2, .ref a3, .ref a4, .ref a5, .ref a6, .ref a7, .ref a8, .ref a9, .ref a10, .int 0, .int 0, .int 0, .int 0, .int 0, .null, .int 0])), (a8, .inr (1, [.ref a2, .ref a3, .ref a7, .ref a54, .ref a55, .ref a56, .ref a57, .ref a58, .ref a59, .ref a60, .ref a61, .ref a62, .ref a63, .int 0, .int 0, .long 0, .int 0]))] U.heap ∧ va_K (dC, dI) vwCl [] U ∧ va_D (fun _ => True) [(a0, .inr (12, [.ref a1, .int 0, .ref a2, .ref a3, .ref a4, .ref a5, .ref a6, .ref a7, .ref a8, .ref a9, .ref a10, .int 0, .int 0, .int 0, .int 0, .int 0, .null, .int 0])), (a8, .inr (1, [.ref a2, .ref a3, .ref a7, .ref a54, .ref a55, .ref a56, .ref a57, .ref a58, .ref a59, .ref a60, .ref a61, .ref a62, .ref a63, .int 0, .int 0, .long 0, .int 0]))])) (va_Qi (fun (r : Int32) (_ : Unit) => r = (-1)) (fun _ t => va_P (dC, dI) vwCl [(a0, .inr (12, [.ref a1, .int 0, .ref a2, .ref a3, .ref a4, .ref a5, .ref a6, .ref a7, .ref a8, .ref a9, .ref a10, .int 0, .int 0, .int 0, .int 0, .int 0, .null, .int 0]))] t.heap ∧ va_K (dC, dI) vwCl [] t ∧ va_D (va_A [(a0, .inr (12, [.ref a1, .int 0, .ref a2, .ref a3, .ref a4, .ref a5, .ref a6, .ref a7, .ref a8, .ref a9, .ref a10, .int 0, .int 0, .int 0, .int 0, .int 0, .null, .int 0])), (a8, .inr (1, [.ref a2, .ref a3, .ref a7, .ref a54, .ref a55, .ref a56, .ref a57, .ref a58, .ref a59, .ref a60, .ref a61, .ref a62, .ref a63, .int 0, .int 0, .long 0, .int 0]))] sz) [(a0, .inr (12, [.ref a1, .int 0, .ref a2, .ref a3, .ref a4, .ref a5, .ref a6, .ref a7, .ref a8, .ref a9, .ref a10, .int 0, .int 0, .int 0, .int 0, .int 0, .null, .int 0]))]) (va_A [(a0, .inr (12, [.ref a1, .int 0, .ref a2, .ref a3, .ref a4, .ref a5, .ref a6, .ref a7, .ref a8, .ref a9, .ref a10, .int 0, .int 0, .int 0, .int 0, .int 0, .null, .int 0])), (a8, .inr (1, [.ref a2, .ref a3, .ref a7, .ref a54, .ref a55, .ref a56, .ref a57, .ref a58, .ref a59, .ref a60, .ref a61, .ref a62, .ref a63, .int 0, .int 0, .long 0, .int 0]))] sz)) 0 0 (va_A [(a0, .inr (12, [.ref a1, .int 0, .ref a2, .ref a3, .ref a4, .ref a5, .ref a6, .ref a7, .ref a8, .ref a9, .ref a10, .int 0, .int 0, .int 0, .int 0, .int 0, .null, .int 0])), (a8, .inr (1, [.ref a2, .ref a3, .ref a7, .ref a54, .ref a55, .ref a56, .ref a57, .ref a58, .ref a59, .ref a60, .ref a61, .ref a62, .ref a63, .int 0, .int 0, .long 0, .int 0]))] sz) := by
  refine Met.ofW (cc := cX11_plan) (maxL := 2) (ret := (some .int)) (by decide) rfl ?_
  intro p e s m args below meth c s₁ B hml hv
  obtain ⟨rfl, hsz, hP, hK, hD0⟩ := hv
  have hx := B.exec
  have hb := B.bytes
  have hr := B.returns
  have hts := atoms_spec (ws := fw_f_X11_plan) B.pre
  have hown : s.vm.findClass RX11 = some m.cls := findClass_of_methodNamed B.named
  have hlocks := B.notSynchronized
  subst hsz
  have hD := hD0.self (sz := s.heap.size)
  generalize hAe : va_A [(a0, .inr (12, [.ref a1, .int 0, .ref a2, .ref a3, .ref a4, .ref a5, .ref a6, .ref a7, .ref a8, .ref a9, .ref a10, .int 0, .int 0, .int 0, .int 0, .int 0, .null, .int 0])), (a8, .inr (1, [.ref a2, .ref a3, .ref a7, .ref a54, .ref a55, .ref a56, .ref a57, .ref a58, .ref a59, .ref a60, .ref a61, .ref a62, .ref a63, .int 0, .int 0, .long 0, .int 0]))] s.heap.size = A at hD ⊢
  have hA : ∀ q : Nat, s.heap.size ≤ q → A q := fun q h => by rw [← hAe]; exact Or.inr h
  obtain ⟨H, hH⟩ : ∃ z, z = s.heap := ⟨_, rfl⟩
  rw [← hH] at hP
  have hS : va_S A s.heap H [] := by rw [hH]; exact va_S.rf
  have hP : va_P (dC, dI) vwCl [(a0, .inr (12, [.ref a1, .int 0, .ref a2, .ref a3, .ref a4, .ref a5, .ref a6, .ref a7, .ref a8, .ref a9, .ref a10, .int 0, .int 0, .int 0, .int 0, .int 0, .null, .int 0])), (a8, .inr (1, [.ref a2, .ref a3, .ref a7, .ref a54, .ref a55, .ref a56, .ref a57, .ref a58, .ref a59, .ref a60, .ref a61, .ref a62, .ref a63, .int 0, .int 0, .long 0, .int 0]))] H := hP
  have hl := lv_entry ([.ref a0, .int x0]) (n := 2) (Nat.le_of_ble_eq_true rfl)
  rw [lg_entry_eq]
  generalize (lg_sl ([.ref a0, .int x0]) ++ List.replicate (2 - (lg_sl ([.ref a0, .int x0])).length) Slot.unset).toArray = ls at hl ⊢
  have hl : lv_has ls 2 [(0, .ref a0), (1, .int x0)] := hl
  rw [← hH]
  refine lv_aload_n hx hb dX11_plan_0 rfl (lv_at hl 0 rfl) ?_
  refine va_get (D := (dC, dI)) (ci := 12) (v := .ref a8) (C := RX11) (T := TX11) (N := 18) hx hb hts in_f_X11_plan_RX11 hown hK hP 0 rfl rfl 8 (by decide) (hts (.fieldLink RX11 71 "TripleStore" "blocks" "LTripleStore$Blocks;") (List.mem_of_getElem? (i := 1) rfl)) (fun _ h9 => h9) rfl dX11_plan_1 ?_
  refine lv_iload_n hx hb dX11_plan_4 rfl (lv_at hl 1 rfl) ?_
  have hPc := hP.sub (ws' := [(a8, .inr (1, [.ref a2, .ref a3, .ref a7, .ref a54, .ref a55, .ref a56, .ref a57, .ref a58, .ref a59, .ref a60, .ref a61, .ref a62, .ref a63, .int 0, .int 0, .long 0, .int 0]))]) [1] rfl
  have hDc := hD.sub (ws' := [(a8, .inr (1, [.ref a2, .ref a3, .ref a7, .ref a54, .ref a55, .ref a56, .ref a57, .ref a58, .ref a59, .ref a60, .ref a61, .ref a62, .ref a63, .int 0, .int 0, .long 0, .int 0]))]) [1] (by decide) rfl
  have hKc := hK.sub (tys' := []) [] rfl
  have hFc := va_free (wc := [(a8, .inr (1, [.ref a2, .ref a3, .ref a7, .ref a54, .ref a55, .ref a56, .ref a57, .ref a58, .ref a59, .ref a60, .ref a61, .ref a62, .ref a63, .int 0, .int 0, .long 0, .int 0]))]) hD hS hA [1] rfl
  refine va_calli (va_runV (As := [.int x0]) (rest := []) ⟨hx, hb, hml, hown, hts⟩ (f_X0_plannedPattern l dC dI a8 a2 a3 a7 a54 a55 a56 a57 a58 a59 a60 a61 a62 a63 x0 H.size) (cwV 1 hts gh_f_X11_plan_f_X0_plannedPattern_193 rfl rfl rfl (by decide +kernel) ⟨Nat.le_of_ble_eq_true rfl, Nat.le_of_ble_eq_true rfl⟩) ⟨fun a U g mk q => by obtain ⟨q0, q1, qP, qK, qD⟩ := q; exact ⟨q0, q1, qP, va_K.moved (u := U) (U := U.calling g mk a) (Vm.Alike.refl U.vm) qK, qD⟩, va_recv hKc hPc (ci := 1) (q0 := 0) rfl rfl, fun U hU hW => ⟨rfl, by rw [hU], by rw [hU]; exact hPc, va_K.moved hW.alike hKc, hDc.weaken (fun _ _ _ _ => trivial)⟩⟩ rfl rfl hl.1 rfl (lv_room (Nat.le_of_ble_eq_true rfl)) dX11_plan_5 ⟨Nat.le_of_ble_eq_true rfl, Nat.le_of_ble_eq_true rfl⟩) hS (fun q _ h => hFc q h) hFc (fun r u t H1 locs ht hvm hw hB hz1 hk1 hS => ?_)
  have hw : r = (-1) := hw
  subst hw
  obtain ⟨hP, hD⟩ := va_join (wr := [(a0, .inr (12, [.ref a1, .int 0, .ref a2, .ref a3, .ref a4, .ref a5, .ref a6, .ref a7, .ref a8, .ref a9, .ref a10, .int 0, .int 0, .int 0, .int 0, .int 0, .null, .int 0]))]) (w1 := []) (H1 := H1) hP hD [1] [0] rfl rfl (by decide) (by decide) hk1 hFc (fun _ _ h => nomatch h) ⟨fun _ _ _ _ h _ _ => (nomatch h), fun _ _ h => nomatch h⟩
  have hK := hK.sub (tys' := []) [] rfl
  generalize H1 = H at hP hS ⊢
  have hP : va_P (dC, dI) vwCl [(a0, .inr (12, [.ref a1, .int 0, .ref a2, .ref a3, .ref a4, .ref a5, .ref a6, .ref a7, .ref a8, .ref a9, .ref a10, .int 0, .int 0, .int 0, .int 0, .int 0, .null, .int 0]))] H := hP
  have hD : va_D A [(a0, .inr (12, [.ref a1, .int 0, .ref a2, .ref a3, .ref a4, .ref a5, .ref a6, .ref a7, .ref a8, .ref a9, .ref a10, .int 0, .int 0, .int 0, .int 0, .int 0, .null, .int 0]))] := hD
  have hK : va_K (dC, dI) vwCl [] s := hK
  exact W.iret (v := (-1)) hx hb hr (fun t ht hW => ⟨⟨(-1), (), rfl, rfl, by rw [ht]; exact hP, va_K.moved hW.alike hK, hD⟩, hS.F ht⟩) hS.2.2 dX11_plan_8
def fw_f_X11_triples : List Cond := .code yX11_triples cX11_triples 1 (some .int) :: ([.fieldLink RX11 26 "TripleStore" "triples" "LTripleStore$Triples;", .fieldLink RX11 196 "TripleStore$Triples" "size" "I"] ++ wsX110 ++ wsX90)
theorem in_f_X11_triples_RX11 : ∀ w ∈ u_ws RX11 TX11 18, w ∈ fw_f_X11_triples := fun _ h => List.mem_cons_of_mem _ (List.mem_append_left _ (List.mem_append_right _ h))
theorem in_f_X11_triples_RX9 : ∀ w ∈ u_ws RX9 TX9 19, w ∈ fw_f_X11_triples := fun _ h => List.mem_cons_of_mem _ (List.mem_append_right _ h)
theorem gd_f_X11_triples : (fw_f_X11_triples).all goodWord = true := by decide +kernel
set_option maxHeartbeats 4000000 in
set_option maxRecDepth 100000 in
theorem f_X11_triples (l : Launch) (dC : Nat → ClassId) (dI : Nat → Nat → Nat) (a0 : Nat) (a1 : Nat) (a2 : Nat) (a3 : Nat) (a4 : Nat) (a5 : Nat) (a6 : Nat) (a7 : Nat) (a8 : Nat) (a9 : Nat) (a10 : Nat) (a24 : Nat) (a25 : Nat) (a26 : Nat) (a27 : Nat) (a28 : Nat) (a29 : Nat) (a30 : Nat) (a31 : Nat) (a32 : Nat) (a33 : Nat) (a34 : Nat) (sz : Nat) : Met l yX11_triples fw_f_X11_triples ({ frames := 1, cells := 0, slots := 0, locals := 20 }) (va_Pc [.ref a0] (fun U => U.heap.size = sz ∧ va_P (dC, dI) vwCl [(a0, .inr (12, [.ref a1, .int 0, .ref a2, .ref a3, .ref a4, .ref a5, .ref a6, .ref a7, .ref a8, .ref a9, .ref a10, .int 0, .int 0, .int 0, .int 0, .int 0, .null, .int 0])), (a3, .inr (10, [.ref a24, .ref a25, .ref a26, .ref a27, .ref a28, .ref a29, .ref a30, .ref a31, .ref a32, .ref a33, .ref a34, .int 0, .int 1, .int 0, .int 0, .int 0, .int 0, .int 0, .int 0]))] U.heap ∧ va_K (dC, dI) vwCl [] U ∧ va_D (fun _ => True) [(a0, .inr (12, [.ref a1, .int 0, .ref a2, .ref a3, .ref a4, .ref a5, .ref a6, .ref a7, .ref a8, .ref a9, .ref a10, .int 0, .int 0, .int 0, .int 0, .int 0, .null, .int 0])), (a3, .inr (10, [.ref a24, .ref a25, .ref a26, .ref a27, .ref a28, .ref a29, .ref a30, .ref a31, .ref a32, .ref a33, .ref a34, .int 0, .int 1, .int 0, .int 0, .int 0, .int 0, .int 0, .int 0]))])) (va_Qi (fun (r : Int32) (_ : Unit) => r = 0) (fun _ t => va_P (dC, dI) vwCl [(a0, .inr (12, [.ref a1, .int 0, .ref a2, .ref a3, .ref a4, .ref a5, .ref a6, .ref a7, .ref a8, .ref a9, .ref a10, .int 0, .int 0, .int 0, .int 0, .int 0, .null, .int 0])), (a3, .inr (10, [.ref a24, .ref a25, .ref a26, .ref a27, .ref a28, .ref a29, .ref a30, .ref a31, .ref a32, .ref a33, .ref a34, .int 0, .int 1, .int 0, .int 0, .int 0, .int 0, .int 0, .int 0]))] t.heap ∧ va_K (dC, dI) vwCl [] t ∧ va_D (va_A [(a0, .inr (12, [.ref a1, .int 0, .ref a2, .ref a3, .ref a4, .ref a5, .ref a6, .ref a7, .ref a8, .ref a9, .ref a10, .int 0, .int 0, .int 0, .int 0, .int 0, .null, .int 0])), (a3, .inr (10, [.ref a24, .ref a25, .ref a26, .ref a27, .ref a28, .ref a29, .ref a30, .ref a31, .ref a32, .ref a33, .ref a34, .int 0, .int 1, .int 0, .int 0, .int 0, .int 0, .int 0, .int 0]))] sz) [(a0, .inr (12, [.ref a1, .int 0, .ref a2, .ref a3, .ref a4, .ref a5, .ref a6, .ref a7, .ref a8, .ref a9, .ref a10, .int 0, .int 0, .int 0, .int 0, .int 0, .null, .int 0])), (a3, .inr (10, [.ref a24, .ref a25, .ref a26, .ref a27, .ref a28, .ref a29, .ref a30, .ref a31, .ref a32, .ref a33, .ref a34, .int 0, .int 1, .int 0, .int 0, .int 0, .int 0, .int 0, .int 0]))]) (va_A [(a0, .inr (12, [.ref a1, .int 0, .ref a2, .ref a3, .ref a4, .ref a5, .ref a6, .ref a7, .ref a8, .ref a9, .ref a10, .int 0, .int 0, .int 0, .int 0, .int 0, .null, .int 0])), (a3, .inr (10, [.ref a24, .ref a25, .ref a26, .ref a27, .ref a28, .ref a29, .ref a30, .ref a31, .ref a32, .ref a33, .ref a34, .int 0, .int 1, .int 0, .int 0, .int 0, .int 0, .int 0, .int 0]))] sz)) 0 0 (va_A [(a0, .inr (12, [.ref a1, .int 0, .ref a2, .ref a3, .ref a4, .ref a5, .ref a6, .ref a7, .ref a8, .ref a9, .ref a10, .int 0, .int 0, .int 0, .int 0, .int 0, .null, .int 0])), (a3, .inr (10, [.ref a24, .ref a25, .ref a26, .ref a27, .ref a28, .ref a29, .ref a30, .ref a31, .ref a32, .ref a33, .ref a34, .int 0, .int 1, .int 0, .int 0, .int 0, .int 0, .int 0, .int 0]))] sz) := by
  refine Met.ofW (cc := cX11_triples) (maxL := 1) (ret := (some .int)) (by decide) rfl ?_
  intro p e s m args below meth c s₁ B hml hv
  obtain ⟨rfl, hsz, hP, hK, hD0⟩ := hv
  have hx := B.exec
  have hb := B.bytes
  have hr := B.returns
  have hts := atoms_spec (ws := fw_f_X11_triples) B.pre
  have hown : s.vm.findClass RX11 = some m.cls := findClass_of_methodNamed B.named
  have hlocks := B.notSynchronized
  subst hsz
  have hD := hD0.self (sz := s.heap.size)
  generalize hAe : va_A [(a0, .inr (12, [.ref a1, .int 0, .ref a2, .ref a3, .ref a4, .ref a5, .ref a6, .ref a7, .ref a8, .ref a9, .ref a10, .int 0, .int 0, .int 0, .int 0, .int 0, .null, .int 0])), (a3, .inr (10, [.ref a24, .ref a25, .ref a26, .ref a27, .ref a28, .ref a29, .ref a30, .ref a31, .ref a32, .ref a33, .ref a34, .int 0, .int 1, .int 0, .int 0, .int 0, .int 0, .int 0, .int 0]))] s.heap.size = A at hD ⊢
  have hA : ∀ q : Nat, s.heap.size ≤ q → A q := fun q h => by rw [← hAe]; exact Or.inr h
  obtain ⟨H, hH⟩ : ∃ z, z = s.heap := ⟨_, rfl⟩
  rw [← hH] at hP
  have hS : va_S A s.heap H [] := by rw [hH]; exact va_S.rf
  have hP : va_P (dC, dI) vwCl [(a0, .inr (12, [.ref a1, .int 0, .ref a2, .ref a3, .ref a4, .ref a5, .ref a6, .ref a7, .ref a8, .ref a9, .ref a10, .int 0, .int 0, .int 0, .int 0, .int 0, .null, .int 0])), (a3, .inr (10, [.ref a24, .ref a25, .ref a26, .ref a27, .ref a28, .ref a29, .ref a30, .ref a31, .ref a32, .ref a33, .ref a34, .int 0, .int 1, .int 0, .int 0, .int 0, .int 0, .int 0, .int 0]))] H := hP
  have hl := lv_entry ([.ref a0]) (n := 1) (Nat.le_of_ble_eq_true rfl)
  rw [lg_entry_eq]
  generalize (lg_sl ([.ref a0]) ++ List.replicate (1 - (lg_sl ([.ref a0])).length) Slot.unset).toArray = ls at hl ⊢
  have hl : lv_has ls 1 [(0, .ref a0)] := hl
  rw [← hH]
  refine lv_aload_n hx hb dX11_triples_0 rfl (lv_at hl 0 rfl) ?_
  refine va_get (D := (dC, dI)) (ci := 12) (v := .ref a3) (C := RX11) (T := TX11) (N := 18) hx hb hts in_f_X11_triples_RX11 hown hK hP 0 rfl rfl 3 (by decide) (hts (.fieldLink RX11 26 "TripleStore" "triples" "LTripleStore$Triples;") (List.mem_of_getElem? (i := 1) rfl)) (fun _ h9 => h9) rfl dX11_triples_1 ?_
  refine va_get (D := (dC, dI)) (ci := 10) (v := .int 0) (C := RX9) (T := TX9) (N := 19) hx hb hts in_f_X11_triples_RX9 hown hK hP 1 rfl rfl 13 (by decide) (hts (.fieldLink RX11 196 "TripleStore$Triples" "size" "I") (List.mem_of_getElem? (i := 2) rfl)) (fun _ h9 => h9) rfl dX11_triples_4 ?_
  exact W.iret (v := 0) hx hb hr (fun t ht hW => ⟨⟨0, (), rfl, rfl, by rw [ht]; exact hP, va_K.moved hW.alike hK, hD⟩, hS.F ht⟩) hS.2.2 dX11_triples_7
def fw_f_X11_said : List Cond := .code yX11_said cX11_said 1 (some .int) :: ([.fieldLink RX11 26 "TripleStore" "triples" "LTripleStore$Triples;", .fieldLink RX11 152 "TripleStore$Triples" "sayings" "I"] ++ wsX110 ++ wsX90)
theorem in_f_X11_said_RX11 : ∀ w ∈ u_ws RX11 TX11 18, w ∈ fw_f_X11_said := fun _ h => List.mem_cons_of_mem _ (List.mem_append_left _ (List.mem_append_right _ h))
theorem in_f_X11_said_RX9 : ∀ w ∈ u_ws RX9 TX9 19, w ∈ fw_f_X11_said := fun _ h => List.mem_cons_of_mem _ (List.mem_append_right _ h)
theorem gd_f_X11_said : (fw_f_X11_said).all goodWord = true := by decide +kernel
set_option maxHeartbeats 4000000 in
set_option maxRecDepth 100000 in
theorem f_X11_said (l : Launch) (dC : Nat → ClassId) (dI : Nat → Nat → Nat) (a0 : Nat) (a1 : Nat) (a2 : Nat) (a3 : Nat) (a4 : Nat) (a5 : Nat) (a6 : Nat) (a7 : Nat) (a8 : Nat) (a9 : Nat) (a10 : Nat) (a24 : Nat) (a25 : Nat) (a26 : Nat) (a27 : Nat) (a28 : Nat) (a29 : Nat) (a30 : Nat) (a31 : Nat) (a32 : Nat) (a33 : Nat) (a34 : Nat) (sz : Nat) : Met l yX11_said fw_f_X11_said ({ frames := 1, cells := 0, slots := 0, locals := 20 }) (va_Pc [.ref a0] (fun U => U.heap.size = sz ∧ va_P (dC, dI) vwCl [(a0, .inr (12, [.ref a1, .int 0, .ref a2, .ref a3, .ref a4, .ref a5, .ref a6, .ref a7, .ref a8, .ref a9, .ref a10, .int 0, .int 0, .int 0, .int 0, .int 0, .null, .int 0])), (a3, .inr (10, [.ref a24, .ref a25, .ref a26, .ref a27, .ref a28, .ref a29, .ref a30, .ref a31, .ref a32, .ref a33, .ref a34, .int 0, .int 1, .int 0, .int 0, .int 0, .int 0, .int 0, .int 0]))] U.heap ∧ va_K (dC, dI) vwCl [] U ∧ va_D (fun _ => True) [(a0, .inr (12, [.ref a1, .int 0, .ref a2, .ref a3, .ref a4, .ref a5, .ref a6, .ref a7, .ref a8, .ref a9, .ref a10, .int 0, .int 0, .int 0, .int 0, .int 0, .null, .int 0])), (a3, .inr (10, [.ref a24, .ref a25, .ref a26, .ref a27, .ref a28, .ref a29, .ref a30, .ref a31, .ref a32, .ref a33, .ref a34, .int 0, .int 1, .int 0, .int 0, .int 0, .int 0, .int 0, .int 0]))])) (va_Qi (fun (r : Int32) (_ : Unit) => r = 0) (fun _ t => va_P (dC, dI) vwCl [(a0, .inr (12, [.ref a1, .int 0, .ref a2, .ref a3, .ref a4, .ref a5, .ref a6, .ref a7, .ref a8, .ref a9, .ref a10, .int 0, .int 0, .int 0, .int 0, .int 0, .null, .int 0])), (a3, .inr (10, [.ref a24, .ref a25, .ref a26, .ref a27, .ref a28, .ref a29, .ref a30, .ref a31, .ref a32, .ref a33, .ref a34, .int 0, .int 1, .int 0, .int 0, .int 0, .int 0, .int 0, .int 0]))] t.heap ∧ va_K (dC, dI) vwCl [] t ∧ va_D (va_A [(a0, .inr (12, [.ref a1, .int 0, .ref a2, .ref a3, .ref a4, .ref a5, .ref a6, .ref a7, .ref a8, .ref a9, .ref a10, .int 0, .int 0, .int 0, .int 0, .int 0, .null, .int 0])), (a3, .inr (10, [.ref a24, .ref a25, .ref a26, .ref a27, .ref a28, .ref a29, .ref a30, .ref a31, .ref a32, .ref a33, .ref a34, .int 0, .int 1, .int 0, .int 0, .int 0, .int 0, .int 0, .int 0]))] sz) [(a0, .inr (12, [.ref a1, .int 0, .ref a2, .ref a3, .ref a4, .ref a5, .ref a6, .ref a7, .ref a8, .ref a9, .ref a10, .int 0, .int 0, .int 0, .int 0, .int 0, .null, .int 0])), (a3, .inr (10, [.ref a24, .ref a25, .ref a26, .ref a27, .ref a28, .ref a29, .ref a30, .ref a31, .ref a32, .ref a33, .ref a34, .int 0, .int 1, .int 0, .int 0, .int 0, .int 0, .int 0, .int 0]))]) (va_A [(a0, .inr (12, [.ref a1, .int 0, .ref a2, .ref a3, .ref a4, .ref a5, .ref a6, .ref a7, .ref a8, .ref a9, .ref a10, .int 0, .int 0, .int 0, .int 0, .int 0, .null, .int 0])), (a3, .inr (10, [.ref a24, .ref a25, .ref a26, .ref a27, .ref a28, .ref a29, .ref a30, .ref a31, .ref a32, .ref a33, .ref a34, .int 0, .int 1, .int 0, .int 0, .int 0, .int 0, .int 0, .int 0]))] sz)) 0 0 (va_A [(a0, .inr (12, [.ref a1, .int 0, .ref a2, .ref a3, .ref a4, .ref a5, .ref a6, .ref a7, .ref a8, .ref a9, .ref a10, .int 0, .int 0, .int 0, .int 0, .int 0, .null, .int 0])), (a3, .inr (10, [.ref a24, .ref a25, .ref a26, .ref a27, .ref a28, .ref a29, .ref a30, .ref a31, .ref a32, .ref a33, .ref a34, .int 0, .int 1, .int 0, .int 0, .int 0, .int 0, .int 0, .int 0]))] sz) := by
  refine Met.ofW (cc := cX11_said) (maxL := 1) (ret := (some .int)) (by decide) rfl ?_
  intro p e s m args below meth c s₁ B hml hv
  obtain ⟨rfl, hsz, hP, hK, hD0⟩ := hv
  have hx := B.exec
  have hb := B.bytes
  have hr := B.returns
  have hts := atoms_spec (ws := fw_f_X11_said) B.pre
  have hown : s.vm.findClass RX11 = some m.cls := findClass_of_methodNamed B.named
  have hlocks := B.notSynchronized
  subst hsz
  have hD := hD0.self (sz := s.heap.size)
  generalize hAe : va_A [(a0, .inr (12, [.ref a1, .int 0, .ref a2, .ref a3, .ref a4, .ref a5, .ref a6, .ref a7, .ref a8, .ref a9, .ref a10, .int 0, .int 0, .int 0, .int 0, .int 0, .null, .int 0])), (a3, .inr (10, [.ref a24, .ref a25, .ref a26, .ref a27, .ref a28, .ref a29, .ref a30, .ref a31, .ref a32, .ref a33, .ref a34, .int 0, .int 1, .int 0, .int 0, .int 0, .int 0, .int 0, .int 0]))] s.heap.size = A at hD ⊢
  have hA : ∀ q : Nat, s.heap.size ≤ q → A q := fun q h => by rw [← hAe]; exact Or.inr h
  obtain ⟨H, hH⟩ : ∃ z, z = s.heap := ⟨_, rfl⟩
  rw [← hH] at hP
  have hS : va_S A s.heap H [] := by rw [hH]; exact va_S.rf
  have hP : va_P (dC, dI) vwCl [(a0, .inr (12, [.ref a1, .int 0, .ref a2, .ref a3, .ref a4, .ref a5, .ref a6, .ref a7, .ref a8, .ref a9, .ref a10, .int 0, .int 0, .int 0, .int 0, .int 0, .null, .int 0])), (a3, .inr (10, [.ref a24, .ref a25, .ref a26, .ref a27, .ref a28, .ref a29, .ref a30, .ref a31, .ref a32, .ref a33, .ref a34, .int 0, .int 1, .int 0, .int 0, .int 0, .int 0, .int 0, .int 0]))] H := hP
  have hl := lv_entry ([.ref a0]) (n := 1) (Nat.le_of_ble_eq_true rfl)
  rw [lg_entry_eq]
  generalize (lg_sl ([.ref a0]) ++ List.replicate (1 - (lg_sl ([.ref a0])).length) Slot.unset).toArray = ls at hl ⊢
  have hl : lv_has ls 1 [(0, .ref a0)] := hl
  rw [← hH]
  refine lv_aload_n hx hb dX11_said_0 rfl (lv_at hl 0 rfl) ?_
  refine va_get (D := (dC, dI)) (ci := 12) (v := .ref a3) (C := RX11) (T := TX11) (N := 18) hx hb hts in_f_X11_said_RX11 hown hK hP 0 rfl rfl 3 (by decide) (hts (.fieldLink RX11 26 "TripleStore" "triples" "LTripleStore$Triples;") (List.mem_of_getElem? (i := 1) rfl)) (fun _ h9 => h9) rfl dX11_said_1 ?_
  refine va_get (D := (dC, dI)) (ci := 10) (v := .int 0) (C := RX9) (T := TX9) (N := 19) hx hb hts in_f_X11_said_RX9 hown hK hP 1 rfl rfl 14 (by decide) (hts (.fieldLink RX11 152 "TripleStore$Triples" "sayings" "I") (List.mem_of_getElem? (i := 2) rfl)) (fun _ h9 => h9) rfl dX11_said_4 ?_
  exact W.iret (v := 0) hx hb hr (fun t ht hW => ⟨⟨0, (), rfl, rfl, by rw [ht]; exact hP, va_K.moved hW.alike hK, hD⟩, hS.F ht⟩) hS.2.2 dX11_said_7
def fw_f_X11_terms : List Cond := .code yX11_terms cX11_terms 1 (some .int) :: ([.fieldLink RX11 19 "TripleStore" "terms" "LTripleStore$Terms;", .fieldLink RX11 197 "TripleStore$Terms" "numbered" "I"] ++ wsX110 ++ wsX70)
theorem in_f_X11_terms_RX11 : ∀ w ∈ u_ws RX11 TX11 18, w ∈ fw_f_X11_terms := fun _ h => List.mem_cons_of_mem _ (List.mem_append_left _ (List.mem_append_right _ h))
theorem in_f_X11_terms_RX7 : ∀ w ∈ u_ws RX7 TX7 17, w ∈ fw_f_X11_terms := fun _ h => List.mem_cons_of_mem _ (List.mem_append_right _ h)
theorem gd_f_X11_terms : (fw_f_X11_terms).all goodWord = true := by decide +kernel
set_option maxHeartbeats 4000000 in
set_option maxRecDepth 100000 in
theorem f_X11_terms (l : Launch) (dC : Nat → ClassId) (dI : Nat → Nat → Nat) (a0 : Nat) (a1 : Nat) (a2 : Nat) (a3 : Nat) (a4 : Nat) (a5 : Nat) (a6 : Nat) (a7 : Nat) (a8 : Nat) (a9 : Nat) (a10 : Nat) (a11 : Nat) (a12 : Nat) (a13 : Nat) (a14 : Nat) (a15 : Nat) (a16 : Nat) (a17 : Nat) (a18 : Nat) (a19 : Nat) (a20 : Nat) (a21 : Nat) (a22 : Nat) (a23 : Nat) (sz : Nat) : Met l yX11_terms fw_f_X11_terms ({ frames := 1, cells := 0, slots := 0, locals := 20 }) (va_Pc [.ref a0] (fun U => U.heap.size = sz ∧ va_P (dC, dI) vwCl [(a0, .inr (12, [.ref a1, .int 0, .ref a2, .ref a3, .ref a4, .ref a5, .ref a6, .ref a7, .ref a8, .ref a9, .ref a10, .int 0, .int 0, .int 0, .int 0, .int 0, .null, .int 0])), (a2, .inr (8, [.ref a11, .ref a12, .ref a13, .ref a14, .ref a15, .ref a16, .ref a17, .ref a18, .ref a19, .ref a20, .ref a21, .ref a22, .ref a23, .int 0, .int 0, .int 801, .int 0]))] U.heap ∧ va_K (dC, dI) vwCl [] U ∧ va_D (fun _ => True) [(a0, .inr (12, [.ref a1, .int 0, .ref a2, .ref a3, .ref a4, .ref a5, .ref a6, .ref a7, .ref a8, .ref a9, .ref a10, .int 0, .int 0, .int 0, .int 0, .int 0, .null, .int 0])), (a2, .inr (8, [.ref a11, .ref a12, .ref a13, .ref a14, .ref a15, .ref a16, .ref a17, .ref a18, .ref a19, .ref a20, .ref a21, .ref a22, .ref a23, .int 0, .int 0, .int 801, .int 0]))])) (va_Qi (fun (r : Int32) (_ : Unit) => r = 0) (fun _ t => va_P (dC, dI) vwCl [(a0, .inr (12, [.ref a1, .int 0, .ref a2, .ref a3, .ref a4, .ref a5, .ref a6, .ref a7, .ref a8, .ref a9, .ref a10, .int 0, .int 0, .int 0, .int 0, .int 0, .null, .int 0])), (a2, .inr (8, [.ref a11, .ref a12, .ref a13, .ref a14, .ref a15, .ref a16, .ref a17, .ref a18, .ref a19, .ref a20, .ref a21, .ref a22, .ref a23, .int 0, .int 0, .int 801, .int 0]))] t.heap ∧ va_K (dC, dI) vwCl [] t ∧ va_D (va_A [(a0, .inr (12, [.ref a1, .int 0, .ref a2, .ref a3, .ref a4, .ref a5, .ref a6, .ref a7, .ref a8, .ref a9, .ref a10, .int 0, .int 0, .int 0, .int 0, .int 0, .null, .int 0])), (a2, .inr (8, [.ref a11, .ref a12, .ref a13, .ref a14, .ref a15, .ref a16, .ref a17, .ref a18, .ref a19, .ref a20, .ref a21, .ref a22, .ref a23, .int 0, .int 0, .int 801, .int 0]))] sz) [(a0, .inr (12, [.ref a1, .int 0, .ref a2, .ref a3, .ref a4, .ref a5, .ref a6, .ref a7, .ref a8, .ref a9, .ref a10, .int 0, .int 0, .int 0, .int 0, .int 0, .null, .int 0])), (a2, .inr (8, [.ref a11, .ref a12, .ref a13, .ref a14, .ref a15, .ref a16, .ref a17, .ref a18, .ref a19, .ref a20, .ref a21, .ref a22, .ref a23, .int 0, .int 0, .int 801, .int 0]))]) (va_A [(a0, .inr (12, [.ref a1, .int 0, .ref a2, .ref a3, .ref a4, .ref a5, .ref a6, .ref a7, .ref a8, .ref a9, .ref a10, .int 0, .int 0, .int 0, .int 0, .int 0, .null, .int 0])), (a2, .inr (8, [.ref a11, .ref a12, .ref a13, .ref a14, .ref a15, .ref a16, .ref a17, .ref a18, .ref a19, .ref a20, .ref a21, .ref a22, .ref a23, .int 0, .int 0, .int 801, .int 0]))] sz)) 0 0 (va_A [(a0, .inr (12, [.ref a1, .int 0, .ref a2, .ref a3, .ref a4, .ref a5, .ref a6, .ref a7, .ref a8, .ref a9, .ref a10, .int 0, .int 0, .int 0, .int 0, .int 0, .null, .int 0])), (a2, .inr (8, [.ref a11, .ref a12, .ref a13, .ref a14, .ref a15, .ref a16, .ref a17, .ref a18, .ref a19, .ref a20, .ref a21, .ref a22, .ref a23, .int 0, .int 0, .int 801, .int 0]))] sz) := by
  refine Met.ofW (cc := cX11_terms) (maxL := 1) (ret := (some .int)) (by decide) rfl ?_
  intro p e s m args below meth c s₁ B hml hv
  obtain ⟨rfl, hsz, hP, hK, hD0⟩ := hv
  have hx := B.exec
  have hb := B.bytes
  have hr := B.returns
  have hts := atoms_spec (ws := fw_f_X11_terms) B.pre
  have hown : s.vm.findClass RX11 = some m.cls := findClass_of_methodNamed B.named
  have hlocks := B.notSynchronized
  subst hsz
  have hD := hD0.self (sz := s.heap.size)
  generalize hAe : va_A [(a0, .inr (12, [.ref a1, .int 0, .ref a2, .ref a3, .ref a4, .ref a5, .ref a6, .ref a7, .ref a8, .ref a9, .ref a10, .int 0, .int 0, .int 0, .int 0, .int 0, .null, .int 0])), (a2, .inr (8, [.ref a11, .ref a12, .ref a13, .ref a14, .ref a15, .ref a16, .ref a17, .ref a18, .ref a19, .ref a20, .ref a21, .ref a22, .ref a23, .int 0, .int 0, .int 801, .int 0]))] s.heap.size = A at hD ⊢
  have hA : ∀ q : Nat, s.heap.size ≤ q → A q := fun q h => by rw [← hAe]; exact Or.inr h
  obtain ⟨H, hH⟩ : ∃ z, z = s.heap := ⟨_, rfl⟩
  rw [← hH] at hP
  have hS : va_S A s.heap H [] := by rw [hH]; exact va_S.rf
  have hP : va_P (dC, dI) vwCl [(a0, .inr (12, [.ref a1, .int 0, .ref a2, .ref a3, .ref a4, .ref a5, .ref a6, .ref a7, .ref a8, .ref a9, .ref a10, .int 0, .int 0, .int 0, .int 0, .int 0, .null, .int 0])), (a2, .inr (8, [.ref a11, .ref a12, .ref a13, .ref a14, .ref a15, .ref a16, .ref a17, .ref a18, .ref a19, .ref a20, .ref a21, .ref a22, .ref a23, .int 0, .int 0, .int 801, .int 0]))] H := hP
  have hl := lv_entry ([.ref a0]) (n := 1) (Nat.le_of_ble_eq_true rfl)
  rw [lg_entry_eq]
  generalize (lg_sl ([.ref a0]) ++ List.replicate (1 - (lg_sl ([.ref a0])).length) Slot.unset).toArray = ls at hl ⊢
  have hl : lv_has ls 1 [(0, .ref a0)] := hl
  rw [← hH]
  refine lv_aload_n hx hb dX11_terms_0 rfl (lv_at hl 0 rfl) ?_
  refine va_get (D := (dC, dI)) (ci := 12) (v := .ref a2) (C := RX11) (T := TX11) (N := 18) hx hb hts in_f_X11_terms_RX11 hown hK hP 0 rfl rfl 2 (by decide) (hts (.fieldLink RX11 19 "TripleStore" "terms" "LTripleStore$Terms;") (List.mem_of_getElem? (i := 1) rfl)) (fun _ h9 => h9) rfl dX11_terms_1 ?_
  refine va_get (D := (dC, dI)) (ci := 8) (v := .int 0) (C := RX7) (T := TX7) (N := 17) hx hb hts in_f_X11_terms_RX7 hown hK hP 1 rfl rfl 16 (by decide) (hts (.fieldLink RX11 197 "TripleStore$Terms" "numbered" "I") (List.mem_of_getElem? (i := 2) rfl)) (fun _ h9 => h9) rfl dX11_terms_4 ?_
  exact W.iret (v := 0) hx hb hr (fun t ht hW => ⟨⟨0, (), rfl, rfl, by rw [ht]; exact hP, va_K.moved hW.alike hK, hD⟩, hS.F ht⟩) hS.2.2 dX11_terms_7
def fw_f_X11_rules : List Cond := .code yX11_rules cX11_rules 1 (some .int) :: ([.fieldLink RX11 35 "TripleStore" "rules" "LTripleStore$Rules;", .fieldLink RX11 200 "TripleStore$Rules" "size" "I"] ++ wsX110 ++ wsX60)
theorem in_f_X11_rules_RX11 : ∀ w ∈ u_ws RX11 TX11 18, w ∈ fw_f_X11_rules := fun _ h => List.mem_cons_of_mem _ (List.mem_append_left _ (List.mem_append_right _ h))
theorem in_f_X11_rules_RX6 : ∀ w ∈ u_ws RX6 TX6 11, w ∈ fw_f_X11_rules := fun _ h => List.mem_cons_of_mem _ (List.mem_append_right _ h)
theorem gd_f_X11_rules : (fw_f_X11_rules).all goodWord = true := by decide +kernel
set_option maxHeartbeats 4000000 in
set_option maxRecDepth 100000 in
theorem f_X11_rules (l : Launch) (dC : Nat → ClassId) (dI : Nat → Nat → Nat) (a0 : Nat) (a1 : Nat) (a2 : Nat) (a3 : Nat) (a4 : Nat) (a5 : Nat) (a6 : Nat) (a7 : Nat) (a8 : Nat) (a9 : Nat) (a10 : Nat) (a35 : Nat) (a36 : Nat) (a37 : Nat) (a38 : Nat) (sz : Nat) : Met l yX11_rules fw_f_X11_rules ({ frames := 1, cells := 0, slots := 0, locals := 20 }) (va_Pc [.ref a0] (fun U => U.heap.size = sz ∧ va_P (dC, dI) vwCl [(a0, .inr (12, [.ref a1, .int 0, .ref a2, .ref a3, .ref a4, .ref a5, .ref a6, .ref a7, .ref a8, .ref a9, .ref a10, .int 0, .int 0, .int 0, .int 0, .int 0, .null, .int 0])), (a4, .inr (7, [.ref a2, .ref a3, .ref a35, .ref a36, .ref a37, .ref a38, .int 0, .int 0, .int 0, .int 0, .int 0]))] U.heap ∧ va_K (dC, dI) vwCl [] U ∧ va_D (fun _ => True) [(a0, .inr (12, [.ref a1, .int 0, .ref a2, .ref a3, .ref a4, .ref a5, .ref a6, .ref a7, .ref a8, .ref a9, .ref a10, .int 0, .int 0, .int 0, .int 0, .int 0, .null, .int 0])), (a4, .inr (7, [.ref a2, .ref a3, .ref a35, .ref a36, .ref a37, .ref a38, .int 0, .int 0, .int 0, .int 0, .int 0]))])) (va_Qi (fun (r : Int32) (_ : Unit) => r = 0) (fun _ t => va_P (dC, dI) vwCl [(a0, .inr (12, [.ref a1, .int 0, .ref a2, .ref a3, .ref a4, .ref a5, .ref a6, .ref a7, .ref a8, .ref a9, .ref a10, .int 0, .int 0, .int 0, .int 0, .int 0, .null, .int 0])), (a4, .inr (7, [.ref a2, .ref a3, .ref a35, .ref a36, .ref a37, .ref a38, .int 0, .int 0, .int 0, .int 0, .int 0]))] t.heap ∧ va_K (dC, dI) vwCl [] t ∧ va_D (va_A [(a0, .inr (12, [.ref a1, .int 0, .ref a2, .ref a3, .ref a4, .ref a5, .ref a6, .ref a7, .ref a8, .ref a9, .ref a10, .int 0, .int 0, .int 0, .int 0, .int 0, .null, .int 0])), (a4, .inr (7, [.ref a2, .ref a3, .ref a35, .ref a36, .ref a37, .ref a38, .int 0, .int 0, .int 0, .int 0, .int 0]))] sz) [(a0, .inr (12, [.ref a1, .int 0, .ref a2, .ref a3, .ref a4, .ref a5, .ref a6, .ref a7, .ref a8, .ref a9, .ref a10, .int 0, .int 0, .int 0, .int 0, .int 0, .null, .int 0])), (a4, .inr (7, [.ref a2, .ref a3, .ref a35, .ref a36, .ref a37, .ref a38, .int 0, .int 0, .int 0, .int 0, .int 0]))]) (va_A [(a0, .inr (12, [.ref a1, .int 0, .ref a2, .ref a3, .ref a4, .ref a5, .ref a6, .ref a7, .ref a8, .ref a9, .ref a10, .int 0, .int 0, .int 0, .int 0, .int 0, .null, .int 0])), (a4, .inr (7, [.ref a2, .ref a3, .ref a35, .ref a36, .ref a37, .ref a38, .int 0, .int 0, .int 0, .int 0, .int 0]))] sz)) 0 0 (va_A [(a0, .inr (12, [.ref a1, .int 0, .ref a2, .ref a3, .ref a4, .ref a5, .ref a6, .ref a7, .ref a8, .ref a9, .ref a10, .int 0, .int 0, .int 0, .int 0, .int 0, .null, .int 0])), (a4, .inr (7, [.ref a2, .ref a3, .ref a35, .ref a36, .ref a37, .ref a38, .int 0, .int 0, .int 0, .int 0, .int 0]))] sz) := by
  refine Met.ofW (cc := cX11_rules) (maxL := 1) (ret := (some .int)) (by decide) rfl ?_
  intro p e s m args below meth c s₁ B hml hv
  obtain ⟨rfl, hsz, hP, hK, hD0⟩ := hv
  have hx := B.exec
  have hb := B.bytes
  have hr := B.returns
  have hts := atoms_spec (ws := fw_f_X11_rules) B.pre
  have hown : s.vm.findClass RX11 = some m.cls := findClass_of_methodNamed B.named
  have hlocks := B.notSynchronized
  subst hsz
  have hD := hD0.self (sz := s.heap.size)
  generalize hAe : va_A [(a0, .inr (12, [.ref a1, .int 0, .ref a2, .ref a3, .ref a4, .ref a5, .ref a6, .ref a7, .ref a8, .ref a9, .ref a10, .int 0, .int 0, .int 0, .int 0, .int 0, .null, .int 0])), (a4, .inr (7, [.ref a2, .ref a3, .ref a35, .ref a36, .ref a37, .ref a38, .int 0, .int 0, .int 0, .int 0, .int 0]))] s.heap.size = A at hD ⊢
  have hA : ∀ q : Nat, s.heap.size ≤ q → A q := fun q h => by rw [← hAe]; exact Or.inr h
  obtain ⟨H, hH⟩ : ∃ z, z = s.heap := ⟨_, rfl⟩
  rw [← hH] at hP
  have hS : va_S A s.heap H [] := by rw [hH]; exact va_S.rf
  have hP : va_P (dC, dI) vwCl [(a0, .inr (12, [.ref a1, .int 0, .ref a2, .ref a3, .ref a4, .ref a5, .ref a6, .ref a7, .ref a8, .ref a9, .ref a10, .int 0, .int 0, .int 0, .int 0, .int 0, .null, .int 0])), (a4, .inr (7, [.ref a2, .ref a3, .ref a35, .ref a36, .ref a37, .ref a38, .int 0, .int 0, .int 0, .int 0, .int 0]))] H := hP
  have hl := lv_entry ([.ref a0]) (n := 1) (Nat.le_of_ble_eq_true rfl)
  rw [lg_entry_eq]
  generalize (lg_sl ([.ref a0]) ++ List.replicate (1 - (lg_sl ([.ref a0])).length) Slot.unset).toArray = ls at hl ⊢
  have hl : lv_has ls 1 [(0, .ref a0)] := hl
  rw [← hH]
  refine lv_aload_n hx hb dX11_rules_0 rfl (lv_at hl 0 rfl) ?_
  refine va_get (D := (dC, dI)) (ci := 12) (v := .ref a4) (C := RX11) (T := TX11) (N := 18) hx hb hts in_f_X11_rules_RX11 hown hK hP 0 rfl rfl 4 (by decide) (hts (.fieldLink RX11 35 "TripleStore" "rules" "LTripleStore$Rules;") (List.mem_of_getElem? (i := 1) rfl)) (fun _ h9 => h9) rfl dX11_rules_1 ?_
  refine va_get (D := (dC, dI)) (ci := 7) (v := .int 0) (C := RX6) (T := TX6) (N := 11) hx hb hts in_f_X11_rules_RX6 hown hK hP 1 rfl rfl 9 (by decide) (hts (.fieldLink RX11 200 "TripleStore$Rules" "size" "I") (List.mem_of_getElem? (i := 2) rfl)) (fun _ h9 => h9) rfl dX11_rules_4 ?_
  exact W.iret (v := 0) hx hb hr (fun t ht hW => ⟨⟨0, (), rfl, rfl, by rw [ht]; exact hP, va_K.moved hW.alike hK, hD⟩, hS.F ht⟩) hS.2.2 dX11_rules_7
def fw_f_X11_term : List Cond := .code yX11_term cX11_term 2 (some .int) :: ([.fieldLink RX11 19 "TripleStore" "terms" "LTripleStore$Terms;", .fieldLink RX11 197 "TripleStore$Terms" "numbered" "I"] ++ wsX110 ++ wsX70)
theorem in_f_X11_term_RX11 : ∀ w ∈ u_ws RX11 TX11 18, w ∈ fw_f_X11_term := fun _ h => List.mem_cons_of_mem _ (List.mem_append_left _ (List.mem_append_right _ h))
theorem in_f_X11_term_RX7 : ∀ w ∈ u_ws RX7 TX7 17, w ∈ fw_f_X11_term := fun _ h => List.mem_cons_of_mem _ (List.mem_append_right _ h)
theorem gd_f_X11_term : (fw_f_X11_term).all goodWord = true := by decide +kernel
set_option maxHeartbeats 4000000 in
set_option maxRecDepth 100000 in
theorem f_X11_term (l : Launch) (dC : Nat → ClassId) (dI : Nat → Nat → Nat) (a0 : Nat) (a1 : Nat) (a2 : Nat) (a3 : Nat) (a4 : Nat) (a5 : Nat) (a6 : Nat) (a7 : Nat) (a8 : Nat) (a9 : Nat) (a10 : Nat) (a11 : Nat) (a12 : Nat) (a13 : Nat) (a14 : Nat) (a15 : Nat) (a16 : Nat) (a17 : Nat) (a18 : Nat) (a19 : Nat) (a20 : Nat) (a21 : Nat) (a22 : Nat) (a23 : Nat) (x0 : Int32) (sz : Nat) : Met l yX11_term fw_f_X11_term ({ frames := 1, cells := 0, slots := 0, locals := 20 }) (va_Pc [.ref a0, .int x0] (fun U => U.heap.size = sz ∧ va_P (dC, dI) vwCl [(a0, .inr (12, [.ref a1, .int 0, .ref a2, .ref a3, .ref a4, .ref a5, .ref a6, .ref a7, .ref a8, .ref a9, .ref a10, .int 0, .int 0, .int 0, .int 0, .int 0, .null, .int 0])), (a2, .inr (8, [.ref a11, .ref a12, .ref a13, .ref a14, .ref a15, .ref a16, .ref a17, .ref a18, .ref a19, .ref a20, .ref a21, .ref a22, .ref a23, .int 0, .int 0, .int 801, .int 0]))] U.heap ∧ va_K (dC, dI) vwCl [] U ∧ va_D (fun _ => True) [(a0, .inr (12, [.ref a1, .int 0, .ref a2, .ref a3, .ref a4, .ref a5, .ref a6, .ref a7, .ref a8, .ref a9, .ref a10, .int 0, .int 0, .int 0, .int 0, .int 0, .null, .int 0])), (a2, .inr (8, [.ref a11, .ref a12, .ref a13, .ref a14, .ref a15, .ref a16, .ref a17, .ref a18, .ref a19, .ref a20, .ref a21, .ref a22, .ref a23, .int 0, .int 0, .int 801, .int 0]))])) (va_Qi (fun (r : Int32) (_ : Unit) => r = -1) (fun _ _ => True) (va_A [(a0, .inr (12, [.ref a1, .int 0, .ref a2, .ref a3, .ref a4, .ref a5, .ref a6, .ref a7, .ref a8, .ref a9, .ref a10, .int 0, .int 0, .int 0, .int 0, .int 0, .null, .int 0])), (a2, .inr (8, [.ref a11, .ref a12, .ref a13, .ref a14, .ref a15, .ref a16, .ref a17, .ref a18, .ref a19, .ref a20, .ref a21, .ref a22, .ref a23, .int 0, .int 0, .int 801, .int 0]))] sz)) 0 0 (va_A [(a0, .inr (12, [.ref a1, .int 0, .ref a2, .ref a3, .ref a4, .ref a5, .ref a6, .ref a7, .ref a8, .ref a9, .ref a10, .int 0, .int 0, .int 0, .int 0, .int 0, .null, .int 0])), (a2, .inr (8, [.ref a11, .ref a12, .ref a13, .ref a14, .ref a15, .ref a16, .ref a17, .ref a18, .ref a19, .ref a20, .ref a21, .ref a22, .ref a23, .int 0, .int 0, .int 801, .int 0]))] sz) := by
  refine Met.ofW (cc := cX11_term) (maxL := 2) (ret := (some .int)) (by decide) rfl ?_
  intro p e s m args below meth c s₁ B hml hv
  obtain ⟨rfl, hsz, hP, hK, hD0⟩ := hv
  have hx := B.exec
  have hb := B.bytes
  have hr := B.returns
  have hts := atoms_spec (ws := fw_f_X11_term) B.pre
  have hown : s.vm.findClass RX11 = some m.cls := findClass_of_methodNamed B.named
  have hlocks := B.notSynchronized
  subst hsz
  have hD := hD0.self (sz := s.heap.size)
  generalize hAe : va_A [(a0, .inr (12, [.ref a1, .int 0, .ref a2, .ref a3, .ref a4, .ref a5, .ref a6, .ref a7, .ref a8, .ref a9, .ref a10, .int 0, .int 0, .int 0, .int 0, .int 0, .null, .int 0])), (a2, .inr (8, [.ref a11, .ref a12, .ref a13, .ref a14, .ref a15, .ref a16, .ref a17, .ref a18, .ref a19, .ref a20, .ref a21, .ref a22, .ref a23, .int 0, .int 0, .int 801, .int 0]))] s.heap.size = A at hD ⊢
  have hA : ∀ q : Nat, s.heap.size ≤ q → A q := fun q h => by rw [← hAe]; exact Or.inr h
  obtain ⟨H, hH⟩ : ∃ z, z = s.heap := ⟨_, rfl⟩
  rw [← hH] at hP
  have hS : va_S A s.heap H [] := by rw [hH]; exact va_S.rf
  have hP : va_P (dC, dI) vwCl [(a0, .inr (12, [.ref a1, .int 0, .ref a2, .ref a3, .ref a4, .ref a5, .ref a6, .ref a7, .ref a8, .ref a9, .ref a10, .int 0, .int 0, .int 0, .int 0, .int 0, .null, .int 0])), (a2, .inr (8, [.ref a11, .ref a12, .ref a13, .ref a14, .ref a15, .ref a16, .ref a17, .ref a18, .ref a19, .ref a20, .ref a21, .ref a22, .ref a23, .int 0, .int 0, .int 801, .int 0]))] H := hP
  have hl := lv_entry ([.ref a0, .int x0]) (n := 2) (Nat.le_of_ble_eq_true rfl)
  rw [lg_entry_eq]
  generalize (lg_sl ([.ref a0, .int x0]) ++ List.replicate (2 - (lg_sl ([.ref a0, .int x0])).length) Slot.unset).toArray = ls at hl ⊢
  have hl : lv_has ls 2 [(0, .ref a0), (1, .int x0)] := hl
  rw [← hH]
  refine lv_iload_n hx hb dX11_term_0 rfl (lv_at hl 1 rfl) ?_
  refine lv_iconst (v := 1) hx hb dX11_term_1 (by decide) ?_
  refine lv_icmp_lt (tgt := 16) hx hb dX11_term_2 (by decide) (fun c_2 => ?_) (fun c_2 => ?_)
  · refine lv_iconst (v := (-1)) hx hb dX11_term_16 (by decide) ?_
    refine W.widen (k := 0) (n := 0) (Nat.le_of_ble_eq_true rfl) (Nat.le_of_ble_eq_true rfl) ?_
    exact W.iret (v := (-1)) hx hb hr (fun t ht hW => ⟨⟨(-1), (), rfl, rfl, trivial⟩, hS.F ht⟩) hS.2.2 dX11_term_17
  · refine lv_iload_n hx hb dX11_term_5 rfl (lv_at hl 1 rfl) ?_
    refine lv_aload_n hx hb dX11_term_6 rfl (lv_at hl 0 rfl) ?_
    refine va_get (D := (dC, dI)) (ci := 12) (v := .ref a2) (C := RX11) (T := TX11) (N := 18) hx hb hts in_f_X11_term_RX11 hown hK hP 0 rfl rfl 2 (by decide) (hts (.fieldLink RX11 19 "TripleStore" "terms" "LTripleStore$Terms;") (List.mem_of_getElem? (i := 1) rfl)) (fun _ h9 => h9) rfl dX11_term_7 ?_
    refine va_get (D := (dC, dI)) (ci := 8) (v := .int 0) (C := RX7) (T := TX7) (N := 17) hx hb hts in_f_X11_term_RX7 hown hK hP 1 rfl rfl 16 (by decide) (hts (.fieldLink RX11 197 "TripleStore$Terms" "numbered" "I") (List.mem_of_getElem? (i := 2) rfl)) (fun _ h9 => h9) rfl dX11_term_10 ?_
    refine lv_icmp_le (tgt := 18) hx hb dX11_term_13 (by decide) (fun c_13 => ?_) (fun c_13 => ?_)
    · exact absurd c_13 (k_pos c_2)
    · refine lv_iconst (v := (-1)) hx hb dX11_term_16 (by decide) ?_
      refine W.widen (k := 0) (n := 0) (Nat.le_of_ble_eq_true rfl) (Nat.le_of_ble_eq_true rfl) ?_
      exact W.iret (v := (-1)) hx hb hr (fun t ht hW => ⟨⟨(-1), (), rfl, rfl, trivial⟩, hS.F ht⟩) hS.2.2 dX11_term_17
def fw_f_X11_find : List Cond := .code yX11_find cX11_find 7 (some .int) :: ([.fieldLink RX11 26 "TripleStore" "triples" "LTripleStore$Triples;", .fieldLink RX11 196 "TripleStore$Triples" "size" "I"] ++ wsX110 ++ wsX90)
theorem in_f_X11_find_RX11 : ∀ w ∈ u_ws RX11 TX11 18, w ∈ fw_f_X11_find := fun _ h => List.mem_cons_of_mem _ (List.mem_append_left _ (List.mem_append_right _ h))
theorem in_f_X11_find_RX9 : ∀ w ∈ u_ws RX9 TX9 19, w ∈ fw_f_X11_find := fun _ h => List.mem_cons_of_mem _ (List.mem_append_right _ h)
theorem gd_f_X11_find : (fw_f_X11_find).all goodWord = true := by decide +kernel
set_option maxHeartbeats 4000000 in
set_option maxRecDepth 100000 in
theorem f_X11_find (l : Launch) (dC : Nat → ClassId) (dI : Nat → Nat → Nat) (a0 : Nat) (a1 : Nat) (a2 : Nat) (a3 : Nat) (a4 : Nat) (a5 : Nat) (a6 : Nat) (a7 : Nat) (a8 : Nat) (a9 : Nat) (a10 : Nat) (a24 : Nat) (a25 : Nat) (a26 : Nat) (a27 : Nat) (a28 : Nat) (a29 : Nat) (a30 : Nat) (a31 : Nat) (a32 : Nat) (a33 : Nat) (a34 : Nat) (x0 : Int32) (x1 : Int32) (x2 : Int32) (sz : Nat) : Met l yX11_find fw_f_X11_find ({ frames := 1, cells := 0, slots := 0, locals := 20 }) (va_Pc [.ref a0, .int x0, .int x1, .int x2] (fun U => U.heap.size = sz ∧ va_P (dC, dI) vwCl [(a0, .inr (12, [.ref a1, .int 0, .ref a2, .ref a3, .ref a4, .ref a5, .ref a6, .ref a7, .ref a8, .ref a9, .ref a10, .int 0, .int 0, .int 0, .int 0, .int 0, .null, .int 0])), (a3, .inr (10, [.ref a24, .ref a25, .ref a26, .ref a27, .ref a28, .ref a29, .ref a30, .ref a31, .ref a32, .ref a33, .ref a34, .int 0, .int 1, .int 0, .int 0, .int 0, .int 0, .int 0, .int 0]))] U.heap ∧ va_K (dC, dI) vwCl [] U ∧ va_D (fun _ => True) [(a0, .inr (12, [.ref a1, .int 0, .ref a2, .ref a3, .ref a4, .ref a5, .ref a6, .ref a7, .ref a8, .ref a9, .ref a10, .int 0, .int 0, .int 0, .int 0, .int 0, .null, .int 0])), (a3, .inr (10, [.ref a24, .ref a25, .ref a26, .ref a27, .ref a28, .ref a29, .ref a30, .ref a31, .ref a32, .ref a33, .ref a34, .int 0, .int 1, .int 0, .int 0, .int 0, .int 0, .int 0, .int 0]))])) (va_Qi (fun (r : Int32) (_ : Unit) => r = -1) (fun _ _ => True) (va_A [(a0, .inr (12, [.ref a1, .int 0, .ref a2, .ref a3, .ref a4, .ref a5, .ref a6, .ref a7, .ref a8, .ref a9, .ref a10, .int 0, .int 0, .int 0, .int 0, .int 0, .null, .int 0])), (a3, .inr (10, [.ref a24, .ref a25, .ref a26, .ref a27, .ref a28, .ref a29, .ref a30, .ref a31, .ref a32, .ref a33, .ref a34, .int 0, .int 1, .int 0, .int 0, .int 0, .int 0, .int 0, .int 0]))] sz)) 0 0 (va_A [(a0, .inr (12, [.ref a1, .int 0, .ref a2, .ref a3, .ref a4, .ref a5, .ref a6, .ref a7, .ref a8, .ref a9, .ref a10, .int 0, .int 0, .int 0, .int 0, .int 0, .null, .int 0])), (a3, .inr (10, [.ref a24, .ref a25, .ref a26, .ref a27, .ref a28, .ref a29, .ref a30, .ref a31, .ref a32, .ref a33, .ref a34, .int 0, .int 1, .int 0, .int 0, .int 0, .int 0, .int 0, .int 0]))] sz) := by
  refine Met.ofW (cc := cX11_find) (maxL := 7) (ret := (some .int)) (by decide) rfl ?_
  intro p e s m args below meth c s₁ B hml hv
  obtain ⟨rfl, hsz, hP, hK, hD0⟩ := hv
  have hx := B.exec
  have hb := B.bytes
  have hr := B.returns
  have hts := atoms_spec (ws := fw_f_X11_find) B.pre
  have hown : s.vm.findClass RX11 = some m.cls := findClass_of_methodNamed B.named
  have hlocks := B.notSynchronized
  subst hsz
  have hD := hD0.self (sz := s.heap.size)
  generalize hAe : va_A [(a0, .inr (12, [.ref a1, .int 0, .ref a2, .ref a3, .ref a4, .ref a5, .ref a6, .ref a7, .ref a8, .ref a9, .ref a10, .int 0, .int 0, .int 0, .int 0, .int 0, .null, .int 0])), (a3, .inr (10, [.ref a24, .ref a25, .ref a26, .ref a27, .ref a28, .ref a29, .ref a30, .ref a31, .ref a32, .ref a33, .ref a34, .int 0, .int 1, .int 0, .int 0, .int 0, .int 0, .int 0, .int 0]))] s.heap.size = A at hD ⊢
  have hA : ∀ q : Nat, s.heap.size ≤ q → A q := fun q h => by rw [← hAe]; exact Or.inr h
  obtain ⟨H, hH⟩ : ∃ z, z = s.heap := ⟨_, rfl⟩
  rw [← hH] at hP
  have hS : va_S A s.heap H [] := by rw [hH]; exact va_S.rf
  have hP : va_P (dC, dI) vwCl [(a0, .inr (12, [.ref a1, .int 0, .ref a2, .ref a3, .ref a4, .ref a5, .ref a6, .ref a7, .ref a8, .ref a9, .ref a10, .int 0, .int 0, .int 0, .int 0, .int 0, .null, .int 0])), (a3, .inr (10, [.ref a24, .ref a25, .ref a26, .ref a27, .ref a28, .ref a29, .ref a30, .ref a31, .ref a32, .ref a33, .ref a34, .int 0, .int 1, .int 0, .int 0, .int 0, .int 0, .int 0, .int 0]))] H := hP
  have hl := lv_entry ([.ref a0, .int x0, .int x1, .int x2]) (n := 7) (Nat.le_of_ble_eq_true rfl)
  rw [lg_entry_eq]
  generalize (lg_sl ([.ref a0, .int x0, .int x1, .int x2]) ++ List.replicate (7 - (lg_sl ([.ref a0, .int x0, .int x1, .int x2])).length) Slot.unset).toArray = ls at hl ⊢
  have hl : lv_has ls 7 [(0, .ref a0), (1, .int x0), (2, .int x1), (3, .int x2)] := hl
  rw [← hH]
  refine lv_iload_n hx hb dX11_find_0 rfl (lv_at hl 1 rfl) ?_
  refine lv_if_lt (tgt := 33) hx hb dX11_find_1 (by decide) (fun c_1 => ?_) (fun c_1 => ?_)
  · refine lv_iconst (v := (-1)) hx hb dX11_find_33 (by decide) ?_
    refine W.widen (k := 0) (n := 0) (Nat.le_of_ble_eq_true rfl) (Nat.le_of_ble_eq_true rfl) ?_
    exact W.iret (v := (-1)) hx hb hr (fun t ht hW => ⟨⟨(-1), (), rfl, rfl, trivial⟩, hS.F ht⟩) hS.2.2 dX11_find_34
  · refine lv_iload_n hx hb dX11_find_4 rfl (lv_at hl 1 rfl) ?_
    refine lv_iconst (v := 5) hx hb dX11_find_5 (by decide) ?_
    refine lv_icmp_gt (tgt := 33) hx hb dX11_find_6 (by decide) (fun c_6 => ?_) (fun c_6 => ?_)
    · refine lv_iconst (v := (-1)) hx hb dX11_find_33 (by decide) ?_
      refine W.widen (k := 0) (n := 0) (Nat.le_of_ble_eq_true rfl) (Nat.le_of_ble_eq_true rfl) ?_
      exact W.iret (v := (-1)) hx hb hr (fun t ht hW => ⟨⟨(-1), (), rfl, rfl, trivial⟩, hS.F ht⟩) hS.2.2 dX11_find_34
    · refine lv_iload_n hx hb dX11_find_9 rfl (lv_at hl 2 rfl) ?_
      refine lv_if_lt (tgt := 33) hx hb dX11_find_10 (by decide) (fun c_10 => ?_) (fun c_10 => ?_)
      · refine lv_iconst (v := (-1)) hx hb dX11_find_33 (by decide) ?_
        refine W.widen (k := 0) (n := 0) (Nat.le_of_ble_eq_true rfl) (Nat.le_of_ble_eq_true rfl) ?_
        exact W.iret (v := (-1)) hx hb hr (fun t ht hW => ⟨⟨(-1), (), rfl, rfl, trivial⟩, hS.F ht⟩) hS.2.2 dX11_find_34
      · refine lv_iload_n hx hb dX11_find_13 rfl (lv_at hl 2 rfl) ?_
        refine lv_aload_n hx hb dX11_find_14 rfl (lv_at hl 0 rfl) ?_
        refine va_get (D := (dC, dI)) (ci := 12) (v := .ref a3) (C := RX11) (T := TX11) (N := 18) hx hb hts in_f_X11_find_RX11 hown hK hP 0 rfl rfl 3 (by decide) (hts (.fieldLink RX11 26 "TripleStore" "triples" "LTripleStore$Triples;") (List.mem_of_getElem? (i := 1) rfl)) (fun _ h9 => h9) rfl dX11_find_15 ?_
        refine va_get (D := (dC, dI)) (ci := 10) (v := .int 0) (C := RX9) (T := TX9) (N := 19) hx hb hts in_f_X11_find_RX9 hown hK hP 1 rfl rfl 13 (by decide) (hts (.fieldLink RX11 196 "TripleStore$Triples" "size" "I") (List.mem_of_getElem? (i := 2) rfl)) (fun _ h9 => h9) rfl dX11_find_18 ?_
        refine lv_icmp_ge (tgt := 33) hx hb dX11_find_21 (by decide) (fun c_21 => ?_) (fun c_21 => ?_)
        · refine lv_iconst (v := (-1)) hx hb dX11_find_33 (by decide) ?_
          refine W.widen (k := 0) (n := 0) (Nat.le_of_ble_eq_true rfl) (Nat.le_of_ble_eq_true rfl) ?_
          exact W.iret (v := (-1)) hx hb hr (fun t ht hW => ⟨⟨(-1), (), rfl, rfl, trivial⟩, hS.F ht⟩) hS.2.2 dX11_find_34
        · exact absurd (Int32.not_lt.mp c_10) c_21
def fw_f_X9_arrange : List Cond := .code yX9_arrange cX9_arrange 4 none :: ([.fieldLink RX9 48 "TripleStore$Triples" "arranged" "Z"] ++ wsX90)
theorem in_f_X9_arrange_RX9 : ∀ w ∈ u_ws RX9 TX9 19, w ∈ fw_f_X9_arrange := fun _ h => List.mem_cons_of_mem _ (List.mem_append_right _ h)
theorem gd_f_X9_arrange : (fw_f_X9_arrange).all goodWord = true := by decide +kernel
set_option maxHeartbeats 4000000 in
set_option maxRecDepth 100000 in
theorem f_X9_arrange (l : Launch) (dC : Nat → ClassId) (dI : Nat → Nat → Nat) (a0 : Nat) (a1 : Nat) (a2 : Nat) (a3 : Nat) (a4 : Nat) (a5 : Nat) (a6 : Nat) (a7 : Nat) (a8 : Nat) (a9 : Nat) (a10 : Nat) (a11 : Nat) (sz : Nat) : Met l yX9_arrange fw_f_X9_arrange ({ frames := 1, cells := 0, slots := 0, locals := 20 }) (va_Pc [.ref a0] (fun U => U.heap.size = sz ∧ va_P (dC, dI) vwCl [(a0, .inr (10, [.ref a1, .ref a2, .ref a3, .ref a4, .ref a5, .ref a6, .ref a7, .ref a8, .ref a9, .ref a10, .ref a11, .int 0, .int 1, .int 0, .int 0, .int 0, .int 0, .int 0, .int 0]))] U.heap ∧ va_K (dC, dI) vwCl [] U ∧ va_D (fun _ => True) [(a0, .inr (10, [.ref a1, .ref a2, .ref a3, .ref a4, .ref a5, .ref a6, .ref a7, .ref a8, .ref a9, .ref a10, .ref a11, .int 0, .int 1, .int 0, .int 0, .int 0, .int 0, .int 0, .int 0]))])) (va_Qv (fun _ : Unit => True) (fun _ t => va_P (dC, dI) vwCl [(a0, .inr (10, [.ref a1, .ref a2, .ref a3, .ref a4, .ref a5, .ref a6, .ref a7, .ref a8, .ref a9, .ref a10, .ref a11, .int 0, .int 1, .int 0, .int 0, .int 0, .int 0, .int 0, .int 0]))] t.heap ∧ va_K (dC, dI) vwCl [] t ∧ va_D (va_A [(a0, .inr (10, [.ref a1, .ref a2, .ref a3, .ref a4, .ref a5, .ref a6, .ref a7, .ref a8, .ref a9, .ref a10, .ref a11, .int 0, .int 1, .int 0, .int 0, .int 0, .int 0, .int 0, .int 0]))] sz) [(a0, .inr (10, [.ref a1, .ref a2, .ref a3, .ref a4, .ref a5, .ref a6, .ref a7, .ref a8, .ref a9, .ref a10, .ref a11, .int 0, .int 1, .int 0, .int 0, .int 0, .int 0, .int 0, .int 0]))]) (va_A [(a0, .inr (10, [.ref a1, .ref a2, .ref a3, .ref a4, .ref a5, .ref a6, .ref a7, .ref a8, .ref a9, .ref a10, .ref a11, .int 0, .int 1, .int 0, .int 0, .int 0, .int 0, .int 0, .int 0]))] sz)) 0 0 (va_A [(a0, .inr (10, [.ref a1, .ref a2, .ref a3, .ref a4, .ref a5, .ref a6, .ref a7, .ref a8, .ref a9, .ref a10, .ref a11, .int 0, .int 1, .int 0, .int 0, .int 0, .int 0, .int 0, .int 0]))] sz) := by
  refine Met.ofW (cc := cX9_arrange) (maxL := 4) (ret := none) (by decide) rfl ?_
  intro p e s m args below meth c s₁ B hml hv
  obtain ⟨rfl, hsz, hP, hK, hD0⟩ := hv
  have hx := B.exec
  have hb := B.bytes
  have hr := B.returns
  have hts := atoms_spec (ws := fw_f_X9_arrange) B.pre
  have hown : s.vm.findClass RX9 = some m.cls := findClass_of_methodNamed B.named
  have hlocks := B.notSynchronized
  subst hsz
  have hD := hD0.self (sz := s.heap.size)
  generalize hAe : va_A [(a0, .inr (10, [.ref a1, .ref a2, .ref a3, .ref a4, .ref a5, .ref a6, .ref a7, .ref a8, .ref a9, .ref a10, .ref a11, .int 0, .int 1, .int 0, .int 0, .int 0, .int 0, .int 0, .int 0]))] s.heap.size = A at hD ⊢
  have hA : ∀ q : Nat, s.heap.size ≤ q → A q := fun q h => by rw [← hAe]; exact Or.inr h
  obtain ⟨H, hH⟩ : ∃ z, z = s.heap := ⟨_, rfl⟩
  rw [← hH] at hP
  have hS : va_S A s.heap H [] := by rw [hH]; exact va_S.rf
  have hP : va_P (dC, dI) vwCl [(a0, .inr (10, [.ref a1, .ref a2, .ref a3, .ref a4, .ref a5, .ref a6, .ref a7, .ref a8, .ref a9, .ref a10, .ref a11, .int 0, .int 1, .int 0, .int 0, .int 0, .int 0, .int 0, .int 0]))] H := hP
  have hl := lv_entry ([.ref a0]) (n := 4) (Nat.le_of_ble_eq_true rfl)
  rw [lg_entry_eq]
  generalize (lg_sl ([.ref a0]) ++ List.replicate (4 - (lg_sl ([.ref a0])).length) Slot.unset).toArray = ls at hl ⊢
  have hl : lv_has ls 4 [(0, .ref a0)] := hl
  rw [← hH]
  refine lv_iconst (v := 0) hx hb dX9_arrange_0 (by decide) ?_
  refine lv_istore_n (lv' := [(1, .int 0), (0, .ref a0)]) hx hb dX9_arrange_1 rfl hl (by decide) rfl (fun ls hl => ?_)
  refine lv_iload_n hx hb dX9_arrange_2 rfl (lv_at hl 0 rfl) ?_
  refine lv_bipush (v := 6) hx hb dX9_arrange_3 (by decide) ?_
  refine lv_icmp_ge (tgt := 181) hx hb dX9_arrange_5 (by decide) (fun c9 => absurd c9 (by decide +kernel)) (fun _ => ?_)
  refine lv_aload_n hx hb dX9_arrange_8 rfl (lv_at hl 1 rfl) ?_
  refine va_get (D := (dC, dI)) (ci := 10) (v := .int 1) (C := RX9) (T := TX9) (N := 19) hx hb hts in_f_X9_arrange_RX9 hown hK hP 0 rfl rfl 12 (by decide) (hts (.fieldLink RX9 48 "TripleStore$Triples" "arranged" "Z") (List.mem_of_getElem? (i := 1) rfl)) (fun _ h9 => h9) rfl dX9_arrange_9 ?_
  refine lv_if_ne (tgt := 181) hx hb dX9_arrange_12 (by decide) (fun _ => ?_) (fun c9 => absurd c9 (by decide +kernel))
  refine lv_aload_n hx hb dX9_arrange_181 rfl (lv_at hl 1 rfl) ?_
  refine lv_iconst (v := 1) hx hb dX9_arrange_182 (by decide) ?_
  refine va_put (D := (dC, dI)) (ci := 10) (v := .int 1) (ty := .boolean) (C := RX9) (T := TX9) (N := 19) hx hb hts in_f_X9_arrange_RX9 tyX9 tyX9_ok nmX9 hown hK hP hD hS 0 rfl rfl 12 (by decide) (hts (.fieldLink RX9 48 "TripleStore$Triples" "arranged" "Z") (List.mem_of_getElem? (i := 1) rfl)) (fun _ h9 => h9) rfl (by decide +kernel) rfl rfl (Nat.le_of_ble_eq_true rfl) dX9_arrange_183 (fun H locs hP hD hS => ?_)
  have hP : va_P (dC, dI) vwCl [(a0, .inr (10, [.ref a1, .ref a2, .ref a3, .ref a4, .ref a5, .ref a6, .ref a7, .ref a8, .ref a9, .ref a10, .ref a11, .int 0, .int 1, .int 0, .int 0, .int 0, .int 0, .int 0, .int 0]))] H := hP
  have hD : va_D A [(a0, .inr (10, [.ref a1, .ref a2, .ref a3, .ref a4, .ref a5, .ref a6, .ref a7, .ref a8, .ref a9, .ref a10, .ref a11, .int 0, .int 1, .int 0, .int 0, .int 0, .int 0, .int 0, .int 0]))] := hD
  exact W.vret hx hb hr (fun t ht hW => ⟨⟨(), rfl, trivial, by rw [ht]; exact hP, va_K.moved hW.alike hK, hD⟩, hS.F ht⟩) hS.2.2 dX9_arrange_186
def fw_f_X9_locate : List Cond := .code yX9_locate cX9_locate 9 none :: ([.methodLink RX9 112 Lib.Math.min.name, .static Lib.Math.min.name, .initialized "java/lang/Math", .code Lib.Math.min.name Lib.Math.min.code 2 (some .int), .methodLink RX9 123 Lib.Math.max.name, .static Lib.Math.max.name, .code Lib.Math.max.name Lib.Math.max.code 2 (some .int), .fieldLink RX9 126 "TripleStore$Triples" "order" "I", .fieldLink RX9 129 "TripleStore$Triples" "from" "I", .fieldLink RX9 65 "TripleStore$Triples" "size" "I", .fieldLink RX9 132 "TripleStore$Triples" "to" "I"] ++ wsX90)
theorem in_f_X9_locate_RX9 : ∀ w ∈ u_ws RX9 TX9 19, w ∈ fw_f_X9_locate := fun _ h => List.mem_cons_of_mem _ (List.mem_append_right _ h)
theorem gd_f_X9_locate : (fw_f_X9_locate).all goodWord = true := by decide +kernel
set_option maxHeartbeats 4000000 in
set_option maxRecDepth 100000 in
theorem f_X9_locate (l : Launch) (dC : Nat → ClassId) (dI : Nat → Nat → Nat) (a0 : Nat) (a1 : Nat) (a2 : Nat) (a3 : Nat) (a4 : Nat) (a5 : Nat) (a6 : Nat) (a7 : Nat) (a8 : Nat) (a9 : Nat) (a10 : Nat) (a11 : Nat) (x0 : Int32) (sz : Nat) : Met l yX9_locate fw_f_X9_locate ({ frames := 1, cells := 0, slots := 0, locals := 20 }) (va_Pc [.ref a0, .int x0, .int 0, .int 0, .int 0, .int 0] (fun U => U.heap.size = sz ∧ va_P (dC, dI) vwCl [(a0, .inr (10, [.ref a1, .ref a2, .ref a3, .ref a4, .ref a5, .ref a6, .ref a7, .ref a8, .ref a9, .ref a10, .ref a11, .int 0, .int 1, .int 0, .int 0, .int 0, .int 0, .int 0, .int 0]))] U.heap ∧ va_K (dC, dI) vwCl [] U ∧ va_D (fun _ => True) [(a0, .inr (10, [.ref a1, .ref a2, .ref a3, .ref a4, .ref a5, .ref a6, .ref a7, .ref a8, .ref a9, .ref a10, .ref a11, .int 0, .int 1, .int 0, .int 0, .int 0, .int 0, .int 0, .int 0]))])) (va_Qv (fun _ : Unit => True) (fun _ t => va_P (dC, dI) vwCl [(a0, .inr (10, [.ref a1, .ref a2, .ref a3, .ref a4, .ref a5, .ref a6, .ref a7, .ref a8, .ref a9, .ref a10, .ref a11, .int 0, .int 1, .int 0, .int 0, .int 0, .int 0, .int 0, .int (if 0 < (if x0 < 5 then x0 else 5) then (if x0 < 5 then x0 else 5) else 0)]))] t.heap ∧ va_K (dC, dI) vwCl [] t ∧ va_D (va_A [(a0, .inr (10, [.ref a1, .ref a2, .ref a3, .ref a4, .ref a5, .ref a6, .ref a7, .ref a8, .ref a9, .ref a10, .ref a11, .int 0, .int 1, .int 0, .int 0, .int 0, .int 0, .int 0, .int 0]))] sz) [(a0, .inr (10, [.ref a1, .ref a2, .ref a3, .ref a4, .ref a5, .ref a6, .ref a7, .ref a8, .ref a9, .ref a10, .ref a11, .int 0, .int 1, .int 0, .int 0, .int 0, .int 0, .int 0, .int (if 0 < (if x0 < 5 then x0 else 5) then (if x0 < 5 then x0 else 5) else 0)]))]) (va_A [(a0, .inr (10, [.ref a1, .ref a2, .ref a3, .ref a4, .ref a5, .ref a6, .ref a7, .ref a8, .ref a9, .ref a10, .ref a11, .int 0, .int 1, .int 0, .int 0, .int 0, .int 0, .int 0, .int 0]))] sz)) 0 0 (va_A [(a0, .inr (10, [.ref a1, .ref a2, .ref a3, .ref a4, .ref a5, .ref a6, .ref a7, .ref a8, .ref a9, .ref a10, .ref a11, .int 0, .int 1, .int 0, .int 0, .int 0, .int 0, .int 0, .int 0]))] sz) := by
  refine Met.ofW (cc := cX9_locate) (maxL := 9) (ret := none) (by decide) rfl ?_
  intro p e s m args below meth c s₁ B hml hv
  obtain ⟨rfl, hsz, hP, hK, hD0⟩ := hv
  have hx := B.exec
  have hb := B.bytes
  have hr := B.returns
  have hts := atoms_spec (ws := fw_f_X9_locate) B.pre
  have hown : s.vm.findClass RX9 = some m.cls := findClass_of_methodNamed B.named
  have hlocks := B.notSynchronized
  subst hsz
  have hD := hD0.self (sz := s.heap.size)
  generalize hAe : va_A [(a0, .inr (10, [.ref a1, .ref a2, .ref a3, .ref a4, .ref a5, .ref a6, .ref a7, .ref a8, .ref a9, .ref a10, .ref a11, .int 0, .int 1, .int 0, .int 0, .int 0, .int 0, .int 0, .int 0]))] s.heap.size = A at hD ⊢
  have hA : ∀ q : Nat, s.heap.size ≤ q → A q := fun q h => by rw [← hAe]; exact Or.inr h
  obtain ⟨H, hH⟩ : ∃ z, z = s.heap := ⟨_, rfl⟩
  rw [← hH] at hP
  have hS : va_S A s.heap H [] := by rw [hH]; exact va_S.rf
  have hP : va_P (dC, dI) vwCl [(a0, .inr (10, [.ref a1, .ref a2, .ref a3, .ref a4, .ref a5, .ref a6, .ref a7, .ref a8, .ref a9, .ref a10, .ref a11, .int 0, .int 1, .int 0, .int 0, .int 0, .int 0, .int 0, .int 0]))] H := hP
  have hl := lv_entry ([.ref a0, .int x0, .int 0, .int 0, .int 0, .int 0]) (n := 9) (Nat.le_of_ble_eq_true rfl)
  rw [lg_entry_eq]
  generalize (lg_sl ([.ref a0, .int x0, .int 0, .int 0, .int 0, .int 0]) ++ List.replicate (9 - (lg_sl ([.ref a0, .int x0, .int 0, .int 0, .int 0, .int 0])).length) Slot.unset).toArray = ls at hl ⊢
  have hl : lv_has ls 9 [(0, .ref a0), (1, .int x0), (2, .int 0), (3, .int 0), (4, .int 0), (5, .int 0)] := hl
  rw [← hH]
  refine lv_aload_n hx hb dX9_locate_0 rfl (lv_at hl 0 rfl) ?_
  refine lv_iconst (v := 0) hx hb dX9_locate_1 (by decide) ?_
  refine lv_iconst (v := 5) hx hb dX9_locate_2 (by decide) ?_
  refine lv_iload_n hx hb dX9_locate_3 rfl (lv_at hl 1 rfl) ?_
  refine va_mmin hx hb (by rw [hml]; exact hl.1.symm) hown (hts (.methodLink RX9 112 Lib.Math.min.name) (List.mem_of_getElem? (i := 1) rfl)) (hts (.static Lib.Math.min.name) (List.mem_of_getElem? (i := 2) rfl)) (hts (.initialized "java/lang/Math") (List.mem_of_getElem? (i := 3) rfl)) (hts (.code Lib.Math.min.name Lib.Math.min.code 2 (some .int)) (List.mem_of_getElem? (i := 4) rfl)) (Nat.le_of_ble_eq_true rfl) (Nat.le_of_ble_eq_true rfl) (Nat.le_of_ble_eq_true rfl) (Nat.le_of_ble_eq_true rfl) dX9_locate_4 ?_
  refine va_mmax hx hb (by rw [hml]; exact hl.1.symm) hown (hts (.methodLink RX9 123 Lib.Math.max.name) (List.mem_of_getElem? (i := 5) rfl)) (hts (.static Lib.Math.max.name) (List.mem_of_getElem? (i := 6) rfl)) (hts (.initialized "java/lang/Math") (List.mem_of_getElem? (i := 3) rfl)) (hts (.code Lib.Math.max.name Lib.Math.max.code 2 (some .int)) (List.mem_of_getElem? (i := 7) rfl)) (Nat.le_of_ble_eq_true rfl) (Nat.le_of_ble_eq_true rfl) (Nat.le_of_ble_eq_true rfl) (Nat.le_of_ble_eq_true rfl) dX9_locate_7 ?_
  refine va_put (D := (dC, dI)) (ci := 10) (v := .int (if 0 < (if x0 < 5 then x0 else 5) then (if x0 < 5 then x0 else 5) else 0)) (ty := .int) (C := RX9) (T := TX9) (N := 19) hx hb hts in_f_X9_locate_RX9 tyX9 tyX9_ok nmX9 hown hK hP hD hS 0 rfl rfl 18 (by decide) (hts (.fieldLink RX9 126 "TripleStore$Triples" "order" "I") (List.mem_of_getElem? (i := 8) rfl)) (fun _ h9 => h9) rfl (by decide +kernel) rfl rfl (Nat.le_of_ble_eq_true rfl) dX9_locate_10 (fun H locs hP hD hS => ?_)
  have hP : va_P (dC, dI) vwCl [(a0, .inr (10, [.ref a1, .ref a2, .ref a3, .ref a4, .ref a5, .ref a6, .ref a7, .ref a8, .ref a9, .ref a10, .ref a11, .int 0, .int 1, .int 0, .int 0, .int 0, .int 0, .int 0, .int (if 0 < (if x0 < 5 then x0 else 5) then (if x0 < 5 then x0 else 5) else 0)]))] H := hP
  have hD : va_D A [(a0, .inr (10, [.ref a1, .ref a2, .ref a3, .ref a4, .ref a5, .ref a6, .ref a7, .ref a8, .ref a9, .ref a10, .ref a11, .int 0, .int 1, .int 0, .int 0, .int 0, .int 0, .int 0, .int (if 0 < (if x0 < 5 then x0 else 5) then (if x0 < 5 then x0 else 5) else 0)]))] := hD
  refine lv_iconst (v := 0) hx hb dX9_locate_13 (by decide) ?_
  refine lv_iload_n hx hb dX9_locate_14 rfl (lv_at hl 3 rfl) ?_
  refine lv_sipush (v := 1023) hx hb dX9_locate_15 (by decide) ?_
  refine va_mmin hx hb (by rw [hml]; exact hl.1.symm) hown (hts (.methodLink RX9 112 Lib.Math.min.name) (List.mem_of_getElem? (i := 1) rfl)) (hts (.static Lib.Math.min.name) (List.mem_of_getElem? (i := 2) rfl)) (hts (.initialized "java/lang/Math") (List.mem_of_getElem? (i := 3) rfl)) (hts (.code Lib.Math.min.name Lib.Math.min.code 2 (some .int)) (List.mem_of_getElem? (i := 4) rfl)) (Nat.le_of_ble_eq_true rfl) (Nat.le_of_ble_eq_true rfl) (Nat.le_of_ble_eq_true rfl) (Nat.le_of_ble_eq_true rfl) dX9_locate_18 ?_
  refine W.eq (congrArg (fun z : Int32 => F0 m 21 ls (.int z :: [.int 0])) (by decide +kernel : (if 1023 < (0 : Int32) then 1023 else (0 : Int32) : Int32) = 0)) ?_
  refine va_mmax hx hb (by rw [hml]; exact hl.1.symm) hown (hts (.methodLink RX9 123 Lib.Math.max.name) (List.mem_of_getElem? (i := 5) rfl)) (hts (.static Lib.Math.max.name) (List.mem_of_getElem? (i := 6) rfl)) (hts (.initialized "java/lang/Math") (List.mem_of_getElem? (i := 3) rfl)) (hts (.code Lib.Math.max.name Lib.Math.max.code 2 (some .int)) (List.mem_of_getElem? (i := 7) rfl)) (Nat.le_of_ble_eq_true rfl) (Nat.le_of_ble_eq_true rfl) (Nat.le_of_ble_eq_true rfl) (Nat.le_of_ble_eq_true rfl) dX9_locate_21 ?_
  refine W.eq (congrArg (fun z : Int32 => F0 m 24 ls (.int z :: [])) (by decide +kernel : (if (0 : Int32) < 0 then 0 else (0 : Int32) : Int32) = 0)) ?_
  refine lv_istore (lv' := [(6, .int 0), (0, .ref a0), (1, .int x0), (2, .int 0), (3, .int 0), (4, .int 0), (5, .int 0)]) hx hb dX9_locate_24 hl (by decide) rfl (fun ls hl => ?_)
  refine lv_aload_n hx hb dX9_locate_26 rfl (lv_at hl 1 rfl) ?_
  refine lv_iload_n hx hb dX9_locate_27 rfl (lv_at hl 3 rfl) ?_
  refine lv_if_ne (tgt := 35) hx hb dX9_locate_28 (by decide) (fun c9 => absurd (by decide +kernel) c9) (fun _ => ?_)
  refine lv_iconst (v := 0) hx hb dX9_locate_31 (by decide) ?_
  refine lv_goto (tgt := 47) hx hb dX9_locate_32 (by decide) ?_
  refine va_put (D := (dC, dI)) (ci := 10) (v := .int 0) (ty := .int) (C := RX9) (T := TX9) (N := 19) hx hb hts in_f_X9_locate_RX9 tyX9 tyX9_ok nmX9 hown hK hP hD hS 0 rfl rfl 16 (by decide) (hts (.fieldLink RX9 129 "TripleStore$Triples" "from" "I") (List.mem_of_getElem? (i := 9) rfl)) (fun _ h9 => h9) rfl (by decide +kernel) rfl rfl (Nat.le_of_ble_eq_true rfl) dX9_locate_47 (fun H locs hP hD hS => ?_)
  have hP : va_P (dC, dI) vwCl [(a0, .inr (10, [.ref a1, .ref a2, .ref a3, .ref a4, .ref a5, .ref a6, .ref a7, .ref a8, .ref a9, .ref a10, .ref a11, .int 0, .int 1, .int 0, .int 0, .int 0, .int 0, .int 0, .int (if 0 < (if x0 < 5 then x0 else 5) then (if x0 < 5 then x0 else 5) else 0)]))] H := hP
  have hD : va_D A [(a0, .inr (10, [.ref a1, .ref a2, .ref a3, .ref a4, .ref a5, .ref a6, .ref a7, .ref a8, .ref a9, .ref a10, .ref a11, .int 0, .int 1, .int 0, .int 0, .int 0, .int 0, .int 0, .int (if 0 < (if x0 < 5 then x0 else 5) then (if x0 < 5 then x0 else 5) else 0)]))] := hD
  refine lv_aload_n hx hb dX9_locate_50 rfl (lv_at hl 1 rfl) ?_
  refine lv_iload_n hx hb dX9_locate_51 rfl (lv_at hl 3 rfl) ?_
  refine lv_if_ne (tgt := 62) hx hb dX9_locate_52 (by decide) (fun c9 => absurd (by decide +kernel) c9) (fun _ => ?_)
  refine lv_aload_n hx hb dX9_locate_55 rfl (lv_at hl 1 rfl) ?_
  refine va_get (D := (dC, dI)) (ci := 10) (v := .int 0) (C := RX9) (T := TX9) (N := 19) hx hb hts in_f_X9_locate_RX9 hown hK hP 0 rfl rfl 13 (by decide) (hts (.fieldLink RX9 65 "TripleStore$Triples" "size" "I") (List.mem_of_getElem? (i := 10) rfl)) (fun _ h9 => h9) rfl dX9_locate_56 ?_
  refine lv_goto (tgt := 76) hx hb dX9_locate_59 (by decide) ?_
  refine va_put (D := (dC, dI)) (ci := 10) (v := .int 0) (ty := .int) (C := RX9) (T := TX9) (N := 19) hx hb hts in_f_X9_locate_RX9 tyX9 tyX9_ok nmX9 hown hK hP hD hS 0 rfl rfl 17 (by decide) (hts (.fieldLink RX9 132 "TripleStore$Triples" "to" "I") (List.mem_of_getElem? (i := 11) rfl)) (fun _ h9 => h9) rfl (by decide +kernel) rfl rfl (Nat.le_of_ble_eq_true rfl) dX9_locate_76 (fun H locs hP hD hS => ?_)
  have hP : va_P (dC, dI) vwCl [(a0, .inr (10, [.ref a1, .ref a2, .ref a3, .ref a4, .ref a5, .ref a6, .ref a7, .ref a8, .ref a9, .ref a10, .ref a11, .int 0, .int 1, .int 0, .int 0, .int 0, .int 0, .int 0, .int (if 0 < (if x0 < 5 then x0 else 5) then (if x0 < 5 then x0 else 5) else 0)]))] H := hP
  have hD : va_D A [(a0, .inr (10, [.ref a1, .ref a2, .ref a3, .ref a4, .ref a5, .ref a6, .ref a7, .ref a8, .ref a9, .ref a10, .ref a11, .int 0, .int 1, .int 0, .int 0, .int 0, .int 0, .int 0, .int (if 0 < (if x0 < 5 then x0 else 5) then (if x0 < 5 then x0 else 5) else 0)]))] := hD
  refine lv_iload_n hx hb dX9_locate_79 rfl (lv_at hl 3 rfl) ?_
  refine lv_iconst (v := 1) hx hb dX9_locate_80 (by decide) ?_
  refine lv_icmp_le (tgt := 163) hx hb dX9_locate_81 (by decide) (fun _ => ?_) (fun c9 => absurd (by decide +kernel) c9)
  exact W.vret hx hb hr (fun t ht hW => ⟨⟨(), rfl, trivial, by rw [ht]; exact hP, va_K.moved hW.alike hK, hD⟩, hS.F ht⟩) hS.2.2 dX9_locate_163
def fw_f_X7_isNumber : List Cond := .code yX7_isNumber cX7_isNumber 2 (some .boolean) :: ([.fieldLink RX7 61 "TripleStore$Terms" "numbered" "I"] ++ wsX70)
theorem in_f_X7_isNumber_RX7 : ∀ w ∈ u_ws RX7 TX7 17, w ∈ fw_f_X7_isNumber := fun _ h => List.mem_cons_of_mem _ (List.mem_append_right _ h)
theorem gd_f_X7_isNumber : (fw_f_X7_isNumber).all goodWord = true := by decide +kernel
set_option maxHeartbeats 4000000 in
set_option maxRecDepth 100000 in
theorem f_X7_isNumber (l : Launch) (dC : Nat → ClassId) (dI : Nat → Nat → Nat) (a0 : Nat) (a1 : Nat) (a2 : Nat) (a3 : Nat) (a4 : Nat) (a5 : Nat) (a6 : Nat) (a7 : Nat) (a8 : Nat) (a9 : Nat) (a10 : Nat) (a11 : Nat) (a12 : Nat) (a13 : Nat) (x0 : Int32) (sz : Nat) : Met l yX7_isNumber fw_f_X7_isNumber ({ frames := 1, cells := 0, slots := 0, locals := 20 }) (va_Pc [.ref a0, .int x0] (fun U => U.heap.size = sz ∧ va_P (dC, dI) vwCl [(a0, .inr (8, [.ref a1, .ref a2, .ref a3, .ref a4, .ref a5, .ref a6, .ref a7, .ref a8, .ref a9, .ref a10, .ref a11, .ref a12, .ref a13, .int 0, .int 0, .int 801, .int 0]))] U.heap ∧ va_K (dC, dI) vwCl [] U ∧ va_D (fun _ => True) [(a0, .inr (8, [.ref a1, .ref a2, .ref a3, .ref a4, .ref a5, .ref a6, .ref a7, .ref a8, .ref a9, .ref a10, .ref a11, .ref a12, .ref a13, .int 0, .int 0, .int 801, .int 0]))])) (va_Qi (fun (r : Int32) (_ : Unit) => r = 0) (fun _ _ => True) (va_A [(a0, .inr (8, [.ref a1, .ref a2, .ref a3, .ref a4, .ref a5, .ref a6, .ref a7, .ref a8, .ref a9, .ref a10, .ref a11, .ref a12, .ref a13, .int 0, .int 0, .int 801, .int 0]))] sz)) 0 0 (va_A [(a0, .inr (8, [.ref a1, .ref a2, .ref a3, .ref a4, .ref a5, .ref a6, .ref a7, .ref a8, .ref a9, .ref a10, .ref a11, .ref a12, .ref a13, .int 0, .int 0, .int 801, .int 0]))] sz) := by
  refine Met.ofW (cc := cX7_isNumber) (maxL := 2) (ret := (some .boolean)) (by decide) rfl ?_
  intro p e s m args below meth c s₁ B hml hv
  obtain ⟨rfl, hsz, hP, hK, hD0⟩ := hv
  have hx := B.exec
  have hb := B.bytes
  have hr := B.returns
  have hts := atoms_spec (ws := fw_f_X7_isNumber) B.pre
  have hown : s.vm.findClass RX7 = some m.cls := findClass_of_methodNamed B.named
  have hlocks := B.notSynchronized
  subst hsz
  have hD := hD0.self (sz := s.heap.size)
  generalize hAe : va_A [(a0, .inr (8, [.ref a1, .ref a2, .ref a3, .ref a4, .ref a5, .ref a6, .ref a7, .ref a8, .ref a9, .ref a10, .ref a11, .ref a12, .ref a13, .int 0, .int 0, .int 801, .int 0]))] s.heap.size = A at hD ⊢
  have hA : ∀ q : Nat, s.heap.size ≤ q → A q := fun q h => by rw [← hAe]; exact Or.inr h
  obtain ⟨H, hH⟩ : ∃ z, z = s.heap := ⟨_, rfl⟩
  rw [← hH] at hP
  have hS : va_S A s.heap H [] := by rw [hH]; exact va_S.rf
  have hP : va_P (dC, dI) vwCl [(a0, .inr (8, [.ref a1, .ref a2, .ref a3, .ref a4, .ref a5, .ref a6, .ref a7, .ref a8, .ref a9, .ref a10, .ref a11, .ref a12, .ref a13, .int 0, .int 0, .int 801, .int 0]))] H := hP
  have hl := lv_entry ([.ref a0, .int x0]) (n := 2) (Nat.le_of_ble_eq_true rfl)
  rw [lg_entry_eq]
  generalize (lg_sl ([.ref a0, .int x0]) ++ List.replicate (2 - (lg_sl ([.ref a0, .int x0])).length) Slot.unset).toArray = ls at hl ⊢
  have hl : lv_has ls 2 [(0, .ref a0), (1, .int x0)] := hl
  rw [← hH]
  refine lv_iload_n hx hb dX7_isNumber_0 rfl (lv_at hl 1 rfl) ?_
  refine lv_iconst (v := 1) hx hb dX7_isNumber_1 (by decide) ?_
  refine lv_icmp_lt (tgt := 17) hx hb dX7_isNumber_2 (by decide) (fun c_2 => ?_) (fun c_2 => ?_)
  · refine lv_iconst (v := 0) hx hb dX7_isNumber_17 (by decide) ?_
    refine W.widen (k := 0) (n := 0) (Nat.le_of_ble_eq_true rfl) (Nat.le_of_ble_eq_true rfl) ?_
    exact W.zret (v := 0) hx hb hr rfl (fun t ht hW => ⟨⟨0, (), rfl, rfl, trivial⟩, hS.F ht⟩) hS.2.2 dX7_isNumber_18
  · refine lv_iload_n hx hb dX7_isNumber_5 rfl (lv_at hl 1 rfl) ?_
    refine lv_aload_n hx hb dX7_isNumber_6 rfl (lv_at hl 0 rfl) ?_
    refine va_get (D := (dC, dI)) (ci := 8) (v := .int 0) (C := RX7) (T := TX7) (N := 17) hx hb hts in_f_X7_isNumber_RX7 hown hK hP 0 rfl rfl 16 (by decide) (hts (.fieldLink RX7 61 "TripleStore$Terms" "numbered" "I") (List.mem_of_getElem? (i := 1) rfl)) (fun _ h9 => h9) rfl dX7_isNumber_7 ?_
    refine lv_icmp_gt (tgt := 17) hx hb dX7_isNumber_10 (by decide) (fun c_10 => ?_) (fun c_10 => ?_)
    · refine lv_iconst (v := 0) hx hb dX7_isNumber_17 (by decide) ?_
      refine W.widen (k := 0) (n := 0) (Nat.le_of_ble_eq_true rfl) (Nat.le_of_ble_eq_true rfl) ?_
      exact W.zret (v := 0) hx hb hr rfl (fun t ht hW => ⟨⟨0, (), rfl, rfl, trivial⟩, hS.F ht⟩) hS.2.2 dX7_isNumber_18
    · exact absurd (Int32.not_lt.mp c_2) (k_npos c_10)
def fw_f_X11_count : List Cond := .code yX11_count cX11_count 7 (some .int) :: ([.fieldLink RX11 26 "TripleStore" "triples" "LTripleStore$Triples;", .methodLink RX11 201 yX9_arrange, .instanceMethod yX9_arrange, .selects RX9 yX9_arrange yX9_arrange, .initialized RX9, .methodLink RX11 218 yX9_locate, .instanceMethod yX9_locate, .selects RX9 yX9_locate yX9_locate, .fieldLink RX11 222 "TripleStore$Triples" "to" "I", .fieldLink RX11 225 "TripleStore$Triples" "from" "I", .fieldLink RX11 19 "TripleStore" "terms" "LTripleStore$Terms;", .methodLink RX11 215 yX7_isNumber, .instanceMethod yX7_isNumber, .selects RX7 yX7_isNumber yX7_isNumber, .initialized RX7] ++ wsX110 ++ wsX90 ++ fw_f_X9_arrange ++ fw_f_X9_locate ++ fw_f_X7_isNumber)
theorem in_f_X11_count_RX11 : ∀ w ∈ u_ws RX11 TX11 18, w ∈ fw_f_X11_count := fun _ h => List.mem_cons_of_mem _ (List.mem_append_left _ (List.mem_append_left _ (List.mem_append_left _ (List.mem_append_left _ (List.mem_append_right _ h)))))
theorem in_f_X11_count_RX9 : ∀ w ∈ u_ws RX9 TX9 19, w ∈ fw_f_X11_count := fun _ h => List.mem_cons_of_mem _ (List.mem_append_left _ (List.mem_append_left _ (List.mem_append_left _ (List.mem_append_right _ h))))
theorem gd_f_X11_count : (fw_f_X11_count).all goodWord = true := by decide +kernel
theorem gf_f_X11_count_f_X9_arrange : GoodIn fw_f_X11_count fw_f_X9_arrange := goodIn_sub (fun _ h => List.mem_cons_of_mem _ (List.mem_append_left _ (List.mem_append_left _ (List.mem_append_right _ h)))) gd_f_X9_arrange
theorem gf_f_X11_count_f_X9_locate : GoodIn fw_f_X11_count fw_f_X9_locate := goodIn_sub (fun _ h => List.mem_cons_of_mem _ (List.mem_append_left _ (List.mem_append_right _ h))) gd_f_X9_locate
theorem gf_f_X11_count_f_X7_isNumber : GoodIn fw_f_X11_count fw_f_X7_isNumber := goodIn_sub (fun _ h => List.mem_cons_of_mem _ (List.mem_append_right _ h)) gd_f_X7_isNumber
theorem gh_f_X11_count_f_X9_arrange_201 : GoodIn fw_f_X11_count (wsV RX11 201 RX9 yX9_arrange fw_f_X9_arrange) := goodIn_app (goodIn_r _ [2, 3, 4, 5] (by decide +kernel) (by decide +kernel)) gf_f_X11_count_f_X9_arrange
theorem gh_f_X11_count_f_X9_locate_218 : GoodIn fw_f_X11_count (wsV RX11 218 RX9 yX9_locate fw_f_X9_locate) := goodIn_app (goodIn_r _ [6, 7, 8, 5] (by decide +kernel) (by decide +kernel)) gf_f_X11_count_f_X9_locate
theorem gh_f_X11_count_f_X7_isNumber_215 : GoodIn fw_f_X11_count (wsV RX11 215 RX7 yX7_isNumber fw_f_X7_isNumber) := goodIn_app (goodIn_r _ [12, 13, 14, 15] (by decide +kernel) (by decide +kernel)) gf_f_X11_count_f_X7_isNumber
set_option maxHeartbeats 4000000 in
set_option maxRecDepth 100000 in
theorem f_X11_count (l : Launch) (dC : Nat → ClassId) (dI : Nat → Nat → Nat) (a0 : Nat) (a1 : Nat) (a2 : Nat) (a3 : Nat) (a4 : Nat) (a5 : Nat) (a6 : Nat) (a7 : Nat) (a8 : Nat) (a9 : Nat) (a10 : Nat) (a11 : Nat) (a12 : Nat) (a13 : Nat) (a14 : Nat) (a15 : Nat) (a16 : Nat) (a17 : Nat) (a18 : Nat) (a19 : Nat) (a20 : Nat) (a21 : Nat) (a22 : Nat) (a23 : Nat) (a24 : Nat) (a25 : Nat) (a26 : Nat) (a27 : Nat) (a28 : Nat) (a29 : Nat) (a30 : Nat) (a31 : Nat) (a32 : Nat) (a33 : Nat) (a34 : Nat) (x0 : Int32) (x1 : Int32) (x2 : Int32) (x3 : Int32) (x4 : Int32) (sz : Nat) : Met l yX11_count fw_f_X11_count ({ frames := 2, cells := 0, slots := 0, locals := 48 }) (va_Pc [.ref a0, .int x0, .int x1, .int x2, .int x3, .int x4] (fun U => U.heap.size = sz ∧ va_P (dC, dI) vwCl [(a0, .inr (12, [.ref a1, .int 0, .ref a2, .ref a3, .ref a4, .ref a5, .ref a6, .ref a7, .ref a8, .ref a9, .ref a10, .int 0, .int 0, .int 0, .int 0, .int 0, .null, .int 0])), (a2, .inr (8, [.ref a11, .ref a12, .ref a13, .ref a14, .ref a15, .ref a16, .ref a17, .ref a18, .ref a19, .ref a20, .ref a21, .ref a22, .ref a23, .int 0, .int 0, .int 801, .int 0])), (a3, .inr (10, [.ref a24, .ref a25, .ref a26, .ref a27, .ref a28, .ref a29, .ref a30, .ref a31, .ref a32, .ref a33, .ref a34, .int 0, .int 1, .int 0, .int 0, .int 0, .int 0, .int 0, .int 0]))] U.heap ∧ va_K (dC, dI) vwCl [] U ∧ va_D (fun _ => True) [(a0, .inr (12, [.ref a1, .int 0, .ref a2, .ref a3, .ref a4, .ref a5, .ref a6, .ref a7, .ref a8, .ref a9, .ref a10, .int 0, .int 0, .int 0, .int 0, .int 0, .null, .int 0])), (a2, .inr (8, [.ref a11, .ref a12, .ref a13, .ref a14, .ref a15, .ref a16, .ref a17, .ref a18, .ref a19, .ref a20, .ref a21, .ref a22, .ref a23, .int 0, .int 0, .int 801, .int 0])), (a3, .inr (10, [.ref a24, .ref a25, .ref a26, .ref a27, .ref a28, .ref a29, .ref a30, .ref a31, .ref a32, .ref a33, .ref a34, .int 0, .int 1, .int 0, .int 0, .int 0, .int 0, .int 0, .int 0]))])) (va_Qi (fun (r : Int32) (_ : Unit) => r = (if x0 < 0 then -1 else if 5 < x0 then -1 else if x1 < 0 then -1 else if x1 ≤ 3 then 0 else -1)) (fun _ _ => True) (va_A [(a0, .inr (12, [.ref a1, .int 0, .ref a2, .ref a3, .ref a4, .ref a5, .ref a6, .ref a7, .ref a8, .ref a9, .ref a10, .int 0, .int 0, .int 0, .int 0, .int 0, .null, .int 0])), (a2, .inr (8, [.ref a11, .ref a12, .ref a13, .ref a14, .ref a15, .ref a16, .ref a17, .ref a18, .ref a19, .ref a20, .ref a21, .ref a22, .ref a23, .int 0, .int 0, .int 801, .int 0])), (a3, .inr (10, [.ref a24, .ref a25, .ref a26, .ref a27, .ref a28, .ref a29, .ref a30, .ref a31, .ref a32, .ref a33, .ref a34, .int 0, .int 1, .int 0, .int 0, .int 0, .int 0, .int 0, .int 0]))] sz)) 0 0 (va_A [(a0, .inr (12, [.ref a1, .int 0, .ref a2, .ref a3, .ref a4, .ref a5, .ref a6, .ref a7, .ref a8, .ref a9, .ref a10, .int 0, .int 0, .int 0, .int 0, .int 0, .null, .int 0])), (a2, .inr (8, [.ref a11, .ref a12, .ref a13, .ref a14, .ref a15, .ref a16, .ref a17, .ref a18, .ref a19, .ref a20, .ref a21, .ref a22, .ref a23, .int 0, .int 0, .int 801, .int 0])), (a3, .inr (10, [.ref a24, .ref a25, .ref a26, .ref a27, .ref a28, .ref a29, .ref a30, .ref a31, .ref a32, .ref a33, .ref a34, .int 0, .int 1, .int 0, .int 0, .int 0, .int 0, .int 0, .int 0]))] sz) := by
  refine Met.ofW (cc := cX11_count) (maxL := 7) (ret := (some .int)) (by decide) rfl ?_
  intro p e s m args below meth c s₁ B hml hv
  obtain ⟨rfl, hsz, hP, hK, hD0⟩ := hv
  have hx := B.exec
  have hb := B.bytes
  have hr := B.returns
  have hts := atoms_spec (ws := fw_f_X11_count) B.pre
  have hown : s.vm.findClass RX11 = some m.cls := findClass_of_methodNamed B.named
  have hlocks := B.notSynchronized
  subst hsz
  have hD := hD0.self (sz := s.heap.size)
  generalize hAe : va_A [(a0, .inr (12, [.ref a1, .int 0, .ref a2, .ref a3, .ref a4, .ref a5, .ref a6, .ref a7, .ref a8, .ref a9, .ref a10, .int 0, .int 0, .int 0, .int 0, .int 0, .null, .int 0])), (a2, .inr (8, [.ref a11, .ref a12, .ref a13, .ref a14, .ref a15, .ref a16, .ref a17, .ref a18, .ref a19, .ref a20, .ref a21, .ref a22, .ref a23, .int 0, .int 0, .int 801, .int 0])), (a3, .inr (10, [.ref a24, .ref a25, .ref a26, .ref a27, .ref a28, .ref a29, .ref a30, .ref a31, .ref a32, .ref a33, .ref a34, .int 0, .int 1, .int 0, .int 0, .int 0, .int 0, .int 0, .int 0]))] s.heap.size = A at hD ⊢
  have hA : ∀ q : Nat, s.heap.size ≤ q → A q := fun q h => by rw [← hAe]; exact Or.inr h
  obtain ⟨H, hH⟩ : ∃ z, z = s.heap := ⟨_, rfl⟩
  rw [← hH] at hP
  have hS : va_S A s.heap H [] := by rw [hH]; exact va_S.rf
  have hP : va_P (dC, dI) vwCl [(a0, .inr (12, [.ref a1, .int 0, .ref a2, .ref a3, .ref a4, .ref a5, .ref a6, .ref a7, .ref a8, .ref a9, .ref a10, .int 0, .int 0, .int 0, .int 0, .int 0, .null, .int 0])), (a2, .inr (8, [.ref a11, .ref a12, .ref a13, .ref a14, .ref a15, .ref a16, .ref a17, .ref a18, .ref a19, .ref a20, .ref a21, .ref a22, .ref a23, .int 0, .int 0, .int 801, .int 0])), (a3, .inr (10, [.ref a24, .ref a25, .ref a26, .ref a27, .ref a28, .ref a29, .ref a30, .ref a31, .ref a32, .ref a33, .ref a34, .int 0, .int 1, .int 0, .int 0, .int 0, .int 0, .int 0, .int 0]))] H := hP
  have hl := lv_entry ([.ref a0, .int x0, .int x1, .int x2, .int x3, .int x4]) (n := 7) (Nat.le_of_ble_eq_true rfl)
  rw [lg_entry_eq]
  generalize (lg_sl ([.ref a0, .int x0, .int x1, .int x2, .int x3, .int x4]) ++ List.replicate (7 - (lg_sl ([.ref a0, .int x0, .int x1, .int x2, .int x3, .int x4])).length) Slot.unset).toArray = ls at hl ⊢
  have hl : lv_has ls 7 [(0, .ref a0), (1, .int x0), (2, .int x1), (3, .int x2), (4, .int x3), (5, .int x4)] := hl
  rw [← hH]
  refine lv_iload_n hx hb dX11_count_0 rfl (lv_at hl 1 rfl) ?_
  refine lv_if_lt (tgt := 18) hx hb dX11_count_1 (by decide) (fun c_1 => ?_) (fun c_1 => ?_)
  · refine lv_iconst (v := (-1)) hx hb dX11_count_18 (by decide) ?_
    refine W.widen (k := 0) (n := 0) (Nat.le_of_ble_eq_true rfl) (Nat.le_of_ble_eq_true rfl) ?_
    exact W.iret (v := (-1)) hx hb hr (fun t ht hW => ⟨⟨(-1), (), rfl, by rw [if_pos c_1], trivial⟩, hS.F ht⟩) hS.2.2 dX11_count_19
  · refine lv_iload_n hx hb dX11_count_4 rfl (lv_at hl 1 rfl) ?_
    refine lv_iconst (v := 5) hx hb dX11_count_5 (by decide) ?_
    refine lv_icmp_gt (tgt := 18) hx hb dX11_count_6 (by decide) (fun c_6 => ?_) (fun c_6 => ?_)
    · refine lv_iconst (v := (-1)) hx hb dX11_count_18 (by decide) ?_
      refine W.widen (k := 0) (n := 0) (Nat.le_of_ble_eq_true rfl) (Nat.le_of_ble_eq_true rfl) ?_
      exact W.iret (v := (-1)) hx hb hr (fun t ht hW => ⟨⟨(-1), (), rfl, by rw [if_neg c_1, if_pos c_6], trivial⟩, hS.F ht⟩) hS.2.2 dX11_count_19
    · refine lv_iload_n hx hb dX11_count_9 rfl (lv_at hl 2 rfl) ?_
      refine lv_if_lt (tgt := 18) hx hb dX11_count_10 (by decide) (fun c_10 => ?_) (fun c_10 => ?_)
      · refine lv_iconst (v := (-1)) hx hb dX11_count_18 (by decide) ?_
        refine W.widen (k := 0) (n := 0) (Nat.le_of_ble_eq_true rfl) (Nat.le_of_ble_eq_true rfl) ?_
        exact W.iret (v := (-1)) hx hb hr (fun t ht hW => ⟨⟨(-1), (), rfl, by rw [if_neg c_1, if_neg c_6, if_pos c_10], trivial⟩, hS.F ht⟩) hS.2.2 dX11_count_19
      · refine lv_iload_n hx hb dX11_count_13 rfl (lv_at hl 2 rfl) ?_
        refine lv_iconst (v := 3) hx hb dX11_count_14 (by decide) ?_
        refine lv_icmp_le (tgt := 20) hx hb dX11_count_15 (by decide) (fun c_15 => ?_) (fun c_15 => ?_)
        · refine lv_iload_n hx hb dX11_count_20 rfl (lv_at hl 2 rfl) ?_
          refine lv_if_le (tgt := 35) hx hb dX11_count_21 (by decide) (fun c_21 => ?_) (fun c_21 => ?_)
          · obtain rfl : x1 = 0 := k_zero c_10 c_21
            refine lv_iload_n hx hb dX11_count_35 rfl (lv_at hl 2 rfl) ?_
            refine lv_iconst (v := 1) hx hb dX11_count_36 (by decide) ?_
            refine lv_icmp_le (tgt := 52) hx hb dX11_count_37 (by decide) (fun _ => ?_) (fun c9 => absurd (by decide +kernel) c9)
            refine lv_iload_n hx hb dX11_count_52 rfl (lv_at hl 2 rfl) ?_
            refine lv_iconst (v := 2) hx hb dX11_count_53 (by decide) ?_
            refine lv_icmp_le (tgt := 73) hx hb dX11_count_54 (by decide) (fun _ => ?_) (fun c9 => absurd (by decide +kernel) c9)
            refine lv_iconst (v := 0) hx hb dX11_count_73 (by decide) ?_
            refine lv_istore (lv' := [(6, .int 0), (0, .ref a0), (1, .int x0), (2, .int 0), (3, .int x2), (4, .int x3), (5, .int x4)]) hx hb dX11_count_74 hl (by decide) rfl (fun ls hl => ?_)
            refine lv_iload hx hb dX11_count_76 (lv_at hl 0 rfl) ?_
            refine lv_if_eq (tgt := 83) hx hb dX11_count_78 (by decide) (fun _ => ?_) (fun c9 => absurd (by decide +kernel) c9)
            refine lv_aload_n hx hb dX11_count_83 rfl (lv_at hl 1 rfl) ?_
            refine va_get (D := (dC, dI)) (ci := 12) (v := .ref a3) (C := RX11) (T := TX11) (N := 18) hx hb hts in_f_X11_count_RX11 hown hK hP 0 rfl rfl 3 (by decide) (hts (.fieldLink RX11 26 "TripleStore" "triples" "LTripleStore$Triples;") (List.mem_of_getElem? (i := 1) rfl)) (fun _ h9 => h9) rfl dX11_count_84 ?_
            have hPc := hP.sub (ws' := [(a3, .inr (10, [.ref a24, .ref a25, .ref a26, .ref a27, .ref a28, .ref a29, .ref a30, .ref a31, .ref a32, .ref a33, .ref a34, .int 0, .int 1, .int 0, .int 0, .int 0, .int 0, .int 0, .int 0]))]) [2] rfl
            have hDc := hD.sub (ws' := [(a3, .inr (10, [.ref a24, .ref a25, .ref a26, .ref a27, .ref a28, .ref a29, .ref a30, .ref a31, .ref a32, .ref a33, .ref a34, .int 0, .int 1, .int 0, .int 0, .int 0, .int 0, .int 0, .int 0]))]) [2] (by decide) rfl
            have hKc := hK.sub (tys' := []) [] rfl
            have hFc := va_free (wc := [(a3, .inr (10, [.ref a24, .ref a25, .ref a26, .ref a27, .ref a28, .ref a29, .ref a30, .ref a31, .ref a32, .ref a33, .ref a34, .int 0, .int 1, .int 0, .int 0, .int 0, .int 0, .int 0, .int 0]))]) hD hS hA [2] rfl
            refine va_callv (va_runV (As := []) (rest := []) ⟨hx, hb, hml, hown, hts⟩ (f_X9_arrange l dC dI a3 a24 a25 a26 a27 a28 a29 a30 a31 a32 a33 a34 H.size) (cwV 0 hts gh_f_X11_count_f_X9_arrange_201 rfl rfl rfl (by decide +kernel) ⟨Nat.le_of_ble_eq_true rfl, Nat.le_of_ble_eq_true rfl⟩) ⟨fun a U g mk q => by obtain ⟨q0, q1, qP, qK, qD⟩ := q; exact ⟨q0, q1, qP, va_K.moved (u := U) (U := U.calling g mk a) (Vm.Alike.refl U.vm) qK, qD⟩, va_recv hKc hPc (ci := 10) (q0 := 0) rfl rfl, fun U hU hW => ⟨rfl, by rw [hU], by rw [hU]; exact hPc, va_K.moved hW.alike hKc, hDc.weaken (fun _ _ _ _ => trivial)⟩⟩ rfl rfl hl.1 rfl (lv_room (Nat.le_of_ble_eq_true rfl)) dX11_count_87 ⟨Nat.le_of_ble_eq_true rfl, Nat.le_of_ble_eq_true rfl⟩) hS (fun q _ h => hFc q h) hFc (fun u t H1 locs ht hvm hw hB hz1 hk1 hS => ?_)
            obtain ⟨hP1, hK1, hD1⟩ := hB
            rw [ht] at hP1
            have hK1 := va_K.moved hvm.symm hK1
            obtain ⟨hP, hD⟩ := va_join (wr := [(a0, .inr (12, [.ref a1, .int 0, .ref a2, .ref a3, .ref a4, .ref a5, .ref a6, .ref a7, .ref a8, .ref a9, .ref a10, .int 0, .int 0, .int 0, .int 0, .int 0, .null, .int 0])), (a2, .inr (8, [.ref a11, .ref a12, .ref a13, .ref a14, .ref a15, .ref a16, .ref a17, .ref a18, .ref a19, .ref a20, .ref a21, .ref a22, .ref a23, .int 0, .int 0, .int 801, .int 0]))]) (w1 := [(a3, .inr (10, [.ref a24, .ref a25, .ref a26, .ref a27, .ref a28, .ref a29, .ref a30, .ref a31, .ref a32, .ref a33, .ref a34, .int 0, .int 1, .int 0, .int 0, .int 0, .int 0, .int 0, .int 0]))]) hP hD [2] [0, 1] rfl rfl (by decide) (by decide) hk1 hFc hP1 hD1
            have hK := (hK.sub (tys' := []) [] rfl).app hK1
            generalize H1 = H at hP hS ⊢
            have hP : va_P (dC, dI) vwCl [(a0, .inr (12, [.ref a1, .int 0, .ref a2, .ref a3, .ref a4, .ref a5, .ref a6, .ref a7, .ref a8, .ref a9, .ref a10, .int 0, .int 0, .int 0, .int 0, .int 0, .null, .int 0])), (a2, .inr (8, [.ref a11, .ref a12, .ref a13, .ref a14, .ref a15, .ref a16, .ref a17, .ref a18, .ref a19, .ref a20, .ref a21, .ref a22, .ref a23, .int 0, .int 0, .int 801, .int 0])), (a3, .inr (10, [.ref a24, .ref a25, .ref a26, .ref a27, .ref a28, .ref a29, .ref a30, .ref a31, .ref a32, .ref a33, .ref a34, .int 0, .int 1, .int 0, .int 0, .int 0, .int 0, .int 0, .int 0]))] H := hP
            have hD : va_D A [(a0, .inr (12, [.ref a1, .int 0, .ref a2, .ref a3, .ref a4, .ref a5, .ref a6, .ref a7, .ref a8, .ref a9, .ref a10, .int 0, .int 0, .int 0, .int 0, .int 0, .null, .int 0])), (a2, .inr (8, [.ref a11, .ref a12, .ref a13, .ref a14, .ref a15, .ref a16, .ref a17, .ref a18, .ref a19, .ref a20, .ref a21, .ref a22, .ref a23, .int 0, .int 0, .int 801, .int 0])), (a3, .inr (10, [.ref a24, .ref a25, .ref a26, .ref a27, .ref a28, .ref a29, .ref a30, .ref a31, .ref a32, .ref a33, .ref a34, .int 0, .int 1, .int 0, .int 0, .int 0, .int 0, .int 0, .int 0]))] := hD
            have hK : va_K (dC, dI) vwCl [] s := hK
            refine lv_aload_n hx hb dX11_count_90 rfl (lv_at hl 1 rfl) ?_
            refine va_get (D := (dC, dI)) (ci := 12) (v := .ref a3) (C := RX11) (T := TX11) (N := 18) hx hb hts in_f_X11_count_RX11 hown hK hP 0 rfl rfl 3 (by decide) (hts (.fieldLink RX11 26 "TripleStore" "triples" "LTripleStore$Triples;") (List.mem_of_getElem? (i := 1) rfl)) (fun _ h9 => h9) rfl dX11_count_91 ?_
            refine lv_iload_n hx hb dX11_count_94 rfl (lv_at hl 2 rfl) ?_
            refine lv_iload_n hx hb dX11_count_95 rfl (lv_at hl 3 rfl) ?_
            refine lv_iload_n hx hb dX11_count_96 rfl (lv_at hl 3 rfl) ?_
            refine lv_if_le (tgt := 104) hx hb dX11_count_97 (by decide) (fun _ => ?_) (fun c9 => absurd (by decide +kernel) c9)
            refine lv_iconst (v := 0) hx hb dX11_count_104 (by decide) ?_
            refine lv_iload_n hx hb dX11_count_105 rfl (lv_at hl 3 rfl) ?_
            refine lv_iconst (v := 1) hx hb dX11_count_106 (by decide) ?_
            refine lv_icmp_le (tgt := 115) hx hb dX11_count_107 (by decide) (fun _ => ?_) (fun c9 => absurd (by decide +kernel) c9)
            refine lv_iconst (v := 0) hx hb dX11_count_115 (by decide) ?_
            refine lv_iload_n hx hb dX11_count_116 rfl (lv_at hl 3 rfl) ?_
            refine lv_iconst (v := 2) hx hb dX11_count_117 (by decide) ?_
            refine lv_icmp_le (tgt := 126) hx hb dX11_count_118 (by decide) (fun _ => ?_) (fun c9 => absurd (by decide +kernel) c9)
            refine lv_iconst (v := 0) hx hb dX11_count_126 (by decide) ?_
            have hPc := hP.sub (ws' := [(a3, .inr (10, [.ref a24, .ref a25, .ref a26, .ref a27, .ref a28, .ref a29, .ref a30, .ref a31, .ref a32, .ref a33, .ref a34, .int 0, .int 1, .int 0, .int 0, .int 0, .int 0, .int 0, .int 0]))]) [2] rfl
            have hDc := hD.sub (ws' := [(a3, .inr (10, [.ref a24, .ref a25, .ref a26, .ref a27, .ref a28, .ref a29, .ref a30, .ref a31, .ref a32, .ref a33, .ref a34, .int 0, .int 1, .int 0, .int 0, .int 0, .int 0, .int 0, .int 0]))]) [2] (by decide) rfl
            have hKc := hK.sub (tys' := []) [] rfl
            have hFc := va_free (wc := [(a3, .inr (10, [.ref a24, .ref a25, .ref a26, .ref a27, .ref a28, .ref a29, .ref a30, .ref a31, .ref a32, .ref a33, .ref a34, .int 0, .int 1, .int 0, .int 0, .int 0, .int 0, .int 0, .int 0]))]) hD hS hA [2] rfl
            refine va_callv (va_runV (As := [.int x0, .int 0, .int 0, .int 0, .int 0]) (rest := []) ⟨hx, hb, hml, hown, hts⟩ (f_X9_locate l dC dI a3 a24 a25 a26 a27 a28 a29 a30 a31 a32 a33 a34 x0 H.size) (cwV 5 hts gh_f_X11_count_f_X9_locate_218 rfl rfl rfl (by decide +kernel) ⟨Nat.le_of_ble_eq_true rfl, Nat.le_of_ble_eq_true rfl⟩) ⟨fun a U g mk q => by obtain ⟨q0, q1, qP, qK, qD⟩ := q; exact ⟨q0, q1, qP, va_K.moved (u := U) (U := U.calling g mk a) (Vm.Alike.refl U.vm) qK, qD⟩, va_recv hKc hPc (ci := 10) (q0 := 0) rfl rfl, fun U hU hW => ⟨rfl, by rw [hU], by rw [hU]; exact hPc, va_K.moved hW.alike hKc, hDc.weaken (fun _ _ _ _ => trivial)⟩⟩ rfl rfl hl.1 rfl (lv_room (Nat.le_of_ble_eq_true rfl)) dX11_count_127 ⟨Nat.le_of_ble_eq_true rfl, Nat.le_of_ble_eq_true rfl⟩) hS (fun q _ h => hFc q h) hFc (fun u t H1 locs ht hvm hw hB hz1 hk1 hS => ?_)
            obtain ⟨hP1, hK1, hD1⟩ := hB
            rw [ht] at hP1
            have hK1 := va_K.moved hvm.symm hK1
            obtain ⟨hP, hD⟩ := va_join (wr := [(a0, .inr (12, [.ref a1, .int 0, .ref a2, .ref a3, .ref a4, .ref a5, .ref a6, .ref a7, .ref a8, .ref a9, .ref a10, .int 0, .int 0, .int 0, .int 0, .int 0, .null, .int 0])), (a2, .inr (8, [.ref a11, .ref a12, .ref a13, .ref a14, .ref a15, .ref a16, .ref a17, .ref a18, .ref a19, .ref a20, .ref a21, .ref a22, .ref a23, .int 0, .int 0, .int 801, .int 0]))]) (w1 := [(a3, .inr (10, [.ref a24, .ref a25, .ref a26, .ref a27, .ref a28, .ref a29, .ref a30, .ref a31, .ref a32, .ref a33, .ref a34, .int 0, .int 1, .int 0, .int 0, .int 0, .int 0, .int 0, .int (if 0 < (if x0 < 5 then x0 else 5) then (if x0 < 5 then x0 else 5) else 0)]))]) hP hD [2] [0, 1] rfl rfl (by decide) (by decide) hk1 hFc hP1 hD1
            have hK := (hK.sub (tys' := []) [] rfl).app hK1
            generalize H1 = H at hP hS ⊢
            have hP : va_P (dC, dI) vwCl [(a0, .inr (12, [.ref a1, .int 0, .ref a2, .ref a3, .ref a4, .ref a5, .ref a6, .ref a7, .ref a8, .ref a9, .ref a10, .int 0, .int 0, .int 0, .int 0, .int 0, .null, .int 0])), (a2, .inr (8, [.ref a11, .ref a12, .ref a13, .ref a14, .ref a15, .ref a16, .ref a17, .ref a18, .ref a19, .ref a20, .ref a21, .ref a22, .ref a23, .int 0, .int 0, .int 801, .int 0])), (a3, .inr (10, [.ref a24, .ref a25, .ref a26, .ref a27, .ref a28, .ref a29, .ref a30, .ref a31, .ref a32, .ref a33, .ref a34, .int 0, .int 1, .int 0, .int 0, .int 0, .int 0, .int 0, .int (if 0 < (if x0 < 5 then x0 else 5) then (if x0 < 5 then x0 else 5) else 0)]))] H := hP
            have hD : va_D A [(a0, .inr (12, [.ref a1, .int 0, .ref a2, .ref a3, .ref a4, .ref a5, .ref a6, .ref a7, .ref a8, .ref a9, .ref a10, .int 0, .int 0, .int 0, .int 0, .int 0, .null, .int 0])), (a2, .inr (8, [.ref a11, .ref a12, .ref a13, .ref a14, .ref a15, .ref a16, .ref a17, .ref a18, .ref a19, .ref a20, .ref a21, .ref a22, .ref a23, .int 0, .int 0, .int 801, .int 0])), (a3, .inr (10, [.ref a24, .ref a25, .ref a26, .ref a27, .ref a28, .ref a29, .ref a30, .ref a31, .ref a32, .ref a33, .ref a34, .int 0, .int 1, .int 0, .int 0, .int 0, .int 0, .int 0, .int (if 0 < (if x0 < 5 then x0 else 5) then (if x0 < 5 then x0 else 5) else 0)]))] := hD
            have hK : va_K (dC, dI) vwCl [] s := hK
            refine lv_aload_n hx hb dX11_count_130 rfl (lv_at hl 1 rfl) ?_
            refine va_get (D := (dC, dI)) (ci := 12) (v := .ref a3) (C := RX11) (T := TX11) (N := 18) hx hb hts in_f_X11_count_RX11 hown hK hP 0 rfl rfl 3 (by decide) (hts (.fieldLink RX11 26 "TripleStore" "triples" "LTripleStore$Triples;") (List.mem_of_getElem? (i := 1) rfl)) (fun _ h9 => h9) rfl dX11_count_131 ?_
            refine va_get (D := (dC, dI)) (ci := 10) (v := .int 0) (C := RX9) (T := TX9) (N := 19) hx hb hts in_f_X11_count_RX9 hown hK hP 2 rfl rfl 17 (by decide) (hts (.fieldLink RX11 222 "TripleStore$Triples" "to" "I") (List.mem_of_getElem? (i := 9) rfl)) (fun _ h9 => h9) rfl dX11_count_134 ?_
            refine lv_aload_n hx hb dX11_count_137 rfl (lv_at hl 1 rfl) ?_
            refine va_get (D := (dC, dI)) (ci := 12) (v := .ref a3) (C := RX11) (T := TX11) (N := 18) hx hb hts in_f_X11_count_RX11 hown hK hP 0 rfl rfl 3 (by decide) (hts (.fieldLink RX11 26 "TripleStore" "triples" "LTripleStore$Triples;") (List.mem_of_getElem? (i := 1) rfl)) (fun _ h9 => h9) rfl dX11_count_138 ?_
            refine va_get (D := (dC, dI)) (ci := 10) (v := .int 0) (C := RX9) (T := TX9) (N := 19) hx hb hts in_f_X11_count_RX9 hown hK hP 2 rfl rfl 16 (by decide) (hts (.fieldLink RX11 225 "TripleStore$Triples" "from" "I") (List.mem_of_getElem? (i := 10) rfl)) (fun _ h9 => h9) rfl dX11_count_141 ?_
            refine lv_isub hx hb dX11_count_144 ?_
            refine W.eq (congrArg (fun z : Int32 => F0 m 145 ls (.int z :: [])) (by decide +kernel : ((0 : Int32) - 0 : Int32) = 0)) ?_
            refine W.widen (k := 0) (n := 0) (Nat.le_of_ble_eq_true rfl) (Nat.le_of_ble_eq_true rfl) ?_
            exact W.iret (v := 0) hx hb hr (fun t ht hW => ⟨⟨0, (), rfl, by rw [if_neg c_1, if_neg c_6, if_neg c_10, if_pos c_15], trivial⟩, hS.F ht⟩) hS.2.2 dX11_count_145
          · refine lv_aload_n hx hb dX11_count_24 rfl (lv_at hl 0 rfl) ?_
            refine va_get (D := (dC, dI)) (ci := 12) (v := .ref a2) (C := RX11) (T := TX11) (N := 18) hx hb hts in_f_X11_count_RX11 hown hK hP 0 rfl rfl 2 (by decide) (hts (.fieldLink RX11 19 "TripleStore" "terms" "LTripleStore$Terms;") (List.mem_of_getElem? (i := 11) rfl)) (fun _ h9 => h9) rfl dX11_count_25 ?_
            refine lv_iload_n hx hb dX11_count_28 rfl (lv_at hl 3 rfl) ?_
            have hPc := hP.sub (ws' := [(a2, .inr (8, [.ref a11, .ref a12, .ref a13, .ref a14, .ref a15, .ref a16, .ref a17, .ref a18, .ref a19, .ref a20, .ref a21, .ref a22, .ref a23, .int 0, .int 0, .int 801, .int 0]))]) [1] rfl
            have hDc := hD.sub (ws' := [(a2, .inr (8, [.ref a11, .ref a12, .ref a13, .ref a14, .ref a15, .ref a16, .ref a17, .ref a18, .ref a19, .ref a20, .ref a21, .ref a22, .ref a23, .int 0, .int 0, .int 801, .int 0]))]) [1] (by decide) rfl
            have hKc := hK.sub (tys' := []) [] rfl
            have hFc := va_free (wc := [(a2, .inr (8, [.ref a11, .ref a12, .ref a13, .ref a14, .ref a15, .ref a16, .ref a17, .ref a18, .ref a19, .ref a20, .ref a21, .ref a22, .ref a23, .int 0, .int 0, .int 801, .int 0]))]) hD hS hA [1] rfl
            refine va_calli (va_runV (As := [.int x2]) (rest := []) ⟨hx, hb, hml, hown, hts⟩ (f_X7_isNumber l dC dI a2 a11 a12 a13 a14 a15 a16 a17 a18 a19 a20 a21 a22 a23 x2 H.size) (cwV 1 hts gh_f_X11_count_f_X7_isNumber_215 rfl rfl rfl (by decide +kernel) ⟨Nat.le_of_ble_eq_true rfl, Nat.le_of_ble_eq_true rfl⟩) ⟨fun a U g mk q => by obtain ⟨q0, q1, qP, qK, qD⟩ := q; exact ⟨q0, q1, qP, va_K.moved (u := U) (U := U.calling g mk a) (Vm.Alike.refl U.vm) qK, qD⟩, va_recv hKc hPc (ci := 8) (q0 := 0) rfl rfl, fun U hU hW => ⟨rfl, by rw [hU], by rw [hU]; exact hPc, va_K.moved hW.alike hKc, hDc.weaken (fun _ _ _ _ => trivial)⟩⟩ rfl rfl hl.1 rfl (lv_room (Nat.le_of_ble_eq_true rfl)) dX11_count_29 ⟨Nat.le_of_ble_eq_true rfl, Nat.le_of_ble_eq_true rfl⟩) hS (fun q _ h => hFc q h) hFc (fun r u t H1 locs ht hvm hw hB hz1 hk1 hS => ?_)
            have hw : r = 0 := hw
            subst hw
            obtain ⟨hP, hD⟩ := va_join (wr := [(a0, .inr (12, [.ref a1, .int 0, .ref a2, .ref a3, .ref a4, .ref a5, .ref a6, .ref a7, .ref a8, .ref a9, .ref a10, .int 0, .int 0, .int 0, .int 0, .int 0, .null, .int 0])), (a3, .inr (10, [.ref a24, .ref a25, .ref a26, .ref a27, .ref a28, .ref a29, .ref a30, .ref a31, .ref a32, .ref a33, .ref a34, .int 0, .int 1, .int 0, .int 0, .int 0, .int 0, .int 0, .int 0]))]) (w1 := []) (H1 := H1) hP hD [1] [0, 2] rfl rfl (by decide) (by decide) hk1 hFc (fun _ _ h => nomatch h) ⟨fun _ _ _ _ h _ _ => (nomatch h), fun _ _ h => nomatch h⟩
            have hK := hK.sub (tys' := []) [] rfl
            generalize H1 = H at hP hS ⊢
            have hP : va_P (dC, dI) vwCl [(a0, .inr (12, [.ref a1, .int 0, .ref a2, .ref a3, .ref a4, .ref a5, .ref a6, .ref a7, .ref a8, .ref a9, .ref a10, .int 0, .int 0, .int 0, .int 0, .int 0, .null, .int 0])), (a3, .inr (10, [.ref a24, .ref a25, .ref a26, .ref a27, .ref a28, .ref a29, .ref a30, .ref a31, .ref a32, .ref a33, .ref a34, .int 0, .int 1, .int 0, .int 0, .int 0, .int 0, .int 0, .int 0]))] H := hP
            have hD : va_D A [(a0, .inr (12, [.ref a1, .int 0, .ref a2, .ref a3, .ref a4, .ref a5, .ref a6, .ref a7, .ref a8, .ref a9, .ref a10, .int 0, .int 0, .int 0, .int 0, .int 0, .null, .int 0])), (a3, .inr (10, [.ref a24, .ref a25, .ref a26, .ref a27, .ref a28, .ref a29, .ref a30, .ref a31, .ref a32, .ref a33, .ref a34, .int 0, .int 1, .int 0, .int 0, .int 0, .int 0, .int 0, .int 0]))] := hD
            have hK : va_K (dC, dI) vwCl [] s := hK
            refine lv_if_eq (tgt := 69) hx hb dX11_count_32 (by decide) (fun _ => ?_) (fun c9 => absurd (by decide +kernel) c9)
            refine lv_iconst (v := 1) hx hb dX11_count_69 (by decide) ?_
            refine lv_goto (tgt := 74) hx hb dX11_count_70 (by decide) ?_
            refine lv_istore (lv' := [(6, .int 1), (0, .ref a0), (1, .int x0), (2, .int x1), (3, .int x2), (4, .int x3), (5, .int x4)]) hx hb dX11_count_74 hl (by decide) rfl (fun ls hl => ?_)
            refine lv_iload hx hb dX11_count_76 (lv_at hl 0 rfl) ?_
            refine lv_if_eq (tgt := 83) hx hb dX11_count_78 (by decide) (fun c9 => absurd c9 (by decide +kernel)) (fun _ => ?_)
            refine lv_iconst (v := 0) hx hb dX11_count_81 (by decide) ?_
            refine W.widen (k := 0) (n := 0) (Nat.le_of_ble_eq_true rfl) (Nat.le_of_ble_eq_true rfl) ?_
            exact W.iret (v := 0) hx hb hr (fun t ht hW => ⟨⟨0, (), rfl, by rw [if_neg c_1, if_neg c_6, if_neg c_10, if_pos c_15], trivial⟩, hS.F ht⟩) hS.2.2 dX11_count_82
        · refine lv_iconst (v := (-1)) hx hb dX11_count_18 (by decide) ?_
          refine W.widen (k := 0) (n := 0) (Nat.le_of_ble_eq_true rfl) (Nat.le_of_ble_eq_true rfl) ?_
          exact W.iret (v := (-1)) hx hb hr (fun t ht hW => ⟨⟨(-1), (), rfl, by rw [if_neg c_1, if_neg c_6, if_neg c_10, if_neg c_15], trivial⟩, hS.F ht⟩) hS.2.2 dX11_count_19
def fw_f_X11_type : List Cond := .code yX11_type cX11_type 5 (some .int) :: ([.fieldLink RX11 90 "TripleStore" "length" "I", .fieldLink RX11 9 "TripleStore" "text" "[B"] ++ wsX110)
theorem in_f_X11_type_RX11 : ∀ w ∈ u_ws RX11 TX11 18, w ∈ fw_f_X11_type := fun _ h => List.mem_cons_of_mem _ (List.mem_append_right _ h)
theorem gd_f_X11_type : (fw_f_X11_type).all goodWord = true := by decide +kernel
set_option maxHeartbeats 4000000 in
set_option maxRecDepth 100000 in
theorem f_X11_type (l : Launch) (dC : Nat → ClassId) (dI : Nat → Nat → Nat) (a0 : Nat) (a1 : Nat) (a2 : Nat) (a3 : Nat) (a4 : Nat) (a5 : Nat) (a6 : Nat) (a7 : Nat) (a8 : Nat) (a9 : Nat) (a10 : Nat) (k0 : ClassId) (y0 : Int64) (x0 : Int32) (sz : Nat) : Met l yX11_type fw_f_X11_type ({ frames := 1, cells := 0, slots := 0, locals := 20 }) (va_Pc [.ref a0, .long y0, .int x0] (fun U => U.heap.size = sz ∧ va_P (dC, dI) vwCl [(a0, .inr (12, [.ref a1, .int 0, .ref a2, .ref a3, .ref a4, .ref a5, .ref a6, .ref a7, .ref a8, .ref a9, .ref a10, .int 0, .int 0, .int 0, .int 0, .int 0, .null, .int 0])), (a1, .inl (k0, 4000, .inl (fun _ => 0)))] U.heap ∧ va_K (dC, dI) vwCl [(k0, .byte)] U ∧ va_D (fun _ => True) [(a0, .inr (12, [.ref a1, .int 0, .ref a2, .ref a3, .ref a4, .ref a5, .ref a6, .ref a7, .ref a8, .ref a9, .ref a10, .int 0, .int 0, .int 0, .int 0, .int 0, .null, .int 0])), (a1, .inl (k0, 4000, .inl (fun _ => 0)))])) (va_Qi (fun (r : Int32) (_ : Unit) => r = (if x0 < 1 then -1 else if x0 ≤ 8 then x0 else -1)) (fun _ _ => True) (va_A [(a0, .inr (12, [.ref a1, .int 0, .ref a2, .ref a3, .ref a4, .ref a5, .ref a6, .ref a7, .ref a8, .ref a9, .ref a10, .int 0, .int 0, .int 0, .int 0, .int 0, .null, .int 0])), (a1, .inl (k0, 4000, .inl (fun _ => 0)))] sz)) 0 0 (va_A [(a0, .inr (12, [.ref a1, .int 0, .ref a2, .ref a3, .ref a4, .ref a5, .ref a6, .ref a7, .ref a8, .ref a9, .ref a10, .int 0, .int 0, .int 0, .int 0, .int 0, .null, .int 0])), (a1, .inl (k0, 4000, .inl (fun _ => 0)))] sz) := by
  refine Met.ofW (cc := cX11_type) (maxL := 5) (ret := (some .int)) (by decide) rfl ?_
  intro p e s m args below meth c s₁ B hml hv
  obtain ⟨rfl, hsz, hP, hK, hD0⟩ := hv
  have hx := B.exec
  have hb := B.bytes
  have hr := B.returns
  have hts := atoms_spec (ws := fw_f_X11_type) B.pre
  have hown : s.vm.findClass RX11 = some m.cls := findClass_of_methodNamed B.named
  have hlocks := B.notSynchronized
  subst hsz
  have hD := hD0.self (sz := s.heap.size)
  generalize hAe : va_A [(a0, .inr (12, [.ref a1, .int 0, .ref a2, .ref a3, .ref a4, .ref a5, .ref a6, .ref a7, .ref a8, .ref a9, .ref a10, .int 0, .int 0, .int 0, .int 0, .int 0, .null, .int 0])), (a1, .inl (k0, 4000, .inl (fun _ => 0)))] s.heap.size = A at hD ⊢
  have hA : ∀ q : Nat, s.heap.size ≤ q → A q := fun q h => by rw [← hAe]; exact Or.inr h
  obtain ⟨H, hH⟩ : ∃ z, z = s.heap := ⟨_, rfl⟩
  rw [← hH] at hP
  have hS : va_S A s.heap H [] := by rw [hH]; exact va_S.rf
  have hP : va_P (dC, dI) vwCl [(a0, .inr (12, [.ref a1, .int 0, .ref a2, .ref a3, .ref a4, .ref a5, .ref a6, .ref a7, .ref a8, .ref a9, .ref a10, .int 0, .int 0, .int 0, .int 0, .int 0, .null, .int 0])), (a1, .inl (k0, 4000, .inl (fun _ => 0)))] H := hP
  have hl := lv_entry ([.ref a0, .long y0, .int x0]) (n := 5) (Nat.le_of_ble_eq_true rfl)
  rw [lg_entry_eq]
  generalize (lg_sl ([.ref a0, .long y0, .int x0]) ++ List.replicate (5 - (lg_sl ([.ref a0, .long y0, .int x0])).length) Slot.unset).toArray = ls at hl ⊢
  have hl : lv_has ls 5 [(0, .ref a0), (1, .long y0), (3, .int x0)] := hl
  rw [← hH]
  refine lv_iload_n hx hb dX11_type_0 rfl (lv_at hl 2 rfl) ?_
  refine lv_iconst (v := 1) hx hb dX11_type_1 (by decide) ?_
  refine lv_icmp_lt (tgt := 11) hx hb dX11_type_2 (by decide) (fun c_2 => ?_) (fun c_2 => ?_)
  · refine lv_iconst (v := (-1)) hx hb dX11_type_11 (by decide) ?_
    refine W.widen (k := 0) (n := 0) (Nat.le_of_ble_eq_true rfl) (Nat.le_of_ble_eq_true rfl) ?_
    exact W.iret (v := (-1)) hx hb hr (fun t ht hW => ⟨⟨(-1), (), rfl, by rw [if_pos c_2], trivial⟩, hS.F ht⟩) hS.2.2 dX11_type_12
  · refine lv_iload_n hx hb dX11_type_5 rfl (lv_at hl 2 rfl) ?_
    refine lv_bipush (v := 8) hx hb dX11_type_6 (by decide) ?_
    refine lv_icmp_le (tgt := 13) hx hb dX11_type_8 (by decide) (fun c_8 => ?_) (fun c_8 => ?_)
    · rcases k_one_to_8 c_2 c_8 with rfl | rfl | rfl | rfl | rfl | rfl | rfl | rfl
      · refine lv_aload_n hx hb dX11_type_13 rfl (lv_at hl 0 rfl) ?_
        refine va_get (D := (dC, dI)) (ci := 12) (v := .int 0) (C := RX11) (T := TX11) (N := 18) hx hb hts in_f_X11_type_RX11 hown hK hP 0 rfl rfl 1 (by decide) (hts (.fieldLink RX11 90 "TripleStore" "length" "I") (List.mem_of_getElem? (i := 1) rfl)) (fun _ h9 => h9) rfl dX11_type_14 ?_
        refine lv_iload_n hx hb dX11_type_17 rfl (lv_at hl 2 rfl) ?_
        refine lv_iadd hx hb dX11_type_18 ?_
        refine W.eq (congrArg (fun z : Int32 => F0 m 19 ls (.int z :: [])) (by decide +kernel : ((0 : Int32) + 1 : Int32) = 1)) ?_
        refine lv_sipush (v := 4000) hx hb dX11_type_19 (by decide) ?_
        refine lv_icmp_le (tgt := 28) hx hb dX11_type_22 (by decide) (fun _ => ?_) (fun c9 => absurd (by decide +kernel) c9)
        refine lv_iload_n hx hb dX11_type_28 rfl (lv_at hl 2 rfl) ?_
        refine lv_iconst (v := 1) hx hb dX11_type_29 (by decide) ?_
        refine lv_isub hx hb dX11_type_30 ?_
        refine W.eq (congrArg (fun z : Int32 => F0 m 31 ls (.int z :: [])) (by decide +kernel : ((1 : Int32) - 1 : Int32) = 0)) ?_
        refine lv_istore (lv' := [(4, .int 0), (0, .ref a0), (1, .long y0), (3, .int 1)]) hx hb dX11_type_31 hl (by decide) rfl (fun ls hl => ?_)
        refine lv_iload hx hb dX11_type_33 (lv_at hl 0 rfl) ?_
        refine lv_if_lt (tgt := 72) hx hb dX11_type_35 (by decide) (fun c9 => absurd c9 (by decide +kernel)) (fun _ => ?_)
        refine lv_aload_n hx hb dX11_type_38 rfl (lv_at hl 1 rfl) ?_
        refine va_get (D := (dC, dI)) (ci := 12) (v := .ref a1) (C := RX11) (T := TX11) (N := 18) hx hb hts in_f_X11_type_RX11 hown hK hP 0 rfl rfl 0 (by decide) (hts (.fieldLink RX11 9 "TripleStore" "text" "[B") (List.mem_of_getElem? (i := 2) rfl)) (fun _ h9 => h9) rfl dX11_type_39 ?_
        refine lv_aload_n hx hb dX11_type_42 rfl (lv_at hl 1 rfl) ?_
        refine va_get (D := (dC, dI)) (ci := 12) (v := .int 0) (C := RX11) (T := TX11) (N := 18) hx hb hts in_f_X11_type_RX11 hown hK hP 0 rfl rfl 1 (by decide) (hts (.fieldLink RX11 90 "TripleStore" "length" "I") (List.mem_of_getElem? (i := 1) rfl)) (fun _ h9 => h9) rfl dX11_type_43 ?_
        refine lv_lload_n hx hb dX11_type_46 rfl (lv_at hl 2 rfl) ?_
        refine lv_bipush (v := 8) hx hb dX11_type_47 (by decide) ?_
        refine lv_iload hx hb dX11_type_49 (lv_at hl 0 rfl) ?_
        refine lv_imul hx hb dX11_type_51 ?_
        refine W.eq (congrArg (fun z : Int32 => F0 m 52 ls (.int z :: [.long y0, .int 0, .ref a1])) (by decide +kernel : ((8 : Int32) * 0 : Int32) = 0)) ?_
        refine lv_lushr hx hb dX11_type_52 rfl ?_
        refine lv_topl (fun yy1 _ => ?_)
        refine lv_l2i hx hb dX11_type_53 rfl ?_
        refine lv_topi (fun xx2 _ => ?_)
        refine lv_i2b hx hb dX11_type_54 rfl ?_
        refine lv_topi (fun xx3 _ => ?_)
        refine va_bast (i := 0) (x := xx3) hx hb hK hP hD hS 1 0 rfl rfl (by unfold vp_in; decide +kernel) dX11_type_55 (fun H locs hP hD hS => ?_)
        have hP : va_P (dC, dI) vwCl [(a0, .inr (12, [.ref a1, .int 0, .ref a2, .ref a3, .ref a4, .ref a5, .ref a6, .ref a7, .ref a8, .ref a9, .ref a10, .int 0, .int 0, .int 0, .int 0, .int 0, .null, .int 0])), (a1, .inl (k0, 4000, .inl (upd (fun _ => 0) (Int32.toNatClampNeg 0) (vp_nar .byte xx3))))] H := hP
        have hD : va_D A [(a0, .inr (12, [.ref a1, .int 0, .ref a2, .ref a3, .ref a4, .ref a5, .ref a6, .ref a7, .ref a8, .ref a9, .ref a10, .int 0, .int 0, .int 0, .int 0, .int 0, .null, .int 0])), (a1, .inl (k0, 4000, .inl (upd (fun _ => 0) (Int32.toNatClampNeg 0) (vp_nar .byte xx3))))] := hD
        refine lv_aload_n hx hb dX11_type_56 rfl (lv_at hl 1 rfl) ?_
        refine lv_dup hx hb dX11_type_57 rfl ?_
        refine va_get (D := (dC, dI)) (ci := 12) (v := .int 0) (C := RX11) (T := TX11) (N := 18) hx hb hts in_f_X11_type_RX11 hown hK hP 0 rfl rfl 1 (by decide) (hts (.fieldLink RX11 90 "TripleStore" "length" "I") (List.mem_of_getElem? (i := 1) rfl)) (fun _ h9 => h9) rfl dX11_type_58 ?_
        refine lv_iconst (v := 1) hx hb dX11_type_61 (by decide) ?_
        refine lv_iadd hx hb dX11_type_62 ?_
        refine W.eq (congrArg (fun z : Int32 => F0 m 63 ls (.int z :: [.ref a0])) (by decide +kernel : ((0 : Int32) + 1 : Int32) = 1)) ?_
        refine va_put (D := (dC, dI)) (ci := 12) (v := .int 1) (ty := .int) (C := RX11) (T := TX11) (N := 18) hx hb hts in_f_X11_type_RX11 tyX11 tyX11_ok nmX11 hown hK hP hD hS 0 rfl rfl 1 (by decide) (hts (.fieldLink RX11 90 "TripleStore" "length" "I") (List.mem_of_getElem? (i := 1) rfl)) (fun _ h9 => h9) rfl (by decide +kernel) rfl rfl (Nat.le_of_ble_eq_true rfl) dX11_type_63 (fun H locs hP hD hS => ?_)
        have hP : va_P (dC, dI) vwCl [(a0, .inr (12, [.ref a1, .int 1, .ref a2, .ref a3, .ref a4, .ref a5, .ref a6, .ref a7, .ref a8, .ref a9, .ref a10, .int 0, .int 0, .int 0, .int 0, .int 0, .null, .int 0])), (a1, .inl (k0, 4000, .inl (upd (fun _ => 0) (Int32.toNatClampNeg 0) (vp_nar .byte xx3))))] H := hP
        have hD : va_D A [(a0, .inr (12, [.ref a1, .int 1, .ref a2, .ref a3, .ref a4, .ref a5, .ref a6, .ref a7, .ref a8, .ref a9, .ref a10, .int 0, .int 0, .int 0, .int 0, .int 0, .null, .int 0])), (a1, .inl (k0, 4000, .inl (upd (fun _ => 0) (Int32.toNatClampNeg 0) (vp_nar .byte xx3))))] := hD
        refine lv_iinc (v := (-1)) (lv' := [(4, .int (-1)), (0, .ref a0), (1, .long y0), (3, .int 1)]) hx hb dX11_type_66 hl (k := 0) rfl (by decide +kernel) (by decide) rfl (fun ls hl => ?_)
        refine lv_goto (tgt := 33) hx hb dX11_type_69 (by decide) ?_
        refine lv_iload hx hb dX11_type_33 (lv_at hl 0 rfl) ?_
        refine lv_if_lt (tgt := 72) hx hb dX11_type_35 (by decide) (fun _ => ?_) (fun c9 => absurd (by decide +kernel) c9)
        refine lv_aload_n hx hb dX11_type_72 rfl (lv_at hl 1 rfl) ?_
        refine va_get (D := (dC, dI)) (ci := 12) (v := .int 1) (C := RX11) (T := TX11) (N := 18) hx hb hts in_f_X11_type_RX11 hown hK hP 0 rfl rfl 1 (by decide) (hts (.fieldLink RX11 90 "TripleStore" "length" "I") (List.mem_of_getElem? (i := 1) rfl)) (fun _ h9 => h9) rfl dX11_type_73 ?_
        refine W.widen (k := 0) (n := 0) (Nat.le_of_ble_eq_true rfl) (Nat.le_of_ble_eq_true rfl) ?_
        exact W.iret (v := 1) hx hb hr (fun t ht hW => ⟨⟨1, (), rfl, by rw [if_neg (by decide +kernel), if_pos (by decide +kernel)], trivial⟩, hS.F ht⟩) hS.2.2 dX11_type_76
      · refine lv_aload_n hx hb dX11_type_13 rfl (lv_at hl 0 rfl) ?_
        refine va_get (D := (dC, dI)) (ci := 12) (v := .int 0) (C := RX11) (T := TX11) (N := 18) hx hb hts in_f_X11_type_RX11 hown hK hP 0 rfl rfl 1 (by decide) (hts (.fieldLink RX11 90 "TripleStore" "length" "I") (List.mem_of_getElem? (i := 1) rfl)) (fun _ h9 => h9) rfl dX11_type_14 ?_
        refine lv_iload_n hx hb dX11_type_17 rfl (lv_at hl 2 rfl) ?_
        refine lv_iadd hx hb dX11_type_18 ?_
        refine W.eq (congrArg (fun z : Int32 => F0 m 19 ls (.int z :: [])) (by decide +kernel : ((0 : Int32) + 2 : Int32) = 2)) ?_
        refine lv_sipush (v := 4000) hx hb dX11_type_19 (by decide) ?_
        refine lv_icmp_le (tgt := 28) hx hb dX11_type_22 (by decide) (fun _ => ?_) (fun c9 => absurd (by decide +kernel) c9)
        refine lv_iload_n hx hb dX11_type_28 rfl (lv_at hl 2 rfl) ?_
        refine lv_iconst (v := 1) hx hb dX11_type_29 (by decide) ?_
        refine lv_isub hx hb dX11_type_30 ?_
        refine W.eq (congrArg (fun z : Int32 => F0 m 31 ls (.int z :: [])) (by decide +kernel : ((2 : Int32) - 1 : Int32) = 1)) ?_
        refine lv_istore (lv' := [(4, .int 1), (0, .ref a0), (1, .long y0), (3, .int 2)]) hx hb dX11_type_31 hl (by decide) rfl (fun ls hl => ?_)
        refine lv_iload hx hb dX11_type_33 (lv_at hl 0 rfl) ?_
        refine lv_if_lt (tgt := 72) hx hb dX11_type_35 (by decide) (fun c9 => absurd c9 (by decide +kernel)) (fun _ => ?_)
        refine lv_aload_n hx hb dX11_type_38 rfl (lv_at hl 1 rfl) ?_
        refine va_get (D := (dC, dI)) (ci := 12) (v := .ref a1) (C := RX11) (T := TX11) (N := 18) hx hb hts in_f_X11_type_RX11 hown hK hP 0 rfl rfl 0 (by decide) (hts (.fieldLink RX11 9 "TripleStore" "text" "[B") (List.mem_of_getElem? (i := 2) rfl)) (fun _ h9 => h9) rfl dX11_type_39 ?_
        refine lv_aload_n hx hb dX11_type_42 rfl (lv_at hl 1 rfl) ?_
        refine va_get (D := (dC, dI)) (ci := 12) (v := .int 0) (C := RX11) (T := TX11) (N := 18) hx hb hts in_f_X11_type_RX11 hown hK hP 0 rfl rfl 1 (by decide) (hts (.fieldLink RX11 90 "TripleStore" "length" "I") (List.mem_of_getElem? (i := 1) rfl)) (fun _ h9 => h9) rfl dX11_type_43 ?_
        refine lv_lload_n hx hb dX11_type_46 rfl (lv_at hl 2 rfl) ?_
        refine lv_bipush (v := 8) hx hb dX11_type_47 (by decide) ?_
        refine lv_iload hx hb dX11_type_49 (lv_at hl 0 rfl) ?_
        refine lv_imul hx hb dX11_type_51 ?_
        refine W.eq (congrArg (fun z : Int32 => F0 m 52 ls (.int z :: [.long y0, .int 0, .ref a1])) (by decide +kernel : ((8 : Int32) * 1 : Int32) = 8)) ?_
        refine lv_lushr hx hb dX11_type_52 rfl ?_
        refine lv_topl (fun yy4 _ => ?_)
        refine lv_l2i hx hb dX11_type_53 rfl ?_
        refine lv_topi (fun xx5 _ => ?_)
        refine lv_i2b hx hb dX11_type_54 rfl ?_
        refine lv_topi (fun xx6 _ => ?_)
        refine va_bast (i := 0) (x := xx6) hx hb hK hP hD hS 1 0 rfl rfl (by unfold vp_in; decide +kernel) dX11_type_55 (fun H locs hP hD hS => ?_)
        have hP : va_P (dC, dI) vwCl [(a0, .inr (12, [.ref a1, .int 0, .ref a2, .ref a3, .ref a4, .ref a5, .ref a6, .ref a7, .ref a8, .ref a9, .ref a10, .int 0, .int 0, .int 0, .int 0, .int 0, .null, .int 0])), (a1, .inl (k0, 4000, .inl (upd (fun _ => 0) (Int32.toNatClampNeg 0) (vp_nar .byte xx6))))] H := hP
        have hD : va_D A [(a0, .inr (12, [.ref a1, .int 0, .ref a2, .ref a3, .ref a4, .ref a5, .ref a6, .ref a7, .ref a8, .ref a9, .ref a10, .int 0, .int 0, .int 0, .int 0, .int 0, .null, .int 0])), (a1, .inl (k0, 4000, .inl (upd (fun _ => 0) (Int32.toNatClampNeg 0) (vp_nar .byte xx6))))] := hD
        refine lv_aload_n hx hb dX11_type_56 rfl (lv_at hl 1 rfl) ?_
        refine lv_dup hx hb dX11_type_57 rfl ?_
        refine va_get (D := (dC, dI)) (ci := 12) (v := .int 0) (C := RX11) (T := TX11) (N := 18) hx hb hts in_f_X11_type_RX11 hown hK hP 0 rfl rfl 1 (by decide) (hts (.fieldLink RX11 90 "TripleStore" "length" "I") (List.mem_of_getElem? (i := 1) rfl)) (fun _ h9 => h9) rfl dX11_type_58 ?_
        refine lv_iconst (v := 1) hx hb dX11_type_61 (by decide) ?_
        refine lv_iadd hx hb dX11_type_62 ?_
        refine W.eq (congrArg (fun z : Int32 => F0 m 63 ls (.int z :: [.ref a0])) (by decide +kernel : ((0 : Int32) + 1 : Int32) = 1)) ?_
        refine va_put (D := (dC, dI)) (ci := 12) (v := .int 1) (ty := .int) (C := RX11) (T := TX11) (N := 18) hx hb hts in_f_X11_type_RX11 tyX11 tyX11_ok nmX11 hown hK hP hD hS 0 rfl rfl 1 (by decide) (hts (.fieldLink RX11 90 "TripleStore" "length" "I") (List.mem_of_getElem? (i := 1) rfl)) (fun _ h9 => h9) rfl (by decide +kernel) rfl rfl (Nat.le_of_ble_eq_true rfl) dX11_type_63 (fun H locs hP hD hS => ?_)
        have hP : va_P (dC, dI) vwCl [(a0, .inr (12, [.ref a1, .int 1, .ref a2, .ref a3, .ref a4, .ref a5, .ref a6, .ref a7, .ref a8, .ref a9, .ref a10, .int 0, .int 0, .int 0, .int 0, .int 0, .null, .int 0])), (a1, .inl (k0, 4000, .inl (upd (fun _ => 0) (Int32.toNatClampNeg 0) (vp_nar .byte xx6))))] H := hP
        have hD : va_D A [(a0, .inr (12, [.ref a1, .int 1, .ref a2, .ref a3, .ref a4, .ref a5, .ref a6, .ref a7, .ref a8, .ref a9, .ref a10, .int 0, .int 0, .int 0, .int 0, .int 0, .null, .int 0])), (a1, .inl (k0, 4000, .inl (upd (fun _ => 0) (Int32.toNatClampNeg 0) (vp_nar .byte xx6))))] := hD
        refine lv_iinc (v := 0) (lv' := [(4, .int 0), (0, .ref a0), (1, .long y0), (3, .int 2)]) hx hb dX11_type_66 hl (k := 0) rfl (by decide +kernel) (by decide) rfl (fun ls hl => ?_)
        refine lv_goto (tgt := 33) hx hb dX11_type_69 (by decide) ?_
        refine lv_iload hx hb dX11_type_33 (lv_at hl 0 rfl) ?_
        refine lv_if_lt (tgt := 72) hx hb dX11_type_35 (by decide) (fun c9 => absurd c9 (by decide +kernel)) (fun _ => ?_)
        refine lv_aload_n hx hb dX11_type_38 rfl (lv_at hl 1 rfl) ?_
        refine va_get (D := (dC, dI)) (ci := 12) (v := .ref a1) (C := RX11) (T := TX11) (N := 18) hx hb hts in_f_X11_type_RX11 hown hK hP 0 rfl rfl 0 (by decide) (hts (.fieldLink RX11 9 "TripleStore" "text" "[B") (List.mem_of_getElem? (i := 2) rfl)) (fun _ h9 => h9) rfl dX11_type_39 ?_
        refine lv_aload_n hx hb dX11_type_42 rfl (lv_at hl 1 rfl) ?_
        refine va_get (D := (dC, dI)) (ci := 12) (v := .int 1) (C := RX11) (T := TX11) (N := 18) hx hb hts in_f_X11_type_RX11 hown hK hP 0 rfl rfl 1 (by decide) (hts (.fieldLink RX11 90 "TripleStore" "length" "I") (List.mem_of_getElem? (i := 1) rfl)) (fun _ h9 => h9) rfl dX11_type_43 ?_
        refine lv_lload_n hx hb dX11_type_46 rfl (lv_at hl 2 rfl) ?_
        refine lv_bipush (v := 8) hx hb dX11_type_47 (by decide) ?_
        refine lv_iload hx hb dX11_type_49 (lv_at hl 0 rfl) ?_
        refine lv_imul hx hb dX11_type_51 ?_
        refine W.eq (congrArg (fun z : Int32 => F0 m 52 ls (.int z :: [.long y0, .int 1, .ref a1])) (by decide +kernel : ((8 : Int32) * 0 : Int32) = 0)) ?_
        refine lv_lushr hx hb dX11_type_52 rfl ?_
        refine lv_topl (fun yy7 _ => ?_)
        refine lv_l2i hx hb dX11_type_53 rfl ?_
        refine lv_topi (fun xx8 _ => ?_)
        refine lv_i2b hx hb dX11_type_54 rfl ?_
        refine lv_topi (fun xx9 _ => ?_)
        refine va_bast (i := 1) (x := xx9) hx hb hK hP hD hS 1 0 rfl rfl (by unfold vp_in; decide +kernel) dX11_type_55 (fun H locs hP hD hS => ?_)
        have hP : va_P (dC, dI) vwCl [(a0, .inr (12, [.ref a1, .int 1, .ref a2, .ref a3, .ref a4, .ref a5, .ref a6, .ref a7, .ref a8, .ref a9, .ref a10, .int 0, .int 0, .int 0, .int 0, .int 0, .null, .int 0])), (a1, .inl (k0, 4000, .inl (upd (upd (fun _ => 0) (Int32.toNatClampNeg 0) (vp_nar .byte xx6)) (Int32.toNatClampNeg 1) (vp_nar .byte xx9))))] H := hP
        have hD : va_D A [(a0, .inr (12, [.ref a1, .int 1, .ref a2, .ref a3, .ref a4, .ref a5, .ref a6, .ref a7, .ref a8, .ref a9, .ref a10, .int 0, .int 0, .int 0, .int 0, .int 0, .null, .int 0])), (a1, .inl (k0, 4000, .inl (upd (upd (fun _ => 0) (Int32.toNatClampNeg 0) (vp_nar .byte xx6)) (Int32.toNatClampNeg 1) (vp_nar .byte xx9))))] := hD
        refine lv_aload_n hx hb dX11_type_56 rfl (lv_at hl 1 rfl) ?_
        refine lv_dup hx hb dX11_type_57 rfl ?_
        refine va_get (D := (dC, dI)) (ci := 12) (v := .int 1) (C := RX11) (T := TX11) (N := 18) hx hb hts in_f_X11_type_RX11 hown hK hP 0 rfl rfl 1 (by decide) (hts (.fieldLink RX11 90 "TripleStore" "length" "I") (List.mem_of_getElem? (i := 1) rfl)) (fun _ h9 => h9) rfl dX11_type_58 ?_
        refine lv_iconst (v := 1) hx hb dX11_type_61 (by decide) ?_
        refine lv_iadd hx hb dX11_type_62 ?_
        refine W.eq (congrArg (fun z : Int32 => F0 m 63 ls (.int z :: [.ref a0])) (by decide +kernel : ((1 : Int32) + 1 : Int32) = 2)) ?_
        refine va_put (D := (dC, dI)) (ci := 12) (v := .int 2) (ty := .int) (C := RX11) (T := TX11) (N := 18) hx hb hts in_f_X11_type_RX11 tyX11 tyX11_ok nmX11 hown hK hP hD hS 0 rfl rfl 1 (by decide) (hts (.fieldLink RX11 90 "TripleStore" "length" "I") (List.mem_of_getElem? (i := 1) rfl)) (fun _ h9 => h9) rfl (by decide +kernel) rfl rfl (Nat.le_of_ble_eq_true rfl) dX11_type_63 (fun H locs hP hD hS => ?_)
        have hP : va_P (dC, dI) vwCl [(a0, .inr (12, [.ref a1, .int 2, .ref a2, .ref a3, .ref a4, .ref a5, .ref a6, .ref a7, .ref a8, .ref a9, .ref a10, .int 0, .int 0, .int 0, .int 0, .int 0, .null, .int 0])), (a1, .inl (k0, 4000, .inl (upd (upd (fun _ => 0) (Int32.toNatClampNeg 0) (vp_nar .byte xx6)) (Int32.toNatClampNeg 1) (vp_nar .byte xx9))))] H := hP
        have hD : va_D A [(a0, .inr (12, [.ref a1, .int 2, .ref a2, .ref a3, .ref a4, .ref a5, .ref a6, .ref a7, .ref a8, .ref a9, .ref a10, .int 0, .int 0, .int 0, .int 0, .int 0, .null, .int 0])), (a1, .inl (k0, 4000, .inl (upd (upd (fun _ => 0) (Int32.toNatClampNeg 0) (vp_nar .byte xx6)) (Int32.toNatClampNeg 1) (vp_nar .byte xx9))))] := hD
        refine lv_iinc (v := (-1)) (lv' := [(4, .int (-1)), (0, .ref a0), (1, .long y0), (3, .int 2)]) hx hb dX11_type_66 hl (k := 0) rfl (by decide +kernel) (by decide) rfl (fun ls hl => ?_)
        refine lv_goto (tgt := 33) hx hb dX11_type_69 (by decide) ?_
        refine lv_iload hx hb dX11_type_33 (lv_at hl 0 rfl) ?_
        refine lv_if_lt (tgt := 72) hx hb dX11_type_35 (by decide) (fun _ => ?_) (fun c9 => absurd (by decide +kernel) c9)
        refine lv_aload_n hx hb dX11_type_72 rfl (lv_at hl 1 rfl) ?_
        refine va_get (D := (dC, dI)) (ci := 12) (v := .int 2) (C := RX11) (T := TX11) (N := 18) hx hb hts in_f_X11_type_RX11 hown hK hP 0 rfl rfl 1 (by decide) (hts (.fieldLink RX11 90 "TripleStore" "length" "I") (List.mem_of_getElem? (i := 1) rfl)) (fun _ h9 => h9) rfl dX11_type_73 ?_
        refine W.widen (k := 0) (n := 0) (Nat.le_of_ble_eq_true rfl) (Nat.le_of_ble_eq_true rfl) ?_
        exact W.iret (v := 2) hx hb hr (fun t ht hW => ⟨⟨2, (), rfl, by rw [if_neg (by decide +kernel), if_pos (by decide +kernel)], trivial⟩, hS.F ht⟩) hS.2.2 dX11_type_76
      · refine lv_aload_n hx hb dX11_type_13 rfl (lv_at hl 0 rfl) ?_
        refine va_get (D := (dC, dI)) (ci := 12) (v := .int 0) (C := RX11) (T := TX11) (N := 18) hx hb hts in_f_X11_type_RX11 hown hK hP 0 rfl rfl 1 (by decide) (hts (.fieldLink RX11 90 "TripleStore" "length" "I") (List.mem_of_getElem? (i := 1) rfl)) (fun _ h9 => h9) rfl dX11_type_14 ?_
        refine lv_iload_n hx hb dX11_type_17 rfl (lv_at hl 2 rfl) ?_
        refine lv_iadd hx hb dX11_type_18 ?_
        refine W.eq (congrArg (fun z : Int32 => F0 m 19 ls (.int z :: [])) (by decide +kernel : ((0 : Int32) + 3 : Int32) = 3)) ?_
        refine lv_sipush (v := 4000) hx hb dX11_type_19 (by decide) ?_
        refine lv_icmp_le (tgt := 28) hx hb dX11_type_22 (by decide) (fun _ => ?_) (fun c9 => absurd (by decide +kernel) c9)
        refine lv_iload_n hx hb dX11_type_28 rfl (lv_at hl 2 rfl) ?_
        refine lv_iconst (v := 1) hx hb dX11_type_29 (by decide) ?_
        refine lv_isub hx hb dX11_type_30 ?_
        refine W.eq (congrArg (fun z : Int32 => F0 m 31 ls (.int z :: [])) (by decide +kernel : ((3 : Int32) - 1 : Int32) = 2)) ?_
        refine lv_istore (lv' := [(4, .int 2), (0, .ref a0), (1, .long y0), (3, .int 3)]) hx hb dX11_type_31 hl (by decide) rfl (fun ls hl => ?_)
        refine lv_iload hx hb dX11_type_33 (lv_at hl 0 rfl) ?_
        refine lv_if_lt (tgt := 72) hx hb dX11_type_35 (by decide) (fun c9 => absurd c9 (by decide +kernel)) (fun _ => ?_)
        refine lv_aload_n hx hb dX11_type_38 rfl (lv_at hl 1 rfl) ?_
        refine va_get (D := (dC, dI)) (ci := 12) (v := .ref a1) (C := RX11) (T := TX11) (N := 18) hx hb hts in_f_X11_type_RX11 hown hK hP 0 rfl rfl 0 (by decide) (hts (.fieldLink RX11 9 "TripleStore" "text" "[B") (List.mem_of_getElem? (i := 2) rfl)) (fun _ h9 => h9) rfl dX11_type_39 ?_
        refine lv_aload_n hx hb dX11_type_42 rfl (lv_at hl 1 rfl) ?_
        refine va_get (D := (dC, dI)) (ci := 12) (v := .int 0) (C := RX11) (T := TX11) (N := 18) hx hb hts in_f_X11_type_RX11 hown hK hP 0 rfl rfl 1 (by decide) (hts (.fieldLink RX11 90 "TripleStore" "length" "I") (List.mem_of_getElem? (i := 1) rfl)) (fun _ h9 => h9) rfl dX11_type_43 ?_
        refine lv_lload_n hx hb dX11_type_46 rfl (lv_at hl 2 rfl) ?_
        refine lv_bipush (v := 8) hx hb dX11_type_47 (by decide) ?_
        refine lv_iload hx hb dX11_type_49 (lv_at hl 0 rfl) ?_
        refine lv_imul hx hb dX11_type_51 ?_
        refine W.eq (congrArg (fun z : Int32 => F0 m 52 ls (.int z :: [.long y0, .int 0, .ref a1])) (by decide +kernel : ((8 : Int32) * 2 : Int32) = 16)) ?_
        refine lv_lushr hx hb dX11_type_52 rfl ?_
        refine lv_topl (fun yy10 _ => ?_)
        refine lv_l2i hx hb dX11_type_53 rfl ?_
        refine lv_topi (fun xx11 _ => ?_)
        refine lv_i2b hx hb dX11_type_54 rfl ?_
        refine lv_topi (fun xx12 _ => ?_)
        refine va_bast (i := 0) (x := xx12) hx hb hK hP hD hS 1 0 rfl rfl (by unfold vp_in; decide +kernel) dX11_type_55 (fun H locs hP hD hS => ?_)
        have hP : va_P (dC, dI) vwCl [(a0, .inr (12, [.ref a1, .int 0, .ref a2, .ref a3, .ref a4, .ref a5, .ref a6, .ref a7, .ref a8, .ref a9, .ref a10, .int 0, .int 0, .int 0, .int 0, .int 0, .null, .int 0])), (a1, .inl (k0, 4000, .inl (upd (fun _ => 0) (Int32.toNatClampNeg 0) (vp_nar .byte xx12))))] H := hP
        have hD : va_D A [(a0, .inr (12, [.ref a1, .int 0, .ref a2, .ref a3, .ref a4, .ref a5, .ref a6, .ref a7, .ref a8, .ref a9, .ref a10, .int 0, .int 0, .int 0, .int 0, .int 0, .null, .int 0])), (a1, .inl (k0, 4000, .inl (upd (fun _ => 0) (Int32.toNatClampNeg 0) (vp_nar .byte xx12))))] := hD
        refine lv_aload_n hx hb dX11_type_56 rfl (lv_at hl 1 rfl) ?_
        refine lv_dup hx hb dX11_type_57 rfl ?_
        refine va_get (D := (dC, dI)) (ci := 12) (v := .int 0) (C := RX11) (T := TX11) (N := 18) hx hb hts in_f_X11_type_RX11 hown hK hP 0 rfl rfl 1 (by decide) (hts (.fieldLink RX11 90 "TripleStore" "length" "I") (List.mem_of_getElem? (i := 1) rfl)) (fun _ h9 => h9) rfl dX11_type_58 ?_
        refine lv_iconst (v := 1) hx hb dX11_type_61 (by decide) ?_
        refine lv_iadd hx hb dX11_type_62 ?_
        refine W.eq (congrArg (fun z : Int32 => F0 m 63 ls (.int z :: [.ref a0])) (by decide +kernel : ((0 : Int32) + 1 : Int32) = 1)) ?_
        refine va_put (D := (dC, dI)) (ci := 12) (v := .int 1) (ty := .int) (C := RX11) (T := TX11) (N := 18) hx hb hts in_f_X11_type_RX11 tyX11 tyX11_ok nmX11 hown hK hP hD hS 0 rfl rfl 1 (by decide) (hts (.fieldLink RX11 90 "TripleStore" "length" "I") (List.mem_of_getElem? (i := 1) rfl)) (fun _ h9 => h9) rfl (by decide +kernel) rfl rfl (Nat.le_of_ble_eq_true rfl) dX11_type_63 (fun H locs hP hD hS => ?_)
        have hP : va_P (dC, dI) vwCl [(a0, .inr (12, [.ref a1, .int 1, .ref a2, .ref a3, .ref a4, .ref a5, .ref a6, .ref a7, .ref a8, .ref a9, .ref a10, .int 0, .int 0, .int 0, .int 0, .int 0, .null, .int 0])), (a1, .inl (k0, 4000, .inl (upd (fun _ => 0) (Int32.toNatClampNeg 0) (vp_nar .byte xx12))))] H := hP
        have hD : va_D A [(a0, .inr (12, [.ref a1, .int 1, .ref a2, .ref a3, .ref a4, .ref a5, .ref a6, .ref a7, .ref a8, .ref a9, .ref a10, .int 0, .int 0, .int 0, .int 0, .int 0, .null, .int 0])), (a1, .inl (k0, 4000, .inl (upd (fun _ => 0) (Int32.toNatClampNeg 0) (vp_nar .byte xx12))))] := hD
        refine lv_iinc (v := 1) (lv' := [(4, .int 1), (0, .ref a0), (1, .long y0), (3, .int 3)]) hx hb dX11_type_66 hl (k := 0) rfl (by decide +kernel) (by decide) rfl (fun ls hl => ?_)
        refine lv_goto (tgt := 33) hx hb dX11_type_69 (by decide) ?_
        refine lv_iload hx hb dX11_type_33 (lv_at hl 0 rfl) ?_
        refine lv_if_lt (tgt := 72) hx hb dX11_type_35 (by decide) (fun c9 => absurd c9 (by decide +kernel)) (fun _ => ?_)
        refine lv_aload_n hx hb dX11_type_38 rfl (lv_at hl 1 rfl) ?_
        refine va_get (D := (dC, dI)) (ci := 12) (v := .ref a1) (C := RX11) (T := TX11) (N := 18) hx hb hts in_f_X11_type_RX11 hown hK hP 0 rfl rfl 0 (by decide) (hts (.fieldLink RX11 9 "TripleStore" "text" "[B") (List.mem_of_getElem? (i := 2) rfl)) (fun _ h9 => h9) rfl dX11_type_39 ?_
        refine lv_aload_n hx hb dX11_type_42 rfl (lv_at hl 1 rfl) ?_
        refine va_get (D := (dC, dI)) (ci := 12) (v := .int 1) (C := RX11) (T := TX11) (N := 18) hx hb hts in_f_X11_type_RX11 hown hK hP 0 rfl rfl 1 (by decide) (hts (.fieldLink RX11 90 "TripleStore" "length" "I") (List.mem_of_getElem? (i := 1) rfl)) (fun _ h9 => h9) rfl dX11_type_43 ?_
        refine lv_lload_n hx hb dX11_type_46 rfl (lv_at hl 2 rfl) ?_
        refine lv_bipush (v := 8) hx hb dX11_type_47 (by decide) ?_
        refine lv_iload hx hb dX11_type_49 (lv_at hl 0 rfl) ?_
        refine lv_imul hx hb dX11_type_51 ?_
        refine W.eq (congrArg (fun z : Int32 => F0 m 52 ls (.int z :: [.long y0, .int 1, .ref a1])) (by decide +kernel : ((8 : Int32) * 1 : Int32) = 8)) ?_
        refine lv_lushr hx hb dX11_type_52 rfl ?_
        refine lv_topl (fun yy13 _ => ?_)
        refine lv_l2i hx hb dX11_type_53 rfl ?_
        refine lv_topi (fun xx14 _ => ?_)
        refine lv_i2b hx hb dX11_type_54 rfl ?_
        refine lv_topi (fun xx15 _ => ?_)
        refine va_bast (i := 1) (x := xx15) hx hb hK hP hD hS 1 0 rfl rfl (by unfold vp_in; decide +kernel) dX11_type_55 (fun H locs hP hD hS => ?_)
        have hP : va_P (dC, dI) vwCl [(a0, .inr (12, [.ref a1, .int 1, .ref a2, .ref a3, .ref a4, .ref a5, .ref a6, .ref a7, .ref a8, .ref a9, .ref a10, .int 0, .int 0, .int 0, .int 0, .int 0, .null, .int 0])), (a1, .inl (k0, 4000, .inl (upd (upd (fun _ => 0) (Int32.toNatClampNeg 0) (vp_nar .byte xx12)) (Int32.toNatClampNeg 1) (vp_nar .byte xx15))))] H := hP
        have hD : va_D A [(a0, .inr (12, [.ref a1, .int 1, .ref a2, .ref a3, .ref a4, .ref a5, .ref a6, .ref a7, .ref a8, .ref a9, .ref a10, .int 0, .int 0, .int 0, .int 0, .int 0, .null, .int 0])), (a1, .inl (k0, 4000, .inl (upd (upd (fun _ => 0) (Int32.toNatClampNeg 0) (vp_nar .byte xx12)) (Int32.toNatClampNeg 1) (vp_nar .byte xx15))))] := hD
        refine lv_aload_n hx hb dX11_type_56 rfl (lv_at hl 1 rfl) ?_
        refine lv_dup hx hb dX11_type_57 rfl ?_
        refine va_get (D := (dC, dI)) (ci := 12) (v := .int 1) (C := RX11) (T := TX11) (N := 18) hx hb hts in_f_X11_type_RX11 hown hK hP 0 rfl rfl 1 (by decide) (hts (.fieldLink RX11 90 "TripleStore" "length" "I") (List.mem_of_getElem? (i := 1) rfl)) (fun _ h9 => h9) rfl dX11_type_58 ?_
        refine lv_iconst (v := 1) hx hb dX11_type_61 (by decide) ?_
        refine lv_iadd hx hb dX11_type_62 ?_
        refine W.eq (congrArg (fun z : Int32 => F0 m 63 ls (.int z :: [.ref a0])) (by decide +kernel : ((1 : Int32) + 1 : Int32) = 2)) ?_
        refine va_put (D := (dC, dI)) (ci := 12) (v := .int 2) (ty := .int) (C := RX11) (T := TX11) (N := 18) hx hb hts in_f_X11_type_RX11 tyX11 tyX11_ok nmX11 hown hK hP hD hS 0 rfl rfl 1 (by decide) (hts (.fieldLink RX11 90 "TripleStore" "length" "I") (List.mem_of_getElem? (i := 1) rfl)) (fun _ h9 => h9) rfl (by decide +kernel) rfl rfl (Nat.le_of_ble_eq_true rfl) dX11_type_63 (fun H locs hP hD hS => ?_)
        have hP : va_P (dC, dI) vwCl [(a0, .inr (12, [.ref a1, .int 2, .ref a2, .ref a3, .ref a4, .ref a5, .ref a6, .ref a7, .ref a8, .ref a9, .ref a10, .int 0, .int 0, .int 0, .int 0, .int 0, .null, .int 0])), (a1, .inl (k0, 4000, .inl (upd (upd (fun _ => 0) (Int32.toNatClampNeg 0) (vp_nar .byte xx12)) (Int32.toNatClampNeg 1) (vp_nar .byte xx15))))] H := hP
        have hD : va_D A [(a0, .inr (12, [.ref a1, .int 2, .ref a2, .ref a3, .ref a4, .ref a5, .ref a6, .ref a7, .ref a8, .ref a9, .ref a10, .int 0, .int 0, .int 0, .int 0, .int 0, .null, .int 0])), (a1, .inl (k0, 4000, .inl (upd (upd (fun _ => 0) (Int32.toNatClampNeg 0) (vp_nar .byte xx12)) (Int32.toNatClampNeg 1) (vp_nar .byte xx15))))] := hD
        refine lv_iinc (v := 0) (lv' := [(4, .int 0), (0, .ref a0), (1, .long y0), (3, .int 3)]) hx hb dX11_type_66 hl (k := 0) rfl (by decide +kernel) (by decide) rfl (fun ls hl => ?_)
        refine lv_goto (tgt := 33) hx hb dX11_type_69 (by decide) ?_
        refine lv_iload hx hb dX11_type_33 (lv_at hl 0 rfl) ?_
        refine lv_if_lt (tgt := 72) hx hb dX11_type_35 (by decide) (fun c9 => absurd c9 (by decide +kernel)) (fun _ => ?_)
        refine lv_aload_n hx hb dX11_type_38 rfl (lv_at hl 1 rfl) ?_
        refine va_get (D := (dC, dI)) (ci := 12) (v := .ref a1) (C := RX11) (T := TX11) (N := 18) hx hb hts in_f_X11_type_RX11 hown hK hP 0 rfl rfl 0 (by decide) (hts (.fieldLink RX11 9 "TripleStore" "text" "[B") (List.mem_of_getElem? (i := 2) rfl)) (fun _ h9 => h9) rfl dX11_type_39 ?_
        refine lv_aload_n hx hb dX11_type_42 rfl (lv_at hl 1 rfl) ?_
        refine va_get (D := (dC, dI)) (ci := 12) (v := .int 2) (C := RX11) (T := TX11) (N := 18) hx hb hts in_f_X11_type_RX11 hown hK hP 0 rfl rfl 1 (by decide) (hts (.fieldLink RX11 90 "TripleStore" "length" "I") (List.mem_of_getElem? (i := 1) rfl)) (fun _ h9 => h9) rfl dX11_type_43 ?_
        refine lv_lload_n hx hb dX11_type_46 rfl (lv_at hl 2 rfl) ?_
        refine lv_bipush (v := 8) hx hb dX11_type_47 (by decide) ?_
        refine lv_iload hx hb dX11_type_49 (lv_at hl 0 rfl) ?_
        refine lv_imul hx hb dX11_type_51 ?_
        refine W.eq (congrArg (fun z : Int32 => F0 m 52 ls (.int z :: [.long y0, .int 2, .ref a1])) (by decide +kernel : ((8 : Int32) * 0 : Int32) = 0)) ?_
        refine lv_lushr hx hb dX11_type_52 rfl ?_
        refine lv_topl (fun yy16 _ => ?_)
        refine lv_l2i hx hb dX11_type_53 rfl ?_
        refine lv_topi (fun xx17 _ => ?_)
        refine lv_i2b hx hb dX11_type_54 rfl ?_
        refine lv_topi (fun xx18 _ => ?_)
        refine va_bast (i := 2) (x := xx18) hx hb hK hP hD hS 1 0 rfl rfl (by unfold vp_in; decide +kernel) dX11_type_55 (fun H locs hP hD hS => ?_)
        have hP : va_P (dC, dI) vwCl [(a0, .inr (12, [.ref a1, .int 2, .ref a2, .ref a3, .ref a4, .ref a5, .ref a6, .ref a7, .ref a8, .ref a9, .ref a10, .int 0, .int 0, .int 0, .int 0, .int 0, .null, .int 0])), (a1, .inl (k0, 4000, .inl (upd (upd (upd (fun _ => 0) (Int32.toNatClampNeg 0) (vp_nar .byte xx12)) (Int32.toNatClampNeg 1) (vp_nar .byte xx15)) (Int32.toNatClampNeg 2) (vp_nar .byte xx18))))] H := hP
        have hD : va_D A [(a0, .inr (12, [.ref a1, .int 2, .ref a2, .ref a3, .ref a4, .ref a5, .ref a6, .ref a7, .ref a8, .ref a9, .ref a10, .int 0, .int 0, .int 0, .int 0, .int 0, .null, .int 0])), (a1, .inl (k0, 4000, .inl (upd (upd (upd (fun _ => 0) (Int32.toNatClampNeg 0) (vp_nar .byte xx12)) (Int32.toNatClampNeg 1) (vp_nar .byte xx15)) (Int32.toNatClampNeg 2) (vp_nar .byte xx18))))] := hD
        refine lv_aload_n hx hb dX11_type_56 rfl (lv_at hl 1 rfl) ?_
        refine lv_dup hx hb dX11_type_57 rfl ?_
        refine va_get (D := (dC, dI)) (ci := 12) (v := .int 2) (C := RX11) (T := TX11) (N := 18) hx hb hts in_f_X11_type_RX11 hown hK hP 0 rfl rfl 1 (by decide) (hts (.fieldLink RX11 90 "TripleStore" "length" "I") (List.mem_of_getElem? (i := 1) rfl)) (fun _ h9 => h9) rfl dX11_type_58 ?_
        refine lv_iconst (v := 1) hx hb dX11_type_61 (by decide) ?_
        refine lv_iadd hx hb dX11_type_62 ?_
        refine W.eq (congrArg (fun z : Int32 => F0 m 63 ls (.int z :: [.ref a0])) (by decide +kernel : ((2 : Int32) + 1 : Int32) = 3)) ?_
        refine va_put (D := (dC, dI)) (ci := 12) (v := .int 3) (ty := .int) (C := RX11) (T := TX11) (N := 18) hx hb hts in_f_X11_type_RX11 tyX11 tyX11_ok nmX11 hown hK hP hD hS 0 rfl rfl 1 (by decide) (hts (.fieldLink RX11 90 "TripleStore" "length" "I") (List.mem_of_getElem? (i := 1) rfl)) (fun _ h9 => h9) rfl (by decide +kernel) rfl rfl (Nat.le_of_ble_eq_true rfl) dX11_type_63 (fun H locs hP hD hS => ?_)
        have hP : va_P (dC, dI) vwCl [(a0, .inr (12, [.ref a1, .int 3, .ref a2, .ref a3, .ref a4, .ref a5, .ref a6, .ref a7, .ref a8, .ref a9, .ref a10, .int 0, .int 0, .int 0, .int 0, .int 0, .null, .int 0])), (a1, .inl (k0, 4000, .inl (upd (upd (upd (fun _ => 0) (Int32.toNatClampNeg 0) (vp_nar .byte xx12)) (Int32.toNatClampNeg 1) (vp_nar .byte xx15)) (Int32.toNatClampNeg 2) (vp_nar .byte xx18))))] H := hP
        have hD : va_D A [(a0, .inr (12, [.ref a1, .int 3, .ref a2, .ref a3, .ref a4, .ref a5, .ref a6, .ref a7, .ref a8, .ref a9, .ref a10, .int 0, .int 0, .int 0, .int 0, .int 0, .null, .int 0])), (a1, .inl (k0, 4000, .inl (upd (upd (upd (fun _ => 0) (Int32.toNatClampNeg 0) (vp_nar .byte xx12)) (Int32.toNatClampNeg 1) (vp_nar .byte xx15)) (Int32.toNatClampNeg 2) (vp_nar .byte xx18))))] := hD
        refine lv_iinc (v := (-1)) (lv' := [(4, .int (-1)), (0, .ref a0), (1, .long y0), (3, .int 3)]) hx hb dX11_type_66 hl (k := 0) rfl (by decide +kernel) (by decide) rfl (fun ls hl => ?_)
        refine lv_goto (tgt := 33) hx hb dX11_type_69 (by decide) ?_
        refine lv_iload hx hb dX11_type_33 (lv_at hl 0 rfl) ?_
        refine lv_if_lt (tgt := 72) hx hb dX11_type_35 (by decide) (fun _ => ?_) (fun c9 => absurd (by decide +kernel) c9)
        refine lv_aload_n hx hb dX11_type_72 rfl (lv_at hl 1 rfl) ?_
        refine va_get (D := (dC, dI)) (ci := 12) (v := .int 3) (C := RX11) (T := TX11) (N := 18) hx hb hts in_f_X11_type_RX11 hown hK hP 0 rfl rfl 1 (by decide) (hts (.fieldLink RX11 90 "TripleStore" "length" "I") (List.mem_of_getElem? (i := 1) rfl)) (fun _ h9 => h9) rfl dX11_type_73 ?_
        refine W.widen (k := 0) (n := 0) (Nat.le_of_ble_eq_true rfl) (Nat.le_of_ble_eq_true rfl) ?_
        exact W.iret (v := 3) hx hb hr (fun t ht hW => ⟨⟨3, (), rfl, by rw [if_neg (by decide +kernel), if_pos (by decide +kernel)], trivial⟩, hS.F ht⟩) hS.2.2 dX11_type_76
      · refine lv_aload_n hx hb dX11_type_13 rfl (lv_at hl 0 rfl) ?_
        refine va_get (D := (dC, dI)) (ci := 12) (v := .int 0) (C := RX11) (T := TX11) (N := 18) hx hb hts in_f_X11_type_RX11 hown hK hP 0 rfl rfl 1 (by decide) (hts (.fieldLink RX11 90 "TripleStore" "length" "I") (List.mem_of_getElem? (i := 1) rfl)) (fun _ h9 => h9) rfl dX11_type_14 ?_
        refine lv_iload_n hx hb dX11_type_17 rfl (lv_at hl 2 rfl) ?_
        refine lv_iadd hx hb dX11_type_18 ?_
        refine W.eq (congrArg (fun z : Int32 => F0 m 19 ls (.int z :: [])) (by decide +kernel : ((0 : Int32) + 4 : Int32) = 4)) ?_
        refine lv_sipush (v := 4000) hx hb dX11_type_19 (by decide) ?_
        refine lv_icmp_le (tgt := 28) hx hb dX11_type_22 (by decide) (fun _ => ?_) (fun c9 => absurd (by decide +kernel) c9)
        refine lv_iload_n hx hb dX11_type_28 rfl (lv_at hl 2 rfl) ?_
        refine lv_iconst (v := 1) hx hb dX11_type_29 (by decide) ?_
        refine lv_isub hx hb dX11_type_30 ?_
        refine W.eq (congrArg (fun z : Int32 => F0 m 31 ls (.int z :: [])) (by decide +kernel : ((4 : Int32) - 1 : Int32) = 3)) ?_
        refine lv_istore (lv' := [(4, .int 3), (0, .ref a0), (1, .long y0), (3, .int 4)]) hx hb dX11_type_31 hl (by decide) rfl (fun ls hl => ?_)
        refine lv_iload hx hb dX11_type_33 (lv_at hl 0 rfl) ?_
        refine lv_if_lt (tgt := 72) hx hb dX11_type_35 (by decide) (fun c9 => absurd c9 (by decide +kernel)) (fun _ => ?_)
        refine lv_aload_n hx hb dX11_type_38 rfl (lv_at hl 1 rfl) ?_
        refine va_get (D := (dC, dI)) (ci := 12) (v := .ref a1) (C := RX11) (T := TX11) (N := 18) hx hb hts in_f_X11_type_RX11 hown hK hP 0 rfl rfl 0 (by decide) (hts (.fieldLink RX11 9 "TripleStore" "text" "[B") (List.mem_of_getElem? (i := 2) rfl)) (fun _ h9 => h9) rfl dX11_type_39 ?_
        refine lv_aload_n hx hb dX11_type_42 rfl (lv_at hl 1 rfl) ?_
        refine va_get (D := (dC, dI)) (ci := 12) (v := .int 0) (C := RX11) (T := TX11) (N := 18) hx hb hts in_f_X11_type_RX11 hown hK hP 0 rfl rfl 1 (by decide) (hts (.fieldLink RX11 90 "TripleStore" "length" "I") (List.mem_of_getElem? (i := 1) rfl)) (fun _ h9 => h9) rfl dX11_type_43 ?_
        refine lv_lload_n hx hb dX11_type_46 rfl (lv_at hl 2 rfl) ?_
        refine lv_bipush (v := 8) hx hb dX11_type_47 (by decide) ?_
        refine lv_iload hx hb dX11_type_49 (lv_at hl 0 rfl) ?_
        refine lv_imul hx hb dX11_type_51 ?_
        refine W.eq (congrArg (fun z : Int32 => F0 m 52 ls (.int z :: [.long y0, .int 0, .ref a1])) (by decide +kernel : ((8 : Int32) * 3 : Int32) = 24)) ?_
        refine lv_lushr hx hb dX11_type_52 rfl ?_
        refine lv_topl (fun yy19 _ => ?_)
        refine lv_l2i hx hb dX11_type_53 rfl ?_
        refine lv_topi (fun xx20 _ => ?_)
        refine lv_i2b hx hb dX11_type_54 rfl ?_
        refine lv_topi (fun xx21 _ => ?_)
        refine va_bast (i := 0) (x := xx21) hx hb hK hP hD hS 1 0 rfl rfl (by unfold vp_in; decide +kernel) dX11_type_55 (fun H locs hP hD hS => ?_)
        have hP : va_P (dC, dI) vwCl [(a0, .inr (12, [.ref a1, .int 0, .ref a2, .ref a3, .ref a4, .ref a5, .ref a6, .ref a7, .ref a8, .ref a9, .ref a10, .int 0, .int 0, .int 0, .int 0, .int 0, .null, .int 0])), (a1, .inl (k0, 4000, .inl (upd (fun _ => 0) (Int32.toNatClampNeg 0) (vp_nar .byte xx21))))] H := hP
        have hD : va_D A [(a0, .inr (12, [.ref a1, .int 0, .ref a2, .ref a3, .ref a4, .ref a5, .ref a6, .ref a7, .ref a8, .ref a9, .ref a10, .int 0, .int 0, .int 0, .int 0, .int 0, .null, .int 0])), (a1, .inl (k0, 4000, .inl (upd (fun _ => 0) (Int32.toNatClampNeg 0) (vp_nar .byte xx21))))] := hD
        refine lv_aload_n hx hb dX11_type_56 rfl (lv_at hl 1 rfl) ?_
        refine lv_dup hx hb dX11_type_57 rfl ?_
        refine va_get (D := (dC, dI)) (ci := 12) (v := .int 0) (C := RX11) (T := TX11) (N := 18) hx hb hts in_f_X11_type_RX11 hown hK hP 0 rfl rfl 1 (by decide) (hts (.fieldLink RX11 90 "TripleStore" "length" "I") (List.mem_of_getElem? (i := 1) rfl)) (fun _ h9 => h9) rfl dX11_type_58 ?_
        refine lv_iconst (v := 1) hx hb dX11_type_61 (by decide) ?_
        refine lv_iadd hx hb dX11_type_62 ?_
        refine W.eq (congrArg (fun z : Int32 => F0 m 63 ls (.int z :: [.ref a0])) (by decide +kernel : ((0 : Int32) + 1 : Int32) = 1)) ?_
        refine va_put (D := (dC, dI)) (ci := 12) (v := .int 1) (ty := .int) (C := RX11) (T := TX11) (N := 18) hx hb hts in_f_X11_type_RX11 tyX11 tyX11_ok nmX11 hown hK hP hD hS 0 rfl rfl 1 (by decide) (hts (.fieldLink RX11 90 "TripleStore" "length" "I") (List.mem_of_getElem? (i := 1) rfl)) (fun _ h9 => h9) rfl (by decide +kernel) rfl rfl (Nat.le_of_ble_eq_true rfl) dX11_type_63 (fun H locs hP hD hS => ?_)
        have hP : va_P (dC, dI) vwCl [(a0, .inr (12, [.ref a1, .int 1, .ref a2, .ref a3, .ref a4, .ref a5, .ref a6, .ref a7, .ref a8, .ref a9, .ref a10, .int 0, .int 0, .int 0, .int 0, .int 0, .null, .int 0])), (a1, .inl (k0, 4000, .inl (upd (fun _ => 0) (Int32.toNatClampNeg 0) (vp_nar .byte xx21))))] H := hP
        have hD : va_D A [(a0, .inr (12, [.ref a1, .int 1, .ref a2, .ref a3, .ref a4, .ref a5, .ref a6, .ref a7, .ref a8, .ref a9, .ref a10, .int 0, .int 0, .int 0, .int 0, .int 0, .null, .int 0])), (a1, .inl (k0, 4000, .inl (upd (fun _ => 0) (Int32.toNatClampNeg 0) (vp_nar .byte xx21))))] := hD
        refine lv_iinc (v := 2) (lv' := [(4, .int 2), (0, .ref a0), (1, .long y0), (3, .int 4)]) hx hb dX11_type_66 hl (k := 0) rfl (by decide +kernel) (by decide) rfl (fun ls hl => ?_)
        refine lv_goto (tgt := 33) hx hb dX11_type_69 (by decide) ?_
        refine lv_iload hx hb dX11_type_33 (lv_at hl 0 rfl) ?_
        refine lv_if_lt (tgt := 72) hx hb dX11_type_35 (by decide) (fun c9 => absurd c9 (by decide +kernel)) (fun _ => ?_)
        refine lv_aload_n hx hb dX11_type_38 rfl (lv_at hl 1 rfl) ?_
        refine va_get (D := (dC, dI)) (ci := 12) (v := .ref a1) (C := RX11) (T := TX11) (N := 18) hx hb hts in_f_X11_type_RX11 hown hK hP 0 rfl rfl 0 (by decide) (hts (.fieldLink RX11 9 "TripleStore" "text" "[B") (List.mem_of_getElem? (i := 2) rfl)) (fun _ h9 => h9) rfl dX11_type_39 ?_
        refine lv_aload_n hx hb dX11_type_42 rfl (lv_at hl 1 rfl) ?_
        refine va_get (D := (dC, dI)) (ci := 12) (v := .int 1) (C := RX11) (T := TX11) (N := 18) hx hb hts in_f_X11_type_RX11 hown hK hP 0 rfl rfl 1 (by decide) (hts (.fieldLink RX11 90 "TripleStore" "length" "I") (List.mem_of_getElem? (i := 1) rfl)) (fun _ h9 => h9) rfl dX11_type_43 ?_
        refine lv_lload_n hx hb dX11_type_46 rfl (lv_at hl 2 rfl) ?_
        refine lv_bipush (v := 8) hx hb dX11_type_47 (by decide) ?_
        refine lv_iload hx hb dX11_type_49 (lv_at hl 0 rfl) ?_
        refine lv_imul hx hb dX11_type_51 ?_
        refine W.eq (congrArg (fun z : Int32 => F0 m 52 ls (.int z :: [.long y0, .int 1, .ref a1])) (by decide +kernel : ((8 : Int32) * 2 : Int32) = 16)) ?_
        refine lv_lushr hx hb dX11_type_52 rfl ?_
        refine lv_topl (fun yy22 _ => ?_)
        refine lv_l2i hx hb dX11_type_53 rfl ?_
        refine lv_topi (fun xx23 _ => ?_)
        refine lv_i2b hx hb dX11_type_54 rfl ?_
        refine lv_topi (fun xx24 _ => ?_)
        refine va_bast (i := 1) (x := xx24) hx hb hK hP hD hS 1 0 rfl rfl (by unfold vp_in; decide +kernel) dX11_type_55 (fun H locs hP hD hS => ?_)
        have hP : va_P (dC, dI) vwCl [(a0, .inr (12, [.ref a1, .int 1, .ref a2, .ref a3, .ref a4, .ref a5, .ref a6, .ref a7, .ref a8, .ref a9, .ref a10, .int 0, .int 0, .int 0, .int 0, .int 0, .null, .int 0])), (a1, .inl (k0, 4000, .inl (upd (upd (fun _ => 0) (Int32.toNatClampNeg 0) (vp_nar .byte xx21)) (Int32.toNatClampNeg 1) (vp_nar .byte xx24))))] H := hP
        have hD : va_D A [(a0, .inr (12, [.ref a1, .int 1, .ref a2, .ref a3, .ref a4, .ref a5, .ref a6, .ref a7, .ref a8, .ref a9, .ref a10, .int 0, .int 0, .int 0, .int 0, .int 0, .null, .int 0])), (a1, .inl (k0, 4000, .inl (upd (upd (fun _ => 0) (Int32.toNatClampNeg 0) (vp_nar .byte xx21)) (Int32.toNatClampNeg 1) (vp_nar .byte xx24))))] := hD
        refine lv_aload_n hx hb dX11_type_56 rfl (lv_at hl 1 rfl) ?_
        refine lv_dup hx hb dX11_type_57 rfl ?_
        refine va_get (D := (dC, dI)) (ci := 12) (v := .int 1) (C := RX11) (T := TX11) (N := 18) hx hb hts in_f_X11_type_RX11 hown hK hP 0 rfl rfl 1 (by decide) (hts (.fieldLink RX11 90 "TripleStore" "length" "I") (List.mem_of_getElem? (i := 1) rfl)) (fun _ h9 => h9) rfl dX11_type_58 ?_
        refine lv_iconst (v := 1) hx hb dX11_type_61 (by decide) ?_
        refine lv_iadd hx hb dX11_type_62 ?_
        refine W.eq (congrArg (fun z : Int32 => F0 m 63 ls (.int z :: [.ref a0])) (by decide +kernel : ((1 : Int32) + 1 : Int32) = 2)) ?_
        refine va_put (D := (dC, dI)) (ci := 12) (v := .int 2) (ty := .int) (C := RX11) (T := TX11) (N := 18) hx hb hts in_f_X11_type_RX11 tyX11 tyX11_ok nmX11 hown hK hP hD hS 0 rfl rfl 1 (by decide) (hts (.fieldLink RX11 90 "TripleStore" "length" "I") (List.mem_of_getElem? (i := 1) rfl)) (fun _ h9 => h9) rfl (by decide +kernel) rfl rfl (Nat.le_of_ble_eq_true rfl) dX11_type_63 (fun H locs hP hD hS => ?_)
        have hP : va_P (dC, dI) vwCl [(a0, .inr (12, [.ref a1, .int 2, .ref a2, .ref a3, .ref a4, .ref a5, .ref a6, .ref a7, .ref a8, .ref a9, .ref a10, .int 0, .int 0, .int 0, .int 0, .int 0, .null, .int 0])), (a1, .inl (k0, 4000, .inl (upd (upd (fun _ => 0) (Int32.toNatClampNeg 0) (vp_nar .byte xx21)) (Int32.toNatClampNeg 1) (vp_nar .byte xx24))))] H := hP
        have hD : va_D A [(a0, .inr (12, [.ref a1, .int 2, .ref a2, .ref a3, .ref a4, .ref a5, .ref a6, .ref a7, .ref a8, .ref a9, .ref a10, .int 0, .int 0, .int 0, .int 0, .int 0, .null, .int 0])), (a1, .inl (k0, 4000, .inl (upd (upd (fun _ => 0) (Int32.toNatClampNeg 0) (vp_nar .byte xx21)) (Int32.toNatClampNeg 1) (vp_nar .byte xx24))))] := hD
        refine lv_iinc (v := 1) (lv' := [(4, .int 1), (0, .ref a0), (1, .long y0), (3, .int 4)]) hx hb dX11_type_66 hl (k := 0) rfl (by decide +kernel) (by decide) rfl (fun ls hl => ?_)
        refine lv_goto (tgt := 33) hx hb dX11_type_69 (by decide) ?_
        refine lv_iload hx hb dX11_type_33 (lv_at hl 0 rfl) ?_
        refine lv_if_lt (tgt := 72) hx hb dX11_type_35 (by decide) (fun c9 => absurd c9 (by decide +kernel)) (fun _ => ?_)
        refine lv_aload_n hx hb dX11_type_38 rfl (lv_at hl 1 rfl) ?_
        refine va_get (D := (dC, dI)) (ci := 12) (v := .ref a1) (C := RX11) (T := TX11) (N := 18) hx hb hts in_f_X11_type_RX11 hown hK hP 0 rfl rfl 0 (by decide) (hts (.fieldLink RX11 9 "TripleStore" "text" "[B") (List.mem_of_getElem? (i := 2) rfl)) (fun _ h9 => h9) rfl dX11_type_39 ?_
        refine lv_aload_n hx hb dX11_type_42 rfl (lv_at hl 1 rfl) ?_
        refine va_get (D := (dC, dI)) (ci := 12) (v := .int 2) (C := RX11) (T := TX11) (N := 18) hx hb hts in_f_X11_type_RX11 hown hK hP 0 rfl rfl 1 (by decide) (hts (.fieldLink RX11 90 "TripleStore" "length" "I") (List.mem_of_getElem? (i := 1) rfl)) (fun _ h9 => h9) rfl dX11_type_43 ?_
        refine lv_lload_n hx hb dX11_type_46 rfl (lv_at hl 2 rfl) ?_
        refine lv_bipush (v := 8) hx hb dX11_type_47 (by decide) ?_
        refine lv_iload hx hb dX11_type_49 (lv_at hl 0 rfl) ?_
        refine lv_imul hx hb dX11_type_51 ?_
        refine W.eq (congrArg (fun z : Int32 => F0 m 52 ls (.int z :: [.long y0, .int 2, .ref a1])) (by decide +kernel : ((8 : Int32) * 1 : Int32) = 8)) ?_
        refine lv_lushr hx hb dX11_type_52 rfl ?_
        refine lv_topl (fun yy25 _ => ?_)
        refine lv_l2i hx hb dX11_type_53 rfl ?_
        refine lv_topi (fun xx26 _ => ?_)
        refine lv_i2b hx hb dX11_type_54 rfl ?_
        refine lv_topi (fun xx27 _ => ?_)
        refine va_bast (i := 2) (x := xx27) hx hb hK hP hD hS 1 0 rfl rfl (by unfold vp_in; decide +kernel) dX11_type_55 (fun H locs hP hD hS => ?_)
        have hP : va_P (dC, dI) vwCl [(a0, .inr (12, [.ref a1, .int 2, .ref a2, .ref a3, .ref a4, .ref a5, .ref a6, .ref a7, .ref a8, .ref a9, .ref a10, .int 0, .int 0, .int 0, .int 0, .int 0, .null, .int 0])), (a1, .inl (k0, 4000, .inl (upd (upd (upd (fun _ => 0) (Int32.toNatClampNeg 0) (vp_nar .byte xx21)) (Int32.toNatClampNeg 1) (vp_nar .byte xx24)) (Int32.toNatClampNeg 2) (vp_nar .byte xx27))))] H := hP
        have hD : va_D A [(a0, .inr (12, [.ref a1, .int 2, .ref a2, .ref a3, .ref a4, .ref a5, .ref a6, .ref a7, .ref a8, .ref a9, .ref a10, .int 0, .int 0, .int 0, .int 0, .int 0, .null, .int 0])), (a1, .inl (k0, 4000, .inl (upd (upd (upd (fun _ => 0) (Int32.toNatClampNeg 0) (vp_nar .byte xx21)) (Int32.toNatClampNeg 1) (vp_nar .byte xx24)) (Int32.toNatClampNeg 2) (vp_nar .byte xx27))))] := hD
        refine lv_aload_n hx hb dX11_type_56 rfl (lv_at hl 1 rfl) ?_
        refine lv_dup hx hb dX11_type_57 rfl ?_
        refine va_get (D := (dC, dI)) (ci := 12) (v := .int 2) (C := RX11) (T := TX11) (N := 18) hx hb hts in_f_X11_type_RX11 hown hK hP 0 rfl rfl 1 (by decide) (hts (.fieldLink RX11 90 "TripleStore" "length" "I") (List.mem_of_getElem? (i := 1) rfl)) (fun _ h9 => h9) rfl dX11_type_58 ?_
        refine lv_iconst (v := 1) hx hb dX11_type_61 (by decide) ?_
        refine lv_iadd hx hb dX11_type_62 ?_
        refine W.eq (congrArg (fun z : Int32 => F0 m 63 ls (.int z :: [.ref a0])) (by decide +kernel : ((2 : Int32) + 1 : Int32) = 3)) ?_
        refine va_put (D := (dC, dI)) (ci := 12) (v := .int 3) (ty := .int) (C := RX11) (T := TX11) (N := 18) hx hb hts in_f_X11_type_RX11 tyX11 tyX11_ok nmX11 hown hK hP hD hS 0 rfl rfl 1 (by decide) (hts (.fieldLink RX11 90 "TripleStore" "length" "I") (List.mem_of_getElem? (i := 1) rfl)) (fun _ h9 => h9) rfl (by decide +kernel) rfl rfl (Nat.le_of_ble_eq_true rfl) dX11_type_63 (fun H locs hP hD hS => ?_)
        have hP : va_P (dC, dI) vwCl [(a0, .inr (12, [.ref a1, .int 3, .ref a2, .ref a3, .ref a4, .ref a5, .ref a6, .ref a7, .ref a8, .ref a9, .ref a10, .int 0, .int 0, .int 0, .int 0, .int 0, .null, .int 0])), (a1, .inl (k0, 4000, .inl (upd (upd (upd (fun _ => 0) (Int32.toNatClampNeg 0) (vp_nar .byte xx21)) (Int32.toNatClampNeg 1) (vp_nar .byte xx24)) (Int32.toNatClampNeg 2) (vp_nar .byte xx27))))] H := hP
        have hD : va_D A [(a0, .inr (12, [.ref a1, .int 3, .ref a2, .ref a3, .ref a4, .ref a5, .ref a6, .ref a7, .ref a8, .ref a9, .ref a10, .int 0, .int 0, .int 0, .int 0, .int 0, .null, .int 0])), (a1, .inl (k0, 4000, .inl (upd (upd (upd (fun _ => 0) (Int32.toNatClampNeg 0) (vp_nar .byte xx21)) (Int32.toNatClampNeg 1) (vp_nar .byte xx24)) (Int32.toNatClampNeg 2) (vp_nar .byte xx27))))] := hD
        refine lv_iinc (v := 0) (lv' := [(4, .int 0), (0, .ref a0), (1, .long y0), (3, .int 4)]) hx hb dX11_type_66 hl (k := 0) rfl (by decide +kernel) (by decide) rfl (fun ls hl => ?_)
        refine lv_goto (tgt := 33) hx hb dX11_type_69 (by decide) ?_
        refine lv_iload hx hb dX11_type_33 (lv_at hl 0 rfl) ?_
        refine lv_if_lt (tgt := 72) hx hb dX11_type_35 (by decide) (fun c9 => absurd c9 (by decide +kernel)) (fun _ => ?_)
        refine lv_aload_n hx hb dX11_type_38 rfl (lv_at hl 1 rfl) ?_
        refine va_get (D := (dC, dI)) (ci := 12) (v := .ref a1) (C := RX11) (T := TX11) (N := 18) hx hb hts in_f_X11_type_RX11 hown hK hP 0 rfl rfl 0 (by decide) (hts (.fieldLink RX11 9 "TripleStore" "text" "[B") (List.mem_of_getElem? (i := 2) rfl)) (fun _ h9 => h9) rfl dX11_type_39 ?_
        refine lv_aload_n hx hb dX11_type_42 rfl (lv_at hl 1 rfl) ?_
        refine va_get (D := (dC, dI)) (ci := 12) (v := .int 3) (C := RX11) (T := TX11) (N := 18) hx hb hts in_f_X11_type_RX11 hown hK hP 0 rfl rfl 1 (by decide) (hts (.fieldLink RX11 90 "TripleStore" "length" "I") (List.mem_of_getElem? (i := 1) rfl)) (fun _ h9 => h9) rfl dX11_type_43 ?_
        refine lv_lload_n hx hb dX11_type_46 rfl (lv_at hl 2 rfl) ?_
        refine lv_bipush (v := 8) hx hb dX11_type_47 (by decide) ?_
        refine lv_iload hx hb dX11_type_49 (lv_at hl 0 rfl) ?_
        refine lv_imul hx hb dX11_type_51 ?_
        refine W.eq (congrArg (fun z : Int32 => F0 m 52 ls (.int z :: [.long y0, .int 3, .ref a1])) (by decide +kernel : ((8 : Int32) * 0 : Int32) = 0)) ?_
        refine lv_lushr hx hb dX11_type_52 rfl ?_
        refine lv_topl (fun yy28 _ => ?_)
        refine lv_l2i hx hb dX11_type_53 rfl ?_
        refine lv_topi (fun xx29 _ => ?_)
        refine lv_i2b hx hb dX11_type_54 rfl ?_
        refine lv_topi (fun xx30 _ => ?_)
        refine va_bast (i := 3) (x := xx30) hx hb hK hP hD hS 1 0 rfl rfl (by unfold vp_in; decide +kernel) dX11_type_55 (fun H locs hP hD hS => ?_)
        have hP : va_P (dC, dI) vwCl [(a0, .inr (12, [.ref a1, .int 3, .ref a2, .ref a3, .ref a4, .ref a5, .ref a6, .ref a7, .ref a8, .ref a9, .ref a10, .int 0, .int 0, .int 0, .int 0, .int 0, .null, .int 0])), (a1, .inl (k0, 4000, .inl (upd (upd (upd (upd (fun _ => 0) (Int32.toNatClampNeg 0) (vp_nar .byte xx21)) (Int32.toNatClampNeg 1) (vp_nar .byte xx24)) (Int32.toNatClampNeg 2) (vp_nar .byte xx27)) (Int32.toNatClampNeg 3) (vp_nar .byte xx30))))] H := hP
        have hD : va_D A [(a0, .inr (12, [.ref a1, .int 3, .ref a2, .ref a3, .ref a4, .ref a5, .ref a6, .ref a7, .ref a8, .ref a9, .ref a10, .int 0, .int 0, .int 0, .int 0, .int 0, .null, .int 0])), (a1, .inl (k0, 4000, .inl (upd (upd (upd (upd (fun _ => 0) (Int32.toNatClampNeg 0) (vp_nar .byte xx21)) (Int32.toNatClampNeg 1) (vp_nar .byte xx24)) (Int32.toNatClampNeg 2) (vp_nar .byte xx27)) (Int32.toNatClampNeg 3) (vp_nar .byte xx30))))] := hD
        refine lv_aload_n hx hb dX11_type_56 rfl (lv_at hl 1 rfl) ?_
        refine lv_dup hx hb dX11_type_57 rfl ?_
        refine va_get (D := (dC, dI)) (ci := 12) (v := .int 3) (C := RX11) (T := TX11) (N := 18) hx hb hts in_f_X11_type_RX11 hown hK hP 0 rfl rfl 1 (by decide) (hts (.fieldLink RX11 90 "TripleStore" "length" "I") (List.mem_of_getElem? (i := 1) rfl)) (fun _ h9 => h9) rfl dX11_type_58 ?_
        refine lv_iconst (v := 1) hx hb dX11_type_61 (by decide) ?_
        refine lv_iadd hx hb dX11_type_62 ?_
        refine W.eq (congrArg (fun z : Int32 => F0 m 63 ls (.int z :: [.ref a0])) (by decide +kernel : ((3 : Int32) + 1 : Int32) = 4)) ?_
        refine va_put (D := (dC, dI)) (ci := 12) (v := .int 4) (ty := .int) (C := RX11) (T := TX11) (N := 18) hx hb hts in_f_X11_type_RX11 tyX11 tyX11_ok nmX11 hown hK hP hD hS 0 rfl rfl 1 (by decide) (hts (.fieldLink RX11 90 "TripleStore" "length" "I") (List.mem_of_getElem? (i := 1) rfl)) (fun _ h9 => h9) rfl (by decide +kernel) rfl rfl (Nat.le_of_ble_eq_true rfl) dX11_type_63 (fun H locs hP hD hS => ?_)
        have hP : va_P (dC, dI) vwCl [(a0, .inr (12, [.ref a1, .int 4, .ref a2, .ref a3, .ref a4, .ref a5, .ref a6, .ref a7, .ref a8, .ref a9, .ref a10, .int 0, .int 0, .int 0, .int 0, .int 0, .null, .int 0])), (a1, .inl (k0, 4000, .inl (upd (upd (upd (upd (fun _ => 0) (Int32.toNatClampNeg 0) (vp_nar .byte xx21)) (Int32.toNatClampNeg 1) (vp_nar .byte xx24)) (Int32.toNatClampNeg 2) (vp_nar .byte xx27)) (Int32.toNatClampNeg 3) (vp_nar .byte xx30))))] H := hP
        have hD : va_D A [(a0, .inr (12, [.ref a1, .int 4, .ref a2, .ref a3, .ref a4, .ref a5, .ref a6, .ref a7, .ref a8, .ref a9, .ref a10, .int 0, .int 0, .int 0, .int 0, .int 0, .null, .int 0])), (a1, .inl (k0, 4000, .inl (upd (upd (upd (upd (fun _ => 0) (Int32.toNatClampNeg 0) (vp_nar .byte xx21)) (Int32.toNatClampNeg 1) (vp_nar .byte xx24)) (Int32.toNatClampNeg 2) (vp_nar .byte xx27)) (Int32.toNatClampNeg 3) (vp_nar .byte xx30))))] := hD
        refine lv_iinc (v := (-1)) (lv' := [(4, .int (-1)), (0, .ref a0), (1, .long y0), (3, .int 4)]) hx hb dX11_type_66 hl (k := 0) rfl (by decide +kernel) (by decide) rfl (fun ls hl => ?_)
        refine lv_goto (tgt := 33) hx hb dX11_type_69 (by decide) ?_
        refine lv_iload hx hb dX11_type_33 (lv_at hl 0 rfl) ?_
        refine lv_if_lt (tgt := 72) hx hb dX11_type_35 (by decide) (fun _ => ?_) (fun c9 => absurd (by decide +kernel) c9)
        refine lv_aload_n hx hb dX11_type_72 rfl (lv_at hl 1 rfl) ?_
        refine va_get (D := (dC, dI)) (ci := 12) (v := .int 4) (C := RX11) (T := TX11) (N := 18) hx hb hts in_f_X11_type_RX11 hown hK hP 0 rfl rfl 1 (by decide) (hts (.fieldLink RX11 90 "TripleStore" "length" "I") (List.mem_of_getElem? (i := 1) rfl)) (fun _ h9 => h9) rfl dX11_type_73 ?_
        refine W.widen (k := 0) (n := 0) (Nat.le_of_ble_eq_true rfl) (Nat.le_of_ble_eq_true rfl) ?_
        exact W.iret (v := 4) hx hb hr (fun t ht hW => ⟨⟨4, (), rfl, by rw [if_neg (by decide +kernel), if_pos (by decide +kernel)], trivial⟩, hS.F ht⟩) hS.2.2 dX11_type_76
      · refine lv_aload_n hx hb dX11_type_13 rfl (lv_at hl 0 rfl) ?_
        refine va_get (D := (dC, dI)) (ci := 12) (v := .int 0) (C := RX11) (T := TX11) (N := 18) hx hb hts in_f_X11_type_RX11 hown hK hP 0 rfl rfl 1 (by decide) (hts (.fieldLink RX11 90 "TripleStore" "length" "I") (List.mem_of_getElem? (i := 1) rfl)) (fun _ h9 => h9) rfl dX11_type_14 ?_
        refine lv_iload_n hx hb dX11_type_17 rfl (lv_at hl 2 rfl) ?_
        refine lv_iadd hx hb dX11_type_18 ?_
        refine W.eq (congrArg (fun z : Int32 => F0 m 19 ls (.int z :: [])) (by decide +kernel : ((0 : Int32) + 5 : Int32) = 5)) ?_
        refine lv_sipush (v := 4000) hx hb dX11_type_19 (by decide) ?_
        refine lv_icmp_le (tgt := 28) hx hb dX11_type_22 (by decide) (fun _ => ?_) (fun c9 => absurd (by decide +kernel) c9)
        refine lv_iload_n hx hb dX11_type_28 rfl (lv_at hl 2 rfl) ?_
        refine lv_iconst (v := 1) hx hb dX11_type_29 (by decide) ?_
        refine lv_isub hx hb dX11_type_30 ?_
        refine W.eq (congrArg (fun z : Int32 => F0 m 31 ls (.int z :: [])) (by decide +kernel : ((5 : Int32) - 1 : Int32) = 4)) ?_
        refine lv_istore (lv' := [(4, .int 4), (0, .ref a0), (1, .long y0), (3, .int 5)]) hx hb dX11_type_31 hl (by decide) rfl (fun ls hl => ?_)
        refine lv_iload hx hb dX11_type_33 (lv_at hl 0 rfl) ?_
        refine lv_if_lt (tgt := 72) hx hb dX11_type_35 (by decide) (fun c9 => absurd c9 (by decide +kernel)) (fun _ => ?_)
        refine lv_aload_n hx hb dX11_type_38 rfl (lv_at hl 1 rfl) ?_
        refine va_get (D := (dC, dI)) (ci := 12) (v := .ref a1) (C := RX11) (T := TX11) (N := 18) hx hb hts in_f_X11_type_RX11 hown hK hP 0 rfl rfl 0 (by decide) (hts (.fieldLink RX11 9 "TripleStore" "text" "[B") (List.mem_of_getElem? (i := 2) rfl)) (fun _ h9 => h9) rfl dX11_type_39 ?_
        refine lv_aload_n hx hb dX11_type_42 rfl (lv_at hl 1 rfl) ?_
        refine va_get (D := (dC, dI)) (ci := 12) (v := .int 0) (C := RX11) (T := TX11) (N := 18) hx hb hts in_f_X11_type_RX11 hown hK hP 0 rfl rfl 1 (by decide) (hts (.fieldLink RX11 90 "TripleStore" "length" "I") (List.mem_of_getElem? (i := 1) rfl)) (fun _ h9 => h9) rfl dX11_type_43 ?_
        refine lv_lload_n hx hb dX11_type_46 rfl (lv_at hl 2 rfl) ?_
        refine lv_bipush (v := 8) hx hb dX11_type_47 (by decide) ?_
        refine lv_iload hx hb dX11_type_49 (lv_at hl 0 rfl) ?_
        refine lv_imul hx hb dX11_type_51 ?_
        refine W.eq (congrArg (fun z : Int32 => F0 m 52 ls (.int z :: [.long y0, .int 0, .ref a1])) (by decide +kernel : ((8 : Int32) * 4 : Int32) = 32)) ?_
        refine lv_lushr hx hb dX11_type_52 rfl ?_
        refine lv_topl (fun yy31 _ => ?_)
        refine lv_l2i hx hb dX11_type_53 rfl ?_
        refine lv_topi (fun xx32 _ => ?_)
        refine lv_i2b hx hb dX11_type_54 rfl ?_
        refine lv_topi (fun xx33 _ => ?_)
        refine va_bast (i := 0) (x := xx33) hx hb hK hP hD hS 1 0 rfl rfl (by unfold vp_in; decide +kernel) dX11_type_55 (fun H locs hP hD hS => ?_)
        have hP : va_P (dC, dI) vwCl [(a0, .inr (12, [.ref a1, .int 0, .ref a2, .ref a3, .ref a4, .ref a5, .ref a6, .ref a7, .ref a8, .ref a9, .ref a10, .int 0, .int 0, .int 0, .int 0, .int 0, .null, .int 0])), (a1, .inl (k0, 4000, .inl (upd (fun _ => 0) (Int32.toNatClampNeg 0) (vp_nar .byte xx33))))] H := hP
        have hD : va_D A [(a0, .inr (12, [.ref a1, .int 0, .ref a2, .ref a3, .ref a4, .ref a5, .ref a6, .ref a7, .ref a8, .ref a9, .ref a10, .int 0, .int 0, .int 0, .int 0, .int 0, .null, .int 0])), (a1, .inl (k0, 4000, .inl (upd (fun _ => 0) (Int32.toNatClampNeg 0) (vp_nar .byte xx33))))] := hD
        refine lv_aload_n hx hb dX11_type_56 rfl (lv_at hl 1 rfl) ?_
        refine lv_dup hx hb dX11_type_57 rfl ?_
        refine va_get (D := (dC, dI)) (ci := 12) (v := .int 0) (C := RX11) (T := TX11) (N := 18) hx hb hts in_f_X11_type_RX11 hown hK hP 0 rfl rfl 1 (by decide) (hts (.fieldLink RX11 90 "TripleStore" "length" "I") (List.mem_of_getElem? (i := 1) rfl)) (fun _ h9 => h9) rfl dX11_type_58 ?_
        refine lv_iconst (v := 1) hx hb dX11_type_61 (by decide) ?_
        refine lv_iadd hx hb dX11_type_62 ?_
        refine W.eq (congrArg (fun z : Int32 => F0 m 63 ls (.int z :: [.ref a0])) (by decide +kernel : ((0 : Int32) + 1 : Int32) = 1)) ?_
        refine va_put (D := (dC, dI)) (ci := 12) (v := .int 1) (ty := .int) (C := RX11) (T := TX11) (N := 18) hx hb hts in_f_X11_type_RX11 tyX11 tyX11_ok nmX11 hown hK hP hD hS 0 rfl rfl 1 (by decide) (hts (.fieldLink RX11 90 "TripleStore" "length" "I") (List.mem_of_getElem? (i := 1) rfl)) (fun _ h9 => h9) rfl (by decide +kernel) rfl rfl (Nat.le_of_ble_eq_true rfl) dX11_type_63 (fun H locs hP hD hS => ?_)
        have hP : va_P (dC, dI) vwCl [(a0, .inr (12, [.ref a1, .int 1, .ref a2, .ref a3, .ref a4, .ref a5, .ref a6, .ref a7, .ref a8, .ref a9, .ref a10, .int 0, .int 0, .int 0, .int 0, .int 0, .null, .int 0])), (a1, .inl (k0, 4000, .inl (upd (fun _ => 0) (Int32.toNatClampNeg 0) (vp_nar .byte xx33))))] H := hP
        have hD : va_D A [(a0, .inr (12, [.ref a1, .int 1, .ref a2, .ref a3, .ref a4, .ref a5, .ref a6, .ref a7, .ref a8, .ref a9, .ref a10, .int 0, .int 0, .int 0, .int 0, .int 0, .null, .int 0])), (a1, .inl (k0, 4000, .inl (upd (fun _ => 0) (Int32.toNatClampNeg 0) (vp_nar .byte xx33))))] := hD
        refine lv_iinc (v := 3) (lv' := [(4, .int 3), (0, .ref a0), (1, .long y0), (3, .int 5)]) hx hb dX11_type_66 hl (k := 0) rfl (by decide +kernel) (by decide) rfl (fun ls hl => ?_)
        refine lv_goto (tgt := 33) hx hb dX11_type_69 (by decide) ?_
        refine lv_iload hx hb dX11_type_33 (lv_at hl 0 rfl) ?_
        refine lv_if_lt (tgt := 72) hx hb dX11_type_35 (by decide) (fun c9 => absurd c9 (by decide +kernel)) (fun _ => ?_)
        refine lv_aload_n hx hb dX11_type_38 rfl (lv_at hl 1 rfl) ?_
        refine va_get (D := (dC, dI)) (ci := 12) (v := .ref a1) (C := RX11) (T := TX11) (N := 18) hx hb hts in_f_X11_type_RX11 hown hK hP 0 rfl rfl 0 (by decide) (hts (.fieldLink RX11 9 "TripleStore" "text" "[B") (List.mem_of_getElem? (i := 2) rfl)) (fun _ h9 => h9) rfl dX11_type_39 ?_
        refine lv_aload_n hx hb dX11_type_42 rfl (lv_at hl 1 rfl) ?_
        refine va_get (D := (dC, dI)) (ci := 12) (v := .int 1) (C := RX11) (T := TX11) (N := 18) hx hb hts in_f_X11_type_RX11 hown hK hP 0 rfl rfl 1 (by decide) (hts (.fieldLink RX11 90 "TripleStore" "length" "I") (List.mem_of_getElem? (i := 1) rfl)) (fun _ h9 => h9) rfl dX11_type_43 ?_
        refine lv_lload_n hx hb dX11_type_46 rfl (lv_at hl 2 rfl) ?_
        refine lv_bipush (v := 8) hx hb dX11_type_47 (by decide) ?_
        refine lv_iload hx hb dX11_type_49 (lv_at hl 0 rfl) ?_
        refine lv_imul hx hb dX11_type_51 ?_
        refine W.eq (congrArg (fun z : Int32 => F0 m 52 ls (.int z :: [.long y0, .int 1, .ref a1])) (by decide +kernel : ((8 : Int32) * 3 : Int32) = 24)) ?_
        refine lv_lushr hx hb dX11_type_52 rfl ?_
        refine lv_topl (fun yy34 _ => ?_)
        refine lv_l2i hx hb dX11_type_53 rfl ?_
        refine lv_topi (fun xx35 _ => ?_)
        refine lv_i2b hx hb dX11_type_54 rfl ?_
        refine lv_topi (fun xx36 _ => ?_)
        refine va_bast (i := 1) (x := xx36) hx hb hK hP hD hS 1 0 rfl rfl (by unfold vp_in; decide +kernel) dX11_type_55 (fun H locs hP hD hS => ?_)
        have hP : va_P (dC, dI) vwCl [(a0, .inr (12, [.ref a1, .int 1, .ref a2, .ref a3, .ref a4, .ref a5, .ref a6, .ref a7, .ref a8, .ref a9, .ref a10, .int 0, .int 0, .int 0, .int 0, .int 0, .null, .int 0])), (a1, .inl (k0, 4000, .inl (upd (upd (fun _ => 0) (Int32.toNatClampNeg 0) (vp_nar .byte xx33)) (Int32.toNatClampNeg 1) (vp_nar .byte xx36))))] H := hP
        have hD : va_D A [(a0, .inr (12, [.ref a1, .int 1, .ref a2, .ref a3, .ref a4, .ref a5, .ref a6, .ref a7, .ref a8, .ref a9, .ref a10, .int 0, .int 0, .int 0, .int 0, .int 0, .null, .int 0])), (a1, .inl (k0, 4000, .inl (upd (upd (fun _ => 0) (Int32.toNatClampNeg 0) (vp_nar .byte xx33)) (Int32.toNatClampNeg 1) (vp_nar .byte xx36))))] := hD
        refine lv_aload_n hx hb dX11_type_56 rfl (lv_at hl 1 rfl) ?_
        refine lv_dup hx hb dX11_type_57 rfl ?_
        refine va_get (D := (dC, dI)) (ci := 12) (v := .int 1) (C := RX11) (T := TX11) (N := 18) hx hb hts in_f_X11_type_RX11 hown hK hP 0 rfl rfl 1 (by decide) (hts (.fieldLink RX11 90 "TripleStore" "length" "I") (List.mem_of_getElem? (i := 1) rfl)) (fun _ h9 => h9) rfl dX11_type_58 ?_
        refine lv_iconst (v := 1) hx hb dX11_type_61 (by decide) ?_
        refine lv_iadd hx hb dX11_type_62 ?_
        refine W.eq (congrArg (fun z : Int32 => F0 m 63 ls (.int z :: [.ref a0])) (by decide +kernel : ((1 : Int32) + 1 : Int32) = 2)) ?_
        refine va_put (D := (dC, dI)) (ci := 12) (v := .int 2) (ty := .int) (C := RX11) (T := TX11) (N := 18) hx hb hts in_f_X11_type_RX11 tyX11 tyX11_ok nmX11 hown hK hP hD hS 0 rfl rfl 1 (by decide) (hts (.fieldLink RX11 90 "TripleStore" "length" "I") (List.mem_of_getElem? (i := 1) rfl)) (fun _ h9 => h9) rfl (by decide +kernel) rfl rfl (Nat.le_of_ble_eq_true rfl) dX11_type_63 (fun H locs hP hD hS => ?_)
        have hP : va_P (dC, dI) vwCl [(a0, .inr (12, [.ref a1, .int 2, .ref a2, .ref a3, .ref a4, .ref a5, .ref a6, .ref a7, .ref a8, .ref a9, .ref a10, .int 0, .int 0, .int 0, .int 0, .int 0, .null, .int 0])), (a1, .inl (k0, 4000, .inl (upd (upd (fun _ => 0) (Int32.toNatClampNeg 0) (vp_nar .byte xx33)) (Int32.toNatClampNeg 1) (vp_nar .byte xx36))))] H := hP
        have hD : va_D A [(a0, .inr (12, [.ref a1, .int 2, .ref a2, .ref a3, .ref a4, .ref a5, .ref a6, .ref a7, .ref a8, .ref a9, .ref a10, .int 0, .int 0, .int 0, .int 0, .int 0, .null, .int 0])), (a1, .inl (k0, 4000, .inl (upd (upd (fun _ => 0) (Int32.toNatClampNeg 0) (vp_nar .byte xx33)) (Int32.toNatClampNeg 1) (vp_nar .byte xx36))))] := hD
        refine lv_iinc (v := 2) (lv' := [(4, .int 2), (0, .ref a0), (1, .long y0), (3, .int 5)]) hx hb dX11_type_66 hl (k := 0) rfl (by decide +kernel) (by decide) rfl (fun ls hl => ?_)
        refine lv_goto (tgt := 33) hx hb dX11_type_69 (by decide) ?_
        refine lv_iload hx hb dX11_type_33 (lv_at hl 0 rfl) ?_
        refine lv_if_lt (tgt := 72) hx hb dX11_type_35 (by decide) (fun c9 => absurd c9 (by decide +kernel)) (fun _ => ?_)
        refine lv_aload_n hx hb dX11_type_38 rfl (lv_at hl 1 rfl) ?_
        refine va_get (D := (dC, dI)) (ci := 12) (v := .ref a1) (C := RX11) (T := TX11) (N := 18) hx hb hts in_f_X11_type_RX11 hown hK hP 0 rfl rfl 0 (by decide) (hts (.fieldLink RX11 9 "TripleStore" "text" "[B") (List.mem_of_getElem? (i := 2) rfl)) (fun _ h9 => h9) rfl dX11_type_39 ?_
        refine lv_aload_n hx hb dX11_type_42 rfl (lv_at hl 1 rfl) ?_
        refine va_get (D := (dC, dI)) (ci := 12) (v := .int 2) (C := RX11) (T := TX11) (N := 18) hx hb hts in_f_X11_type_RX11 hown hK hP 0 rfl rfl 1 (by decide) (hts (.fieldLink RX11 90 "TripleStore" "length" "I") (List.mem_of_getElem? (i := 1) rfl)) (fun _ h9 => h9) rfl dX11_type_43 ?_
        refine lv_lload_n hx hb dX11_type_46 rfl (lv_at hl 2 rfl) ?_
        refine lv_bipush (v := 8) hx hb dX11_type_47 (by decide) ?_
        refine lv_iload hx hb dX11_type_49 (lv_at hl 0 rfl) ?_
        refine lv_imul hx hb dX11_type_51 ?_
        refine W.eq (congrArg (fun z : Int32 => F0 m 52 ls (.int z :: [.long y0, .int 2, .ref a1])) (by decide +kernel : ((8 : Int32) * 2 : Int32) = 16)) ?_
        refine lv_lushr hx hb dX11_type_52 rfl ?_
        refine lv_topl (fun yy37 _ => ?_)
        refine lv_l2i hx hb dX11_type_53 rfl ?_
        refine lv_topi (fun xx38 _ => ?_)
        refine lv_i2b hx hb dX11_type_54 rfl ?_
        refine lv_topi (fun xx39 _ => ?_)
        refine va_bast (i := 2) (x := xx39) hx hb hK hP hD hS 1 0 rfl rfl (by unfold vp_in; decide +kernel) dX11_type_55 (fun H locs hP hD hS => ?_)
        have hP : va_P (dC, dI) vwCl [(a0, .inr (12, [.ref a1, .int 2, .ref a2, .ref a3, .ref a4, .ref a5, .ref a6, .ref a7, .ref a8, .ref a9, .ref a10, .int 0, .int 0, .int 0, .int 0, .int 0, .null, .int 0])), (a1, .inl (k0, 4000, .inl (upd (upd (upd (fun _ => 0) (Int32.toNatClampNeg 0) (vp_nar .byte xx33)) (Int32.toNatClampNeg 1) (vp_nar .byte xx36)) (Int32.toNatClampNeg 2) (vp_nar .byte xx39))))] H := hP
        have hD : va_D A [(a0, .inr (12, [.ref a1, .int 2, .ref a2, .ref a3, .ref a4, .ref a5, .ref a6, .ref a7, .ref a8, .ref a9, .ref a10, .int 0, .int 0, .int 0, .int 0, .int 0, .null, .int 0])), (a1, .inl (k0, 4000, .inl (upd (upd (upd (fun _ => 0) (Int32.toNatClampNeg 0) (vp_nar .byte xx33)) (Int32.toNatClampNeg 1) (vp_nar .byte xx36)) (Int32.toNatClampNeg 2) (vp_nar .byte xx39))))] := hD
        refine lv_aload_n hx hb dX11_type_56 rfl (lv_at hl 1 rfl) ?_
        refine lv_dup hx hb dX11_type_57 rfl ?_
        refine va_get (D := (dC, dI)) (ci := 12) (v := .int 2) (C := RX11) (T := TX11) (N := 18) hx hb hts in_f_X11_type_RX11 hown hK hP 0 rfl rfl 1 (by decide) (hts (.fieldLink RX11 90 "TripleStore" "length" "I") (List.mem_of_getElem? (i := 1) rfl)) (fun _ h9 => h9) rfl dX11_type_58 ?_
        refine lv_iconst (v := 1) hx hb dX11_type_61 (by decide) ?_
        refine lv_iadd hx hb dX11_type_62 ?_
        refine W.eq (congrArg (fun z : Int32 => F0 m 63 ls (.int z :: [.ref a0])) (by decide +kernel : ((2 : Int32) + 1 : Int32) = 3)) ?_
        refine va_put (D := (dC, dI)) (ci := 12) (v := .int 3) (ty := .int) (C := RX11) (T := TX11) (N := 18) hx hb hts in_f_X11_type_RX11 tyX11 tyX11_ok nmX11 hown hK hP hD hS 0 rfl rfl 1 (by decide) (hts (.fieldLink RX11 90 "TripleStore" "length" "I") (List.mem_of_getElem? (i := 1) rfl)) (fun _ h9 => h9) rfl (by decide +kernel) rfl rfl (Nat.le_of_ble_eq_true rfl) dX11_type_63 (fun H locs hP hD hS => ?_)
        have hP : va_P (dC, dI) vwCl [(a0, .inr (12, [.ref a1, .int 3, .ref a2, .ref a3, .ref a4, .ref a5, .ref a6, .ref a7, .ref a8, .ref a9, .ref a10, .int 0, .int 0, .int 0, .int 0, .int 0, .null, .int 0])), (a1, .inl (k0, 4000, .inl (upd (upd (upd (fun _ => 0) (Int32.toNatClampNeg 0) (vp_nar .byte xx33)) (Int32.toNatClampNeg 1) (vp_nar .byte xx36)) (Int32.toNatClampNeg 2) (vp_nar .byte xx39))))] H := hP
        have hD : va_D A [(a0, .inr (12, [.ref a1, .int 3, .ref a2, .ref a3, .ref a4, .ref a5, .ref a6, .ref a7, .ref a8, .ref a9, .ref a10, .int 0, .int 0, .int 0, .int 0, .int 0, .null, .int 0])), (a1, .inl (k0, 4000, .inl (upd (upd (upd (fun _ => 0) (Int32.toNatClampNeg 0) (vp_nar .byte xx33)) (Int32.toNatClampNeg 1) (vp_nar .byte xx36)) (Int32.toNatClampNeg 2) (vp_nar .byte xx39))))] := hD
        refine lv_iinc (v := 1) (lv' := [(4, .int 1), (0, .ref a0), (1, .long y0), (3, .int 5)]) hx hb dX11_type_66 hl (k := 0) rfl (by decide +kernel) (by decide) rfl (fun ls hl => ?_)
        refine lv_goto (tgt := 33) hx hb dX11_type_69 (by decide) ?_
        refine lv_iload hx hb dX11_type_33 (lv_at hl 0 rfl) ?_
        refine lv_if_lt (tgt := 72) hx hb dX11_type_35 (by decide) (fun c9 => absurd c9 (by decide +kernel)) (fun _ => ?_)
        refine lv_aload_n hx hb dX11_type_38 rfl (lv_at hl 1 rfl) ?_
        refine va_get (D := (dC, dI)) (ci := 12) (v := .ref a1) (C := RX11) (T := TX11) (N := 18) hx hb hts in_f_X11_type_RX11 hown hK hP 0 rfl rfl 0 (by decide) (hts (.fieldLink RX11 9 "TripleStore" "text" "[B") (List.mem_of_getElem? (i := 2) rfl)) (fun _ h9 => h9) rfl dX11_type_39 ?_
        refine lv_aload_n hx hb dX11_type_42 rfl (lv_at hl 1 rfl) ?_
        refine va_get (D := (dC, dI)) (ci := 12) (v := .int 3) (C := RX11) (T := TX11) (N := 18) hx hb hts in_f_X11_type_RX11 hown hK hP 0 rfl rfl 1 (by decide) (hts (.fieldLink RX11 90 "TripleStore" "length" "I") (List.mem_of_getElem? (i := 1) rfl)) (fun _ h9 => h9) rfl dX11_type_43 ?_
        refine lv_lload_n hx hb dX11_type_46 rfl (lv_at hl 2 rfl) ?_
        refine lv_bipush (v := 8) hx hb dX11_type_47 (by decide) ?_
        refine lv_iload hx hb dX11_type_49 (lv_at hl 0 rfl) ?_
        refine lv_imul hx hb dX11_type_51 ?_
        refine W.eq (congrArg (fun z : Int32 => F0 m 52 ls (.int z :: [.long y0, .int 3, .ref a1])) (by decide +kernel : ((8 : Int32) * 1 : Int32) = 8)) ?_
        refine lv_lushr hx hb dX11_type_52 rfl ?_
        refine lv_topl (fun yy40 _ => ?_)
        refine lv_l2i hx hb dX11_type_53 rfl ?_
        refine lv_topi (fun xx41 _ => ?_)
        refine lv_i2b hx hb dX11_type_54 rfl ?_
        refine lv_topi (fun xx42 _ => ?_)
        refine va_bast (i := 3) (x := xx42) hx hb hK hP hD hS 1 0 rfl rfl (by unfold vp_in; decide +kernel) dX11_type_55 (fun H locs hP hD hS => ?_)
        have hP : va_P (dC, dI) vwCl [(a0, .inr (12, [.ref a1, .int 3, .ref a2, .ref a3, .ref a4, .ref a5, .ref a6, .ref a7, .ref a8, .ref a9, .ref a10, .int 0, .int 0, .int 0, .int 0, .int 0, .null, .int 0])), (a1, .inl (k0, 4000, .inl (upd (upd (upd (upd (fun _ => 0) (Int32.toNatClampNeg 0) (vp_nar .byte xx33)) (Int32.toNatClampNeg 1) (vp_nar .byte xx36)) (Int32.toNatClampNeg 2) (vp_nar .byte xx39)) (Int32.toNatClampNeg 3) (vp_nar .byte xx42))))] H := hP
        have hD : va_D A [(a0, .inr (12, [.ref a1, .int 3, .ref a2, .ref a3, .ref a4, .ref a5, .ref a6, .ref a7, .ref a8, .ref a9, .ref a10, .int 0, .int 0, .int 0, .int 0, .int 0, .null, .int 0])), (a1, .inl (k0, 4000, .inl (upd (upd (upd (upd (fun _ => 0) (Int32.toNatClampNeg 0) (vp_nar .byte xx33)) (Int32.toNatClampNeg 1) (vp_nar .byte xx36)) (Int32.toNatClampNeg 2) (vp_nar .byte xx39)) (Int32.toNatClampNeg 3) (vp_nar .byte xx42))))] := hD
        refine lv_aload_n hx hb dX11_type_56 rfl (lv_at hl 1 rfl) ?_
        refine lv_dup hx hb dX11_type_57 rfl ?_
        refine va_get (D := (dC, dI)) (ci := 12) (v := .int 3) (C := RX11) (T := TX11) (N := 18) hx hb hts in_f_X11_type_RX11 hown hK hP 0 rfl rfl 1 (by decide) (hts (.fieldLink RX11 90 "TripleStore" "length" "I") (List.mem_of_getElem? (i := 1) rfl)) (fun _ h9 => h9) rfl dX11_type_58 ?_
        refine lv_iconst (v := 1) hx hb dX11_type_61 (by decide) ?_
        refine lv_iadd hx hb dX11_type_62 ?_
        refine W.eq (congrArg (fun z : Int32 => F0 m 63 ls (.int z :: [.ref a0])) (by decide +kernel : ((3 : Int32) + 1 : Int32) = 4)) ?_
        refine va_put (D := (dC, dI)) (ci := 12) (v := .int 4) (ty := .int) (C := RX11) (T := TX11) (N := 18) hx hb hts in_f_X11_type_RX11 tyX11 tyX11_ok nmX11 hown hK hP hD hS 0 rfl rfl 1 (by decide) (hts (.fieldLink RX11 90 "TripleStore" "length" "I") (List.mem_of_getElem? (i := 1) rfl)) (fun _ h9 => h9) rfl (by decide +kernel) rfl rfl (Nat.le_of_ble_eq_true rfl) dX11_type_63 (fun H locs hP hD hS => ?_)
        have hP : va_P (dC, dI) vwCl [(a0, .inr (12, [.ref a1, .int 4, .ref a2, .ref a3, .ref a4, .ref a5, .ref a6, .ref a7, .ref a8, .ref a9, .ref a10, .int 0, .int 0, .int 0, .int 0, .int 0, .null, .int 0])), (a1, .inl (k0, 4000, .inl (upd (upd (upd (upd (fun _ => 0) (Int32.toNatClampNeg 0) (vp_nar .byte xx33)) (Int32.toNatClampNeg 1) (vp_nar .byte xx36)) (Int32.toNatClampNeg 2) (vp_nar .byte xx39)) (Int32.toNatClampNeg 3) (vp_nar .byte xx42))))] H := hP
        have hD : va_D A [(a0, .inr (12, [.ref a1, .int 4, .ref a2, .ref a3, .ref a4, .ref a5, .ref a6, .ref a7, .ref a8, .ref a9, .ref a10, .int 0, .int 0, .int 0, .int 0, .int 0, .null, .int 0])), (a1, .inl (k0, 4000, .inl (upd (upd (upd (upd (fun _ => 0) (Int32.toNatClampNeg 0) (vp_nar .byte xx33)) (Int32.toNatClampNeg 1) (vp_nar .byte xx36)) (Int32.toNatClampNeg 2) (vp_nar .byte xx39)) (Int32.toNatClampNeg 3) (vp_nar .byte xx42))))] := hD
        refine lv_iinc (v := 0) (lv' := [(4, .int 0), (0, .ref a0), (1, .long y0), (3, .int 5)]) hx hb dX11_type_66 hl (k := 0) rfl (by decide +kernel) (by decide) rfl (fun ls hl => ?_)
        refine lv_goto (tgt := 33) hx hb dX11_type_69 (by decide) ?_
        refine lv_iload hx hb dX11_type_33 (lv_at hl 0 rfl) ?_
        refine lv_if_lt (tgt := 72) hx hb dX11_type_35 (by decide) (fun c9 => absurd c9 (by decide +kernel)) (fun _ => ?_)
        refine lv_aload_n hx hb dX11_type_38 rfl (lv_at hl 1 rfl) ?_
        refine va_get (D := (dC, dI)) (ci := 12) (v := .ref a1) (C := RX11) (T := TX11) (N := 18) hx hb hts in_f_X11_type_RX11 hown hK hP 0 rfl rfl 0 (by decide) (hts (.fieldLink RX11 9 "TripleStore" "text" "[B") (List.mem_of_getElem? (i := 2) rfl)) (fun _ h9 => h9) rfl dX11_type_39 ?_
        refine lv_aload_n hx hb dX11_type_42 rfl (lv_at hl 1 rfl) ?_
        refine va_get (D := (dC, dI)) (ci := 12) (v := .int 4) (C := RX11) (T := TX11) (N := 18) hx hb hts in_f_X11_type_RX11 hown hK hP 0 rfl rfl 1 (by decide) (hts (.fieldLink RX11 90 "TripleStore" "length" "I") (List.mem_of_getElem? (i := 1) rfl)) (fun _ h9 => h9) rfl dX11_type_43 ?_
        refine lv_lload_n hx hb dX11_type_46 rfl (lv_at hl 2 rfl) ?_
        refine lv_bipush (v := 8) hx hb dX11_type_47 (by decide) ?_
        refine lv_iload hx hb dX11_type_49 (lv_at hl 0 rfl) ?_
        refine lv_imul hx hb dX11_type_51 ?_
        refine W.eq (congrArg (fun z : Int32 => F0 m 52 ls (.int z :: [.long y0, .int 4, .ref a1])) (by decide +kernel : ((8 : Int32) * 0 : Int32) = 0)) ?_
        refine lv_lushr hx hb dX11_type_52 rfl ?_
        refine lv_topl (fun yy43 _ => ?_)
        refine lv_l2i hx hb dX11_type_53 rfl ?_
        refine lv_topi (fun xx44 _ => ?_)
        refine lv_i2b hx hb dX11_type_54 rfl ?_
        refine lv_topi (fun xx45 _ => ?_)
        refine va_bast (i := 4) (x := xx45) hx hb hK hP hD hS 1 0 rfl rfl (by unfold vp_in; decide +kernel) dX11_type_55 (fun H locs hP hD hS => ?_)
        have hP : va_P (dC, dI) vwCl [(a0, .inr (12, [.ref a1, .int 4, .ref a2, .ref a3, .ref a4, .ref a5, .ref a6, .ref a7, .ref a8, .ref a9, .ref a10, .int 0, .int 0, .int 0, .int 0, .int 0, .null, .int 0])), (a1, .inl (k0, 4000, .inl (upd (upd (upd (upd (upd (fun _ => 0) (Int32.toNatClampNeg 0) (vp_nar .byte xx33)) (Int32.toNatClampNeg 1) (vp_nar .byte xx36)) (Int32.toNatClampNeg 2) (vp_nar .byte xx39)) (Int32.toNatClampNeg 3) (vp_nar .byte xx42)) (Int32.toNatClampNeg 4) (vp_nar .byte xx45))))] H := hP
        have hD : va_D A [(a0, .inr (12, [.ref a1, .int 4, .ref a2, .ref a3, .ref a4, .ref a5, .ref a6, .ref a7, .ref a8, .ref a9, .ref a10, .int 0, .int 0, .int 0, .int 0, .int 0, .null, .int 0])), (a1, .inl (k0, 4000, .inl (upd (upd (upd (upd (upd (fun _ => 0) (Int32.toNatClampNeg 0) (vp_nar .byte xx33)) (Int32.toNatClampNeg 1) (vp_nar .byte xx36)) (Int32.toNatClampNeg 2) (vp_nar .byte xx39)) (Int32.toNatClampNeg 3) (vp_nar .byte xx42)) (Int32.toNatClampNeg 4) (vp_nar .byte xx45))))] := hD
        refine lv_aload_n hx hb dX11_type_56 rfl (lv_at hl 1 rfl) ?_
        refine lv_dup hx hb dX11_type_57 rfl ?_
        refine va_get (D := (dC, dI)) (ci := 12) (v := .int 4) (C := RX11) (T := TX11) (N := 18) hx hb hts in_f_X11_type_RX11 hown hK hP 0 rfl rfl 1 (by decide) (hts (.fieldLink RX11 90 "TripleStore" "length" "I") (List.mem_of_getElem? (i := 1) rfl)) (fun _ h9 => h9) rfl dX11_type_58 ?_
        refine lv_iconst (v := 1) hx hb dX11_type_61 (by decide) ?_
        refine lv_iadd hx hb dX11_type_62 ?_
        refine W.eq (congrArg (fun z : Int32 => F0 m 63 ls (.int z :: [.ref a0])) (by decide +kernel : ((4 : Int32) + 1 : Int32) = 5)) ?_
        refine va_put (D := (dC, dI)) (ci := 12) (v := .int 5) (ty := .int) (C := RX11) (T := TX11) (N := 18) hx hb hts in_f_X11_type_RX11 tyX11 tyX11_ok nmX11 hown hK hP hD hS 0 rfl rfl 1 (by decide) (hts (.fieldLink RX11 90 "TripleStore" "length" "I") (List.mem_of_getElem? (i := 1) rfl)) (fun _ h9 => h9) rfl (by decide +kernel) rfl rfl (Nat.le_of_ble_eq_true rfl) dX11_type_63 (fun H locs hP hD hS => ?_)
        have hP : va_P (dC, dI) vwCl [(a0, .inr (12, [.ref a1, .int 5, .ref a2, .ref a3, .ref a4, .ref a5, .ref a6, .ref a7, .ref a8, .ref a9, .ref a10, .int 0, .int 0, .int 0, .int 0, .int 0, .null, .int 0])), (a1, .inl (k0, 4000, .inl (upd (upd (upd (upd (upd (fun _ => 0) (Int32.toNatClampNeg 0) (vp_nar .byte xx33)) (Int32.toNatClampNeg 1) (vp_nar .byte xx36)) (Int32.toNatClampNeg 2) (vp_nar .byte xx39)) (Int32.toNatClampNeg 3) (vp_nar .byte xx42)) (Int32.toNatClampNeg 4) (vp_nar .byte xx45))))] H := hP
        have hD : va_D A [(a0, .inr (12, [.ref a1, .int 5, .ref a2, .ref a3, .ref a4, .ref a5, .ref a6, .ref a7, .ref a8, .ref a9, .ref a10, .int 0, .int 0, .int 0, .int 0, .int 0, .null, .int 0])), (a1, .inl (k0, 4000, .inl (upd (upd (upd (upd (upd (fun _ => 0) (Int32.toNatClampNeg 0) (vp_nar .byte xx33)) (Int32.toNatClampNeg 1) (vp_nar .byte xx36)) (Int32.toNatClampNeg 2) (vp_nar .byte xx39)) (Int32.toNatClampNeg 3) (vp_nar .byte xx42)) (Int32.toNatClampNeg 4) (vp_nar .byte xx45))))] := hD
        refine lv_iinc (v := (-1)) (lv' := [(4, .int (-1)), (0, .ref a0), (1, .long y0), (3, .int 5)]) hx hb dX11_type_66 hl (k := 0) rfl (by decide +kernel) (by decide) rfl (fun ls hl => ?_)
        refine lv_goto (tgt := 33) hx hb dX11_type_69 (by decide) ?_
        refine lv_iload hx hb dX11_type_33 (lv_at hl 0 rfl) ?_
        refine lv_if_lt (tgt := 72) hx hb dX11_type_35 (by decide) (fun _ => ?_) (fun c9 => absurd (by decide +kernel) c9)
        refine lv_aload_n hx hb dX11_type_72 rfl (lv_at hl 1 rfl) ?_
        refine va_get (D := (dC, dI)) (ci := 12) (v := .int 5) (C := RX11) (T := TX11) (N := 18) hx hb hts in_f_X11_type_RX11 hown hK hP 0 rfl rfl 1 (by decide) (hts (.fieldLink RX11 90 "TripleStore" "length" "I") (List.mem_of_getElem? (i := 1) rfl)) (fun _ h9 => h9) rfl dX11_type_73 ?_
        refine W.widen (k := 0) (n := 0) (Nat.le_of_ble_eq_true rfl) (Nat.le_of_ble_eq_true rfl) ?_
        exact W.iret (v := 5) hx hb hr (fun t ht hW => ⟨⟨5, (), rfl, by rw [if_neg (by decide +kernel), if_pos (by decide +kernel)], trivial⟩, hS.F ht⟩) hS.2.2 dX11_type_76
      · refine lv_aload_n hx hb dX11_type_13 rfl (lv_at hl 0 rfl) ?_
        refine va_get (D := (dC, dI)) (ci := 12) (v := .int 0) (C := RX11) (T := TX11) (N := 18) hx hb hts in_f_X11_type_RX11 hown hK hP 0 rfl rfl 1 (by decide) (hts (.fieldLink RX11 90 "TripleStore" "length" "I") (List.mem_of_getElem? (i := 1) rfl)) (fun _ h9 => h9) rfl dX11_type_14 ?_
        refine lv_iload_n hx hb dX11_type_17 rfl (lv_at hl 2 rfl) ?_
        refine lv_iadd hx hb dX11_type_18 ?_
        refine W.eq (congrArg (fun z : Int32 => F0 m 19 ls (.int z :: [])) (by decide +kernel : ((0 : Int32) + 6 : Int32) = 6)) ?_
        refine lv_sipush (v := 4000) hx hb dX11_type_19 (by decide) ?_
        refine lv_icmp_le (tgt := 28) hx hb dX11_type_22 (by decide) (fun _ => ?_) (fun c9 => absurd (by decide +kernel) c9)
        refine lv_iload_n hx hb dX11_type_28 rfl (lv_at hl 2 rfl) ?_
        refine lv_iconst (v := 1) hx hb dX11_type_29 (by decide) ?_
        refine lv_isub hx hb dX11_type_30 ?_
        refine W.eq (congrArg (fun z : Int32 => F0 m 31 ls (.int z :: [])) (by decide +kernel : ((6 : Int32) - 1 : Int32) = 5)) ?_
        refine lv_istore (lv' := [(4, .int 5), (0, .ref a0), (1, .long y0), (3, .int 6)]) hx hb dX11_type_31 hl (by decide) rfl (fun ls hl => ?_)
        refine lv_iload hx hb dX11_type_33 (lv_at hl 0 rfl) ?_
        refine lv_if_lt (tgt := 72) hx hb dX11_type_35 (by decide) (fun c9 => absurd c9 (by decide +kernel)) (fun _ => ?_)
        refine lv_aload_n hx hb dX11_type_38 rfl (lv_at hl 1 rfl) ?_
        refine va_get (D := (dC, dI)) (ci := 12) (v := .ref a1) (C := RX11) (T := TX11) (N := 18) hx hb hts in_f_X11_type_RX11 hown hK hP 0 rfl rfl 0 (by decide) (hts (.fieldLink RX11 9 "TripleStore" "text" "[B") (List.mem_of_getElem? (i := 2) rfl)) (fun _ h9 => h9) rfl dX11_type_39 ?_
        refine lv_aload_n hx hb dX11_type_42 rfl (lv_at hl 1 rfl) ?_
        refine va_get (D := (dC, dI)) (ci := 12) (v := .int 0) (C := RX11) (T := TX11) (N := 18) hx hb hts in_f_X11_type_RX11 hown hK hP 0 rfl rfl 1 (by decide) (hts (.fieldLink RX11 90 "TripleStore" "length" "I") (List.mem_of_getElem? (i := 1) rfl)) (fun _ h9 => h9) rfl dX11_type_43 ?_
        refine lv_lload_n hx hb dX11_type_46 rfl (lv_at hl 2 rfl) ?_
        refine lv_bipush (v := 8) hx hb dX11_type_47 (by decide) ?_
        refine lv_iload hx hb dX11_type_49 (lv_at hl 0 rfl) ?_
        refine lv_imul hx hb dX11_type_51 ?_
        refine W.eq (congrArg (fun z : Int32 => F0 m 52 ls (.int z :: [.long y0, .int 0, .ref a1])) (by decide +kernel : ((8 : Int32) * 5 : Int32) = 40)) ?_
        refine lv_lushr hx hb dX11_type_52 rfl ?_
        refine lv_topl (fun yy46 _ => ?_)
        refine lv_l2i hx hb dX11_type_53 rfl ?_
        refine lv_topi (fun xx47 _ => ?_)
        refine lv_i2b hx hb dX11_type_54 rfl ?_
        refine lv_topi (fun xx48 _ => ?_)
        refine va_bast (i := 0) (x := xx48) hx hb hK hP hD hS 1 0 rfl rfl (by unfold vp_in; decide +kernel) dX11_type_55 (fun H locs hP hD hS => ?_)
        have hP : va_P (dC, dI) vwCl [(a0, .inr (12, [.ref a1, .int 0, .ref a2, .ref a3, .ref a4, .ref a5, .ref a6, .ref a7, .ref a8, .ref a9, .ref a10, .int 0, .int 0, .int 0, .int 0, .int 0, .null, .int 0])), (a1, .inl (k0, 4000, .inl (upd (fun _ => 0) (Int32.toNatClampNeg 0) (vp_nar .byte xx48))))] H := hP
        have hD : va_D A [(a0, .inr (12, [.ref a1, .int 0, .ref a2, .ref a3, .ref a4, .ref a5, .ref a6, .ref a7, .ref a8, .ref a9, .ref a10, .int 0, .int 0, .int 0, .int 0, .int 0, .null, .int 0])), (a1, .inl (k0, 4000, .inl (upd (fun _ => 0) (Int32.toNatClampNeg 0) (vp_nar .byte xx48))))] := hD
        refine lv_aload_n hx hb dX11_type_56 rfl (lv_at hl 1 rfl) ?_
        refine lv_dup hx hb dX11_type_57 rfl ?_
        refine va_get (D := (dC, dI)) (ci := 12) (v := .int 0) (C := RX11) (T := TX11) (N := 18) hx hb hts in_f_X11_type_RX11 hown hK hP 0 rfl rfl 1 (by decide) (hts (.fieldLink RX11 90 "TripleStore" "length" "I") (List.mem_of_getElem? (i := 1) rfl)) (fun _ h9 => h9) rfl dX11_type_58 ?_
        refine lv_iconst (v := 1) hx hb dX11_type_61 (by decide) ?_
        refine lv_iadd hx hb dX11_type_62 ?_
        refine W.eq (congrArg (fun z : Int32 => F0 m 63 ls (.int z :: [.ref a0])) (by decide +kernel : ((0 : Int32) + 1 : Int32) = 1)) ?_
        refine va_put (D := (dC, dI)) (ci := 12) (v := .int 1) (ty := .int) (C := RX11) (T := TX11) (N := 18) hx hb hts in_f_X11_type_RX11 tyX11 tyX11_ok nmX11 hown hK hP hD hS 0 rfl rfl 1 (by decide) (hts (.fieldLink RX11 90 "TripleStore" "length" "I") (List.mem_of_getElem? (i := 1) rfl)) (fun _ h9 => h9) rfl (by decide +kernel) rfl rfl (Nat.le_of_ble_eq_true rfl) dX11_type_63 (fun H locs hP hD hS => ?_)
        have hP : va_P (dC, dI) vwCl [(a0, .inr (12, [.ref a1, .int 1, .ref a2, .ref a3, .ref a4, .ref a5, .ref a6, .ref a7, .ref a8, .ref a9, .ref a10, .int 0, .int 0, .int 0, .int 0, .int 0, .null, .int 0])), (a1, .inl (k0, 4000, .inl (upd (fun _ => 0) (Int32.toNatClampNeg 0) (vp_nar .byte xx48))))] H := hP
        have hD : va_D A [(a0, .inr (12, [.ref a1, .int 1, .ref a2, .ref a3, .ref a4, .ref a5, .ref a6, .ref a7, .ref a8, .ref a9, .ref a10, .int 0, .int 0, .int 0, .int 0, .int 0, .null, .int 0])), (a1, .inl (k0, 4000, .inl (upd (fun _ => 0) (Int32.toNatClampNeg 0) (vp_nar .byte xx48))))] := hD
        refine lv_iinc (v := 4) (lv' := [(4, .int 4), (0, .ref a0), (1, .long y0), (3, .int 6)]) hx hb dX11_type_66 hl (k := 0) rfl (by decide +kernel) (by decide) rfl (fun ls hl => ?_)
        refine lv_goto (tgt := 33) hx hb dX11_type_69 (by decide) ?_
        refine lv_iload hx hb dX11_type_33 (lv_at hl 0 rfl) ?_
        refine lv_if_lt (tgt := 72) hx hb dX11_type_35 (by decide) (fun c9 => absurd c9 (by decide +kernel)) (fun _ => ?_)
        refine lv_aload_n hx hb dX11_type_38 rfl (lv_at hl 1 rfl) ?_
        refine va_get (D := (dC, dI)) (ci := 12) (v := .ref a1) (C := RX11) (T := TX11) (N := 18) hx hb hts in_f_X11_type_RX11 hown hK hP 0 rfl rfl 0 (by decide) (hts (.fieldLink RX11 9 "TripleStore" "text" "[B") (List.mem_of_getElem? (i := 2) rfl)) (fun _ h9 => h9) rfl dX11_type_39 ?_
        refine lv_aload_n hx hb dX11_type_42 rfl (lv_at hl 1 rfl) ?_
        refine va_get (D := (dC, dI)) (ci := 12) (v := .int 1) (C := RX11) (T := TX11) (N := 18) hx hb hts in_f_X11_type_RX11 hown hK hP 0 rfl rfl 1 (by decide) (hts (.fieldLink RX11 90 "TripleStore" "length" "I") (List.mem_of_getElem? (i := 1) rfl)) (fun _ h9 => h9) rfl dX11_type_43 ?_
        refine lv_lload_n hx hb dX11_type_46 rfl (lv_at hl 2 rfl) ?_
        refine lv_bipush (v := 8) hx hb dX11_type_47 (by decide) ?_
        refine lv_iload hx hb dX11_type_49 (lv_at hl 0 rfl) ?_
        refine lv_imul hx hb dX11_type_51 ?_
        refine W.eq (congrArg (fun z : Int32 => F0 m 52 ls (.int z :: [.long y0, .int 1, .ref a1])) (by decide +kernel : ((8 : Int32) * 4 : Int32) = 32)) ?_
        refine lv_lushr hx hb dX11_type_52 rfl ?_
        refine lv_topl (fun yy49 _ => ?_)
        refine lv_l2i hx hb dX11_type_53 rfl ?_
        refine lv_topi (fun xx50 _ => ?_)
        refine lv_i2b hx hb dX11_type_54 rfl ?_
        refine lv_topi (fun xx51 _ => ?_)
        refine va_bast (i := 1) (x := xx51) hx hb hK hP hD hS 1 0 rfl rfl (by unfold vp_in; decide +kernel) dX11_type_55 (fun H locs hP hD hS => ?_)
        have hP : va_P (dC, dI) vwCl [(a0, .inr (12, [.ref a1, .int 1, .ref a2, .ref a3, .ref a4, .ref a5, .ref a6, .ref a7, .ref a8, .ref a9, .ref a10, .int 0, .int 0, .int 0, .int 0, .int 0, .null, .int 0])), (a1, .inl (k0, 4000, .inl (upd (upd (fun _ => 0) (Int32.toNatClampNeg 0) (vp_nar .byte xx48)) (Int32.toNatClampNeg 1) (vp_nar .byte xx51))))] H := hP
        have hD : va_D A [(a0, .inr (12, [.ref a1, .int 1, .ref a2, .ref a3, .ref a4, .ref a5, .ref a6, .ref a7, .ref a8, .ref a9, .ref a10, .int 0, .int 0, .int 0, .int 0, .int 0, .null, .int 0])), (a1, .inl (k0, 4000, .inl (upd (upd (fun _ => 0) (Int32.toNatClampNeg 0) (vp_nar .byte xx48)) (Int32.toNatClampNeg 1) (vp_nar .byte xx51))))] := hD
        refine lv_aload_n hx hb dX11_type_56 rfl (lv_at hl 1 rfl) ?_
        refine lv_dup hx hb dX11_type_57 rfl ?_
        refine va_get (D := (dC, dI)) (ci := 12) (v := .int 1) (C := RX11) (T := TX11) (N := 18) hx hb hts in_f_X11_type_RX11 hown hK hP 0 rfl rfl 1 (by decide) (hts (.fieldLink RX11 90 "TripleStore" "length" "I") (List.mem_of_getElem? (i := 1) rfl)) (fun _ h9 => h9) rfl dX11_type_58 ?_
        refine lv_iconst (v := 1) hx hb dX11_type_61 (by decide) ?_
        refine lv_iadd hx hb dX11_type_62 ?_
        refine W.eq (congrArg (fun z : Int32 => F0 m 63 ls (.int z :: [.ref a0])) (by decide +kernel : ((1 : Int32) + 1 : Int32) = 2)) ?_
        refine va_put (D := (dC, dI)) (ci := 12) (v := .int 2) (ty := .int) (C := RX11) (T := TX11) (N := 18) hx hb hts in_f_X11_type_RX11 tyX11 tyX11_ok nmX11 hown hK hP hD hS 0 rfl rfl 1 (by decide) (hts (.fieldLink RX11 90 "TripleStore" "length" "I") (List.mem_of_getElem? (i := 1) rfl)) (fun _ h9 => h9) rfl (by decide +kernel) rfl rfl (Nat.le_of_ble_eq_true rfl) dX11_type_63 (fun H locs hP hD hS => ?_)
        have hP : va_P (dC, dI) vwCl [(a0, .inr (12, [.ref a1, .int 2, .ref a2, .ref a3, .ref a4, .ref a5, .ref a6, .ref a7, .ref a8, .ref a9, .ref a10, .int 0, .int 0, .int 0, .int 0, .int 0, .null, .int 0])), (a1, .inl (k0, 4000, .inl (upd (upd (fun _ => 0) (Int32.toNatClampNeg 0) (vp_nar .byte xx48)) (Int32.toNatClampNeg 1) (vp_nar .byte xx51))))] H := hP
        have hD : va_D A [(a0, .inr (12, [.ref a1, .int 2, .ref a2, .ref a3, .ref a4, .ref a5, .ref a6, .ref a7, .ref a8, .ref a9, .ref a10, .int 0, .int 0, .int 0, .int 0, .int 0, .null, .int 0])), (a1, .inl (k0, 4000, .inl (upd (upd (fun _ => 0) (Int32.toNatClampNeg 0) (vp_nar .byte xx48)) (Int32.toNatClampNeg 1) (vp_nar .byte xx51))))] := hD
        refine lv_iinc (v := 3) (lv' := [(4, .int 3), (0, .ref a0), (1, .long y0), (3, .int 6)]) hx hb dX11_type_66 hl (k := 0) rfl (by decide +kernel) (by decide) rfl (fun ls hl => ?_)
        refine lv_goto (tgt := 33) hx hb dX11_type_69 (by decide) ?_
        refine lv_iload hx hb dX11_type_33 (lv_at hl 0 rfl) ?_
        refine lv_if_lt (tgt := 72) hx hb dX11_type_35 (by decide) (fun c9 => absurd c9 (by decide +kernel)) (fun _ => ?_)
        refine lv_aload_n hx hb dX11_type_38 rfl (lv_at hl 1 rfl) ?_
        refine va_get (D := (dC, dI)) (ci := 12) (v := .ref a1) (C := RX11) (T := TX11) (N := 18) hx hb hts in_f_X11_type_RX11 hown hK hP 0 rfl rfl 0 (by decide) (hts (.fieldLink RX11 9 "TripleStore" "text" "[B") (List.mem_of_getElem? (i := 2) rfl)) (fun _ h9 => h9) rfl dX11_type_39 ?_
        refine lv_aload_n hx hb dX11_type_42 rfl (lv_at hl 1 rfl) ?_
        refine va_get (D := (dC, dI)) (ci := 12) (v := .int 2) (C := RX11) (T := TX11) (N := 18) hx hb hts in_f_X11_type_RX11 hown hK hP 0 rfl rfl 1 (by decide) (hts (.fieldLink RX11 90 "TripleStore" "length" "I") (List.mem_of_getElem? (i := 1) rfl)) (fun _ h9 => h9) rfl dX11_type_43 ?_
        refine lv_lload_n hx hb dX11_type_46 rfl (lv_at hl 2 rfl) ?_
        refine lv_bipush (v := 8) hx hb dX11_type_47 (by decide) ?_
        refine lv_iload hx hb dX11_type_49 (lv_at hl 0 rfl) ?_
        refine lv_imul hx hb dX11_type_51 ?_
        refine W.eq (congrArg (fun z : Int32 => F0 m 52 ls (.int z :: [.long y0, .int 2, .ref a1])) (by decide +kernel : ((8 : Int32) * 3 : Int32) = 24)) ?_
        refine lv_lushr hx hb dX11_type_52 rfl ?_
        refine lv_topl (fun yy52 _ => ?_)
        refine lv_l2i hx hb dX11_type_53 rfl ?_
        refine lv_topi (fun xx53 _ => ?_)
        refine lv_i2b hx hb dX11_type_54 rfl ?_
        refine lv_topi (fun xx54 _ => ?_)
        refine va_bast (i := 2) (x := xx54) hx hb hK hP hD hS 1 0 rfl rfl (by unfold vp_in; decide +kernel) dX11_type_55 (fun H locs hP hD hS => ?_)
        have hP : va_P (dC, dI) vwCl [(a0, .inr (12, [.ref a1, .int 2, .ref a2, .ref a3, .ref a4, .ref a5, .ref a6, .ref a7, .ref a8, .ref a9, .ref a10, .int 0, .int 0, .int 0, .int 0, .int 0, .null, .int 0])), (a1, .inl (k0, 4000, .inl (upd (upd (upd (fun _ => 0) (Int32.toNatClampNeg 0) (vp_nar .byte xx48)) (Int32.toNatClampNeg 1) (vp_nar .byte xx51)) (Int32.toNatClampNeg 2) (vp_nar .byte xx54))))] H := hP
        have hD : va_D A [(a0, .inr (12, [.ref a1, .int 2, .ref a2, .ref a3, .ref a4, .ref a5, .ref a6, .ref a7, .ref a8, .ref a9, .ref a10, .int 0, .int 0, .int 0, .int 0, .int 0, .null, .int 0])), (a1, .inl (k0, 4000, .inl (upd (upd (upd (fun _ => 0) (Int32.toNatClampNeg 0) (vp_nar .byte xx48)) (Int32.toNatClampNeg 1) (vp_nar .byte xx51)) (Int32.toNatClampNeg 2) (vp_nar .byte xx54))))] := hD
        refine lv_aload_n hx hb dX11_type_56 rfl (lv_at hl 1 rfl) ?_
        refine lv_dup hx hb dX11_type_57 rfl ?_
        refine va_get (D := (dC, dI)) (ci := 12) (v := .int 2) (C := RX11) (T := TX11) (N := 18) hx hb hts in_f_X11_type_RX11 hown hK hP 0 rfl rfl 1 (by decide) (hts (.fieldLink RX11 90 "TripleStore" "length" "I") (List.mem_of_getElem? (i := 1) rfl)) (fun _ h9 => h9) rfl dX11_type_58 ?_
        refine lv_iconst (v := 1) hx hb dX11_type_61 (by decide) ?_
        refine lv_iadd hx hb dX11_type_62 ?_
        refine W.eq (congrArg (fun z : Int32 => F0 m 63 ls (.int z :: [.ref a0])) (by decide +kernel : ((2 : Int32) + 1 : Int32) = 3)) ?_
        refine va_put (D := (dC, dI)) (ci := 12) (v := .int 3) (ty := .int) (C := RX11) (T := TX11) (N := 18) hx hb hts in_f_X11_type_RX11 tyX11 tyX11_ok nmX11 hown hK hP hD hS 0 rfl rfl 1 (by decide) (hts (.fieldLink RX11 90 "TripleStore" "length" "I") (List.mem_of_getElem? (i := 1) rfl)) (fun _ h9 => h9) rfl (by decide +kernel) rfl rfl (Nat.le_of_ble_eq_true rfl) dX11_type_63 (fun H locs hP hD hS => ?_)
        have hP : va_P (dC, dI) vwCl [(a0, .inr (12, [.ref a1, .int 3, .ref a2, .ref a3, .ref a4, .ref a5, .ref a6, .ref a7, .ref a8, .ref a9, .ref a10, .int 0, .int 0, .int 0, .int 0, .int 0, .null, .int 0])), (a1, .inl (k0, 4000, .inl (upd (upd (upd (fun _ => 0) (Int32.toNatClampNeg 0) (vp_nar .byte xx48)) (Int32.toNatClampNeg 1) (vp_nar .byte xx51)) (Int32.toNatClampNeg 2) (vp_nar .byte xx54))))] H := hP
        have hD : va_D A [(a0, .inr (12, [.ref a1, .int 3, .ref a2, .ref a3, .ref a4, .ref a5, .ref a6, .ref a7, .ref a8, .ref a9, .ref a10, .int 0, .int 0, .int 0, .int 0, .int 0, .null, .int 0])), (a1, .inl (k0, 4000, .inl (upd (upd (upd (fun _ => 0) (Int32.toNatClampNeg 0) (vp_nar .byte xx48)) (Int32.toNatClampNeg 1) (vp_nar .byte xx51)) (Int32.toNatClampNeg 2) (vp_nar .byte xx54))))] := hD
        refine lv_iinc (v := 2) (lv' := [(4, .int 2), (0, .ref a0), (1, .long y0), (3, .int 6)]) hx hb dX11_type_66 hl (k := 0) rfl (by decide +kernel) (by decide) rfl (fun ls hl => ?_)
        refine lv_goto (tgt := 33) hx hb dX11_type_69 (by decide) ?_
        refine lv_iload hx hb dX11_type_33 (lv_at hl 0 rfl) ?_
        refine lv_if_lt (tgt := 72) hx hb dX11_type_35 (by decide) (fun c9 => absurd c9 (by decide +kernel)) (fun _ => ?_)
        refine lv_aload_n hx hb dX11_type_38 rfl (lv_at hl 1 rfl) ?_
        refine va_get (D := (dC, dI)) (ci := 12) (v := .ref a1) (C := RX11) (T := TX11) (N := 18) hx hb hts in_f_X11_type_RX11 hown hK hP 0 rfl rfl 0 (by decide) (hts (.fieldLink RX11 9 "TripleStore" "text" "[B") (List.mem_of_getElem? (i := 2) rfl)) (fun _ h9 => h9) rfl dX11_type_39 ?_
        refine lv_aload_n hx hb dX11_type_42 rfl (lv_at hl 1 rfl) ?_
        refine va_get (D := (dC, dI)) (ci := 12) (v := .int 3) (C := RX11) (T := TX11) (N := 18) hx hb hts in_f_X11_type_RX11 hown hK hP 0 rfl rfl 1 (by decide) (hts (.fieldLink RX11 90 "TripleStore" "length" "I") (List.mem_of_getElem? (i := 1) rfl)) (fun _ h9 => h9) rfl dX11_type_43 ?_
        refine lv_lload_n hx hb dX11_type_46 rfl (lv_at hl 2 rfl) ?_
        refine lv_bipush (v := 8) hx hb dX11_type_47 (by decide) ?_
        refine lv_iload hx hb dX11_type_49 (lv_at hl 0 rfl) ?_
        refine lv_imul hx hb dX11_type_51 ?_
        refine W.eq (congrArg (fun z : Int32 => F0 m 52 ls (.int z :: [.long y0, .int 3, .ref a1])) (by decide +kernel : ((8 : Int32) * 2 : Int32) = 16)) ?_
        refine lv_lushr hx hb dX11_type_52 rfl ?_
        refine lv_topl (fun yy55 _ => ?_)
        refine lv_l2i hx hb dX11_type_53 rfl ?_
        refine lv_topi (fun xx56 _ => ?_)
        refine lv_i2b hx hb dX11_type_54 rfl ?_
        refine lv_topi (fun xx57 _ => ?_)
        refine va_bast (i := 3) (x := xx57) hx hb hK hP hD hS 1 0 rfl rfl (by unfold vp_in; decide +kernel) dX11_type_55 (fun H locs hP hD hS => ?_)
        have hP : va_P (dC, dI) vwCl [(a0, .inr (12, [.ref a1, .int 3, .ref a2, .ref a3, .ref a4, .ref a5, .ref a6, .ref a7, .ref a8, .ref a9, .ref a10, .int 0, .int 0, .int 0, .int 0, .int 0, .null, .int 0])), (a1, .inl (k0, 4000, .inl (upd (upd (upd (upd (fun _ => 0) (Int32.toNatClampNeg 0) (vp_nar .byte xx48)) (Int32.toNatClampNeg 1) (vp_nar .byte xx51)) (Int32.toNatClampNeg 2) (vp_nar .byte xx54)) (Int32.toNatClampNeg 3) (vp_nar .byte xx57))))] H := hP
        have hD : va_D A [(a0, .inr (12, [.ref a1, .int 3, .ref a2, .ref a3, .ref a4, .ref a5, .ref a6, .ref a7, .ref a8, .ref a9, .ref a10, .int 0, .int 0, .int 0, .int 0, .int 0, .null, .int 0])), (a1, .inl (k0, 4000, .inl (upd (upd (upd (upd (fun _ => 0) (Int32.toNatClampNeg 0) (vp_nar .byte xx48)) (Int32.toNatClampNeg 1) (vp_nar .byte xx51)) (Int32.toNatClampNeg 2) (vp_nar .byte xx54)) (Int32.toNatClampNeg 3) (vp_nar .byte xx57))))] := hD
        refine lv_aload_n hx hb dX11_type_56 rfl (lv_at hl 1 rfl) ?_
        refine lv_dup hx hb dX11_type_57 rfl ?_
        refine va_get (D := (dC, dI)) (ci := 12) (v := .int 3) (C := RX11) (T := TX11) (N := 18) hx hb hts in_f_X11_type_RX11 hown hK hP 0 rfl rfl 1 (by decide) (hts (.fieldLink RX11 90 "TripleStore" "length" "I") (List.mem_of_getElem? (i := 1) rfl)) (fun _ h9 => h9) rfl dX11_type_58 ?_
        refine lv_iconst (v := 1) hx hb dX11_type_61 (by decide) ?_
        refine lv_iadd hx hb dX11_type_62 ?_
        refine W.eq (congrArg (fun z : Int32 => F0 m 63 ls (.int z :: [.ref a0])) (by decide +kernel : ((3 : Int32) + 1 : Int32) = 4)) ?_
        refine va_put (D := (dC, dI)) (ci := 12) (v := .int 4) (ty := .int) (C := RX11) (T := TX11) (N := 18) hx hb hts in_f_X11_type_RX11 tyX11 tyX11_ok nmX11 hown hK hP hD hS 0 rfl rfl 1 (by decide) (hts (.fieldLink RX11 90 "TripleStore" "length" "I") (List.mem_of_getElem? (i := 1) rfl)) (fun _ h9 => h9) rfl (by decide +kernel) rfl rfl (Nat.le_of_ble_eq_true rfl) dX11_type_63 (fun H locs hP hD hS => ?_)
        have hP : va_P (dC, dI) vwCl [(a0, .inr (12, [.ref a1, .int 4, .ref a2, .ref a3, .ref a4, .ref a5, .ref a6, .ref a7, .ref a8, .ref a9, .ref a10, .int 0, .int 0, .int 0, .int 0, .int 0, .null, .int 0])), (a1, .inl (k0, 4000, .inl (upd (upd (upd (upd (fun _ => 0) (Int32.toNatClampNeg 0) (vp_nar .byte xx48)) (Int32.toNatClampNeg 1) (vp_nar .byte xx51)) (Int32.toNatClampNeg 2) (vp_nar .byte xx54)) (Int32.toNatClampNeg 3) (vp_nar .byte xx57))))] H := hP
        have hD : va_D A [(a0, .inr (12, [.ref a1, .int 4, .ref a2, .ref a3, .ref a4, .ref a5, .ref a6, .ref a7, .ref a8, .ref a9, .ref a10, .int 0, .int 0, .int 0, .int 0, .int 0, .null, .int 0])), (a1, .inl (k0, 4000, .inl (upd (upd (upd (upd (fun _ => 0) (Int32.toNatClampNeg 0) (vp_nar .byte xx48)) (Int32.toNatClampNeg 1) (vp_nar .byte xx51)) (Int32.toNatClampNeg 2) (vp_nar .byte xx54)) (Int32.toNatClampNeg 3) (vp_nar .byte xx57))))] := hD
        refine lv_iinc (v := 1) (lv' := [(4, .int 1), (0, .ref a0), (1, .long y0), (3, .int 6)]) hx hb dX11_type_66 hl (k := 0) rfl (by decide +kernel) (by decide) rfl (fun ls hl => ?_)
        refine lv_goto (tgt := 33) hx hb dX11_type_69 (by decide) ?_
        refine lv_iload hx hb dX11_type_33 (lv_at hl 0 rfl) ?_
        refine lv_if_lt (tgt := 72) hx hb dX11_type_35 (by decide) (fun c9 => absurd c9 (by decide +kernel)) (fun _ => ?_)
        refine lv_aload_n hx hb dX11_type_38 rfl (lv_at hl 1 rfl) ?_
        refine va_get (D := (dC, dI)) (ci := 12) (v := .ref a1) (C := RX11) (T := TX11) (N := 18) hx hb hts in_f_X11_type_RX11 hown hK hP 0 rfl rfl 0 (by decide) (hts (.fieldLink RX11 9 "TripleStore" "text" "[B") (List.mem_of_getElem? (i := 2) rfl)) (fun _ h9 => h9) rfl dX11_type_39 ?_
        refine lv_aload_n hx hb dX11_type_42 rfl (lv_at hl 1 rfl) ?_
        refine va_get (D := (dC, dI)) (ci := 12) (v := .int 4) (C := RX11) (T := TX11) (N := 18) hx hb hts in_f_X11_type_RX11 hown hK hP 0 rfl rfl 1 (by decide) (hts (.fieldLink RX11 90 "TripleStore" "length" "I") (List.mem_of_getElem? (i := 1) rfl)) (fun _ h9 => h9) rfl dX11_type_43 ?_
        refine lv_lload_n hx hb dX11_type_46 rfl (lv_at hl 2 rfl) ?_
        refine lv_bipush (v := 8) hx hb dX11_type_47 (by decide) ?_
        refine lv_iload hx hb dX11_type_49 (lv_at hl 0 rfl) ?_
        refine lv_imul hx hb dX11_type_51 ?_
        refine W.eq (congrArg (fun z : Int32 => F0 m 52 ls (.int z :: [.long y0, .int 4, .ref a1])) (by decide +kernel : ((8 : Int32) * 1 : Int32) = 8)) ?_
        refine lv_lushr hx hb dX11_type_52 rfl ?_
        refine lv_topl (fun yy58 _ => ?_)
        refine lv_l2i hx hb dX11_type_53 rfl ?_
        refine lv_topi (fun xx59 _ => ?_)
        refine lv_i2b hx hb dX11_type_54 rfl ?_
        refine lv_topi (fun xx60 _ => ?_)
        refine va_bast (i := 4) (x := xx60) hx hb hK hP hD hS 1 0 rfl rfl (by unfold vp_in; decide +kernel) dX11_type_55 (fun H locs hP hD hS => ?_)
        have hP : va_P (dC, dI) vwCl [(a0, .inr (12, [.ref a1, .int 4, .ref a2, .ref a3, .ref a4, .ref a5, .ref a6, .ref a7, .ref a8, .ref a9, .ref a10, .int 0, .int 0, .int 0, .int 0, .int 0, .null, .int 0])), (a1, .inl (k0, 4000, .inl (upd (upd (upd (upd (upd (fun _ => 0) (Int32.toNatClampNeg 0) (vp_nar .byte xx48)) (Int32.toNatClampNeg 1) (vp_nar .byte xx51)) (Int32.toNatClampNeg 2) (vp_nar .byte xx54)) (Int32.toNatClampNeg 3) (vp_nar .byte xx57)) (Int32.toNatClampNeg 4) (vp_nar .byte xx60))))] H := hP
        have hD : va_D A [(a0, .inr (12, [.ref a1, .int 4, .ref a2, .ref a3, .ref a4, .ref a5, .ref a6, .ref a7, .ref a8, .ref a9, .ref a10, .int 0, .int 0, .int 0, .int 0, .int 0, .null, .int 0])), (a1, .inl (k0, 4000, .inl (upd (upd (upd (upd (upd (fun _ => 0) (Int32.toNatClampNeg 0) (vp_nar .byte xx48)) (Int32.toNatClampNeg 1) (vp_nar .byte xx51)) (Int32.toNatClampNeg 2) (vp_nar .byte xx54)) (Int32.toNatClampNeg 3) (vp_nar .byte xx57)) (Int32.toNatClampNeg 4) (vp_nar .byte xx60))))] := hD
        refine lv_aload_n hx hb dX11_type_56 rfl (lv_at hl 1 rfl) ?_
        refine lv_dup hx hb dX11_type_57 rfl ?_
        refine va_get (D := (dC, dI)) (ci := 12) (v := .int 4) (C := RX11) (T := TX11) (N := 18) hx hb hts in_f_X11_type_RX11 hown hK hP 0 rfl rfl 1 (by decide) (hts (.fieldLink RX11 90 "TripleStore" "length" "I") (List.mem_of_getElem? (i := 1) rfl)) (fun _ h9 => h9) rfl dX11_type_58 ?_
        refine lv_iconst (v := 1) hx hb dX11_type_61 (by decide) ?_
        refine lv_iadd hx hb dX11_type_62 ?_
        refine W.eq (congrArg (fun z : Int32 => F0 m 63 ls (.int z :: [.ref a0])) (by decide +kernel : ((4 : Int32) + 1 : Int32) = 5)) ?_
        refine va_put (D := (dC, dI)) (ci := 12) (v := .int 5) (ty := .int) (C := RX11) (T := TX11) (N := 18) hx hb hts in_f_X11_type_RX11 tyX11 tyX11_ok nmX11 hown hK hP hD hS 0 rfl rfl 1 (by decide) (hts (.fieldLink RX11 90 "TripleStore" "length" "I") (List.mem_of_getElem? (i := 1) rfl)) (fun _ h9 => h9) rfl (by decide +kernel) rfl rfl (Nat.le_of_ble_eq_true rfl) dX11_type_63 (fun H locs hP hD hS => ?_)
        have hP : va_P (dC, dI) vwCl [(a0, .inr (12, [.ref a1, .int 5, .ref a2, .ref a3, .ref a4, .ref a5, .ref a6, .ref a7, .ref a8, .ref a9, .ref a10, .int 0, .int 0, .int 0, .int 0, .int 0, .null, .int 0])), (a1, .inl (k0, 4000, .inl (upd (upd (upd (upd (upd (fun _ => 0) (Int32.toNatClampNeg 0) (vp_nar .byte xx48)) (Int32.toNatClampNeg 1) (vp_nar .byte xx51)) (Int32.toNatClampNeg 2) (vp_nar .byte xx54)) (Int32.toNatClampNeg 3) (vp_nar .byte xx57)) (Int32.toNatClampNeg 4) (vp_nar .byte xx60))))] H := hP
        have hD : va_D A [(a0, .inr (12, [.ref a1, .int 5, .ref a2, .ref a3, .ref a4, .ref a5, .ref a6, .ref a7, .ref a8, .ref a9, .ref a10, .int 0, .int 0, .int 0, .int 0, .int 0, .null, .int 0])), (a1, .inl (k0, 4000, .inl (upd (upd (upd (upd (upd (fun _ => 0) (Int32.toNatClampNeg 0) (vp_nar .byte xx48)) (Int32.toNatClampNeg 1) (vp_nar .byte xx51)) (Int32.toNatClampNeg 2) (vp_nar .byte xx54)) (Int32.toNatClampNeg 3) (vp_nar .byte xx57)) (Int32.toNatClampNeg 4) (vp_nar .byte xx60))))] := hD
        refine lv_iinc (v := 0) (lv' := [(4, .int 0), (0, .ref a0), (1, .long y0), (3, .int 6)]) hx hb dX11_type_66 hl (k := 0) rfl (by decide +kernel) (by decide) rfl (fun ls hl => ?_)
        refine lv_goto (tgt := 33) hx hb dX11_type_69 (by decide) ?_
        refine lv_iload hx hb dX11_type_33 (lv_at hl 0 rfl) ?_
        refine lv_if_lt (tgt := 72) hx hb dX11_type_35 (by decide) (fun c9 => absurd c9 (by decide +kernel)) (fun _ => ?_)
        refine lv_aload_n hx hb dX11_type_38 rfl (lv_at hl 1 rfl) ?_
        refine va_get (D := (dC, dI)) (ci := 12) (v := .ref a1) (C := RX11) (T := TX11) (N := 18) hx hb hts in_f_X11_type_RX11 hown hK hP 0 rfl rfl 0 (by decide) (hts (.fieldLink RX11 9 "TripleStore" "text" "[B") (List.mem_of_getElem? (i := 2) rfl)) (fun _ h9 => h9) rfl dX11_type_39 ?_
        refine lv_aload_n hx hb dX11_type_42 rfl (lv_at hl 1 rfl) ?_
        refine va_get (D := (dC, dI)) (ci := 12) (v := .int 5) (C := RX11) (T := TX11) (N := 18) hx hb hts in_f_X11_type_RX11 hown hK hP 0 rfl rfl 1 (by decide) (hts (.fieldLink RX11 90 "TripleStore" "length" "I") (List.mem_of_getElem? (i := 1) rfl)) (fun _ h9 => h9) rfl dX11_type_43 ?_
        refine lv_lload_n hx hb dX11_type_46 rfl (lv_at hl 2 rfl) ?_
        refine lv_bipush (v := 8) hx hb dX11_type_47 (by decide) ?_
        refine lv_iload hx hb dX11_type_49 (lv_at hl 0 rfl) ?_
        refine lv_imul hx hb dX11_type_51 ?_
        refine W.eq (congrArg (fun z : Int32 => F0 m 52 ls (.int z :: [.long y0, .int 5, .ref a1])) (by decide +kernel : ((8 : Int32) * 0 : Int32) = 0)) ?_
        refine lv_lushr hx hb dX11_type_52 rfl ?_
        refine lv_topl (fun yy61 _ => ?_)
        refine lv_l2i hx hb dX11_type_53 rfl ?_
        refine lv_topi (fun xx62 _ => ?_)
        refine lv_i2b hx hb dX11_type_54 rfl ?_
        refine lv_topi (fun xx63 _ => ?_)
        refine va_bast (i := 5) (x := xx63) hx hb hK hP hD hS 1 0 rfl rfl (by unfold vp_in; decide +kernel) dX11_type_55 (fun H locs hP hD hS => ?_)
        have hP : va_P (dC, dI) vwCl [(a0, .inr (12, [.ref a1, .int 5, .ref a2, .ref a3, .ref a4, .ref a5, .ref a6, .ref a7, .ref a8, .ref a9, .ref a10, .int 0, .int 0, .int 0, .int 0, .int 0, .null, .int 0])), (a1, .inl (k0, 4000, .inl (upd (upd (upd (upd (upd (upd (fun _ => 0) (Int32.toNatClampNeg 0) (vp_nar .byte xx48)) (Int32.toNatClampNeg 1) (vp_nar .byte xx51)) (Int32.toNatClampNeg 2) (vp_nar .byte xx54)) (Int32.toNatClampNeg 3) (vp_nar .byte xx57)) (Int32.toNatClampNeg 4) (vp_nar .byte xx60)) (Int32.toNatClampNeg 5) (vp_nar .byte xx63))))] H := hP
        have hD : va_D A [(a0, .inr (12, [.ref a1, .int 5, .ref a2, .ref a3, .ref a4, .ref a5, .ref a6, .ref a7, .ref a8, .ref a9, .ref a10, .int 0, .int 0, .int 0, .int 0, .int 0, .null, .int 0])), (a1, .inl (k0, 4000, .inl (upd (upd (upd (upd (upd (upd (fun _ => 0) (Int32.toNatClampNeg 0) (vp_nar .byte xx48)) (Int32.toNatClampNeg 1) (vp_nar .byte xx51)) (Int32.toNatClampNeg 2) (vp_nar .byte xx54)) (Int32.toNatClampNeg 3) (vp_nar .byte xx57)) (Int32.toNatClampNeg 4) (vp_nar .byte xx60)) (Int32.toNatClampNeg 5) (vp_nar .byte xx63))))] := hD
        refine lv_aload_n hx hb dX11_type_56 rfl (lv_at hl 1 rfl) ?_
        refine lv_dup hx hb dX11_type_57 rfl ?_
        refine va_get (D := (dC, dI)) (ci := 12) (v := .int 5) (C := RX11) (T := TX11) (N := 18) hx hb hts in_f_X11_type_RX11 hown hK hP 0 rfl rfl 1 (by decide) (hts (.fieldLink RX11 90 "TripleStore" "length" "I") (List.mem_of_getElem? (i := 1) rfl)) (fun _ h9 => h9) rfl dX11_type_58 ?_
        refine lv_iconst (v := 1) hx hb dX11_type_61 (by decide) ?_
        refine lv_iadd hx hb dX11_type_62 ?_
        refine W.eq (congrArg (fun z : Int32 => F0 m 63 ls (.int z :: [.ref a0])) (by decide +kernel : ((5 : Int32) + 1 : Int32) = 6)) ?_
        refine va_put (D := (dC, dI)) (ci := 12) (v := .int 6) (ty := .int) (C := RX11) (T := TX11) (N := 18) hx hb hts in_f_X11_type_RX11 tyX11 tyX11_ok nmX11 hown hK hP hD hS 0 rfl rfl 1 (by decide) (hts (.fieldLink RX11 90 "TripleStore" "length" "I") (List.mem_of_getElem? (i := 1) rfl)) (fun _ h9 => h9) rfl (by decide +kernel) rfl rfl (Nat.le_of_ble_eq_true rfl) dX11_type_63 (fun H locs hP hD hS => ?_)
        have hP : va_P (dC, dI) vwCl [(a0, .inr (12, [.ref a1, .int 6, .ref a2, .ref a3, .ref a4, .ref a5, .ref a6, .ref a7, .ref a8, .ref a9, .ref a10, .int 0, .int 0, .int 0, .int 0, .int 0, .null, .int 0])), (a1, .inl (k0, 4000, .inl (upd (upd (upd (upd (upd (upd (fun _ => 0) (Int32.toNatClampNeg 0) (vp_nar .byte xx48)) (Int32.toNatClampNeg 1) (vp_nar .byte xx51)) (Int32.toNatClampNeg 2) (vp_nar .byte xx54)) (Int32.toNatClampNeg 3) (vp_nar .byte xx57)) (Int32.toNatClampNeg 4) (vp_nar .byte xx60)) (Int32.toNatClampNeg 5) (vp_nar .byte xx63))))] H := hP
        have hD : va_D A [(a0, .inr (12, [.ref a1, .int 6, .ref a2, .ref a3, .ref a4, .ref a5, .ref a6, .ref a7, .ref a8, .ref a9, .ref a10, .int 0, .int 0, .int 0, .int 0, .int 0, .null, .int 0])), (a1, .inl (k0, 4000, .inl (upd (upd (upd (upd (upd (upd (fun _ => 0) (Int32.toNatClampNeg 0) (vp_nar .byte xx48)) (Int32.toNatClampNeg 1) (vp_nar .byte xx51)) (Int32.toNatClampNeg 2) (vp_nar .byte xx54)) (Int32.toNatClampNeg 3) (vp_nar .byte xx57)) (Int32.toNatClampNeg 4) (vp_nar .byte xx60)) (Int32.toNatClampNeg 5) (vp_nar .byte xx63))))] := hD
        refine lv_iinc (v := (-1)) (lv' := [(4, .int (-1)), (0, .ref a0), (1, .long y0), (3, .int 6)]) hx hb dX11_type_66 hl (k := 0) rfl (by decide +kernel) (by decide) rfl (fun ls hl => ?_)
        refine lv_goto (tgt := 33) hx hb dX11_type_69 (by decide) ?_
        refine lv_iload hx hb dX11_type_33 (lv_at hl 0 rfl) ?_
        refine lv_if_lt (tgt := 72) hx hb dX11_type_35 (by decide) (fun _ => ?_) (fun c9 => absurd (by decide +kernel) c9)
        refine lv_aload_n hx hb dX11_type_72 rfl (lv_at hl 1 rfl) ?_
        refine va_get (D := (dC, dI)) (ci := 12) (v := .int 6) (C := RX11) (T := TX11) (N := 18) hx hb hts in_f_X11_type_RX11 hown hK hP 0 rfl rfl 1 (by decide) (hts (.fieldLink RX11 90 "TripleStore" "length" "I") (List.mem_of_getElem? (i := 1) rfl)) (fun _ h9 => h9) rfl dX11_type_73 ?_
        refine W.widen (k := 0) (n := 0) (Nat.le_of_ble_eq_true rfl) (Nat.le_of_ble_eq_true rfl) ?_
        exact W.iret (v := 6) hx hb hr (fun t ht hW => ⟨⟨6, (), rfl, by rw [if_neg (by decide +kernel), if_pos (by decide +kernel)], trivial⟩, hS.F ht⟩) hS.2.2 dX11_type_76
      · refine lv_aload_n hx hb dX11_type_13 rfl (lv_at hl 0 rfl) ?_
        refine va_get (D := (dC, dI)) (ci := 12) (v := .int 0) (C := RX11) (T := TX11) (N := 18) hx hb hts in_f_X11_type_RX11 hown hK hP 0 rfl rfl 1 (by decide) (hts (.fieldLink RX11 90 "TripleStore" "length" "I") (List.mem_of_getElem? (i := 1) rfl)) (fun _ h9 => h9) rfl dX11_type_14 ?_
        refine lv_iload_n hx hb dX11_type_17 rfl (lv_at hl 2 rfl) ?_
        refine lv_iadd hx hb dX11_type_18 ?_
        refine W.eq (congrArg (fun z : Int32 => F0 m 19 ls (.int z :: [])) (by decide +kernel : ((0 : Int32) + 7 : Int32) = 7)) ?_
        refine lv_sipush (v := 4000) hx hb dX11_type_19 (by decide) ?_
        refine lv_icmp_le (tgt := 28) hx hb dX11_type_22 (by decide) (fun _ => ?_) (fun c9 => absurd (by decide +kernel) c9)
        refine lv_iload_n hx hb dX11_type_28 rfl (lv_at hl 2 rfl) ?_
        refine lv_iconst (v := 1) hx hb dX11_type_29 (by decide) ?_
        refine lv_isub hx hb dX11_type_30 ?_
        refine W.eq (congrArg (fun z : Int32 => F0 m 31 ls (.int z :: [])) (by decide +kernel : ((7 : Int32) - 1 : Int32) = 6)) ?_
        refine lv_istore (lv' := [(4, .int 6), (0, .ref a0), (1, .long y0), (3, .int 7)]) hx hb dX11_type_31 hl (by decide) rfl (fun ls hl => ?_)
        refine lv_iload hx hb dX11_type_33 (lv_at hl 0 rfl) ?_
        refine lv_if_lt (tgt := 72) hx hb dX11_type_35 (by decide) (fun c9 => absurd c9 (by decide +kernel)) (fun _ => ?_)
        refine lv_aload_n hx hb dX11_type_38 rfl (lv_at hl 1 rfl) ?_
        refine va_get (D := (dC, dI)) (ci := 12) (v := .ref a1) (C := RX11) (T := TX11) (N := 18) hx hb hts in_f_X11_type_RX11 hown hK hP 0 rfl rfl 0 (by decide) (hts (.fieldLink RX11 9 "TripleStore" "text" "[B") (List.mem_of_getElem? (i := 2) rfl)) (fun _ h9 => h9) rfl dX11_type_39 ?_
        refine lv_aload_n hx hb dX11_type_42 rfl (lv_at hl 1 rfl) ?_
        refine va_get (D := (dC, dI)) (ci := 12) (v := .int 0) (C := RX11) (T := TX11) (N := 18) hx hb hts in_f_X11_type_RX11 hown hK hP 0 rfl rfl 1 (by decide) (hts (.fieldLink RX11 90 "TripleStore" "length" "I") (List.mem_of_getElem? (i := 1) rfl)) (fun _ h9 => h9) rfl dX11_type_43 ?_
        refine lv_lload_n hx hb dX11_type_46 rfl (lv_at hl 2 rfl) ?_
        refine lv_bipush (v := 8) hx hb dX11_type_47 (by decide) ?_
        refine lv_iload hx hb dX11_type_49 (lv_at hl 0 rfl) ?_
        refine lv_imul hx hb dX11_type_51 ?_
        refine W.eq (congrArg (fun z : Int32 => F0 m 52 ls (.int z :: [.long y0, .int 0, .ref a1])) (by decide +kernel : ((8 : Int32) * 6 : Int32) = 48)) ?_
        refine lv_lushr hx hb dX11_type_52 rfl ?_
        refine lv_topl (fun yy64 _ => ?_)
        refine lv_l2i hx hb dX11_type_53 rfl ?_
        refine lv_topi (fun xx65 _ => ?_)
        refine lv_i2b hx hb dX11_type_54 rfl ?_
        refine lv_topi (fun xx66 _ => ?_)
        refine va_bast (i := 0) (x := xx66) hx hb hK hP hD hS 1 0 rfl rfl (by unfold vp_in; decide +kernel) dX11_type_55 (fun H locs hP hD hS => ?_)
        have hP : va_P (dC, dI) vwCl [(a0, .inr (12, [.ref a1, .int 0, .ref a2, .ref a3, .ref a4, .ref a5, .ref a6, .ref a7, .ref a8, .ref a9, .ref a10, .int 0, .int 0, .int 0, .int 0, .int 0, .null, .int 0])), (a1, .inl (k0, 4000, .inl (upd (fun _ => 0) (Int32.toNatClampNeg 0) (vp_nar .byte xx66))))] H := hP
        have hD : va_D A [(a0, .inr (12, [.ref a1, .int 0, .ref a2, .ref a3, .ref a4, .ref a5, .ref a6, .ref a7, .ref a8, .ref a9, .ref a10, .int 0, .int 0, .int 0, .int 0, .int 0, .null, .int 0])), (a1, .inl (k0, 4000, .inl (upd (fun _ => 0) (Int32.toNatClampNeg 0) (vp_nar .byte xx66))))] := hD
        refine lv_aload_n hx hb dX11_type_56 rfl (lv_at hl 1 rfl) ?_
        refine lv_dup hx hb dX11_type_57 rfl ?_
        refine va_get (D := (dC, dI)) (ci := 12) (v := .int 0) (C := RX11) (T := TX11) (N := 18) hx hb hts in_f_X11_type_RX11 hown hK hP 0 rfl rfl 1 (by decide) (hts (.fieldLink RX11 90 "TripleStore" "length" "I") (List.mem_of_getElem? (i := 1) rfl)) (fun _ h9 => h9) rfl dX11_type_58 ?_
        refine lv_iconst (v := 1) hx hb dX11_type_61 (by decide) ?_
        refine lv_iadd hx hb dX11_type_62 ?_
        refine W.eq (congrArg (fun z : Int32 => F0 m 63 ls (.int z :: [.ref a0])) (by decide +kernel : ((0 : Int32) + 1 : Int32) = 1)) ?_
        refine va_put (D := (dC, dI)) (ci := 12) (v := .int 1) (ty := .int) (C := RX11) (T := TX11) (N := 18) hx hb hts in_f_X11_type_RX11 tyX11 tyX11_ok nmX11 hown hK hP hD hS 0 rfl rfl 1 (by decide) (hts (.fieldLink RX11 90 "TripleStore" "length" "I") (List.mem_of_getElem? (i := 1) rfl)) (fun _ h9 => h9) rfl (by decide +kernel) rfl rfl (Nat.le_of_ble_eq_true rfl) dX11_type_63 (fun H locs hP hD hS => ?_)
        have hP : va_P (dC, dI) vwCl [(a0, .inr (12, [.ref a1, .int 1, .ref a2, .ref a3, .ref a4, .ref a5, .ref a6, .ref a7, .ref a8, .ref a9, .ref a10, .int 0, .int 0, .int 0, .int 0, .int 0, .null, .int 0])), (a1, .inl (k0, 4000, .inl (upd (fun _ => 0) (Int32.toNatClampNeg 0) (vp_nar .byte xx66))))] H := hP
        have hD : va_D A [(a0, .inr (12, [.ref a1, .int 1, .ref a2, .ref a3, .ref a4, .ref a5, .ref a6, .ref a7, .ref a8, .ref a9, .ref a10, .int 0, .int 0, .int 0, .int 0, .int 0, .null, .int 0])), (a1, .inl (k0, 4000, .inl (upd (fun _ => 0) (Int32.toNatClampNeg 0) (vp_nar .byte xx66))))] := hD
        refine lv_iinc (v := 5) (lv' := [(4, .int 5), (0, .ref a0), (1, .long y0), (3, .int 7)]) hx hb dX11_type_66 hl (k := 0) rfl (by decide +kernel) (by decide) rfl (fun ls hl => ?_)
        refine lv_goto (tgt := 33) hx hb dX11_type_69 (by decide) ?_
        refine lv_iload hx hb dX11_type_33 (lv_at hl 0 rfl) ?_
        refine lv_if_lt (tgt := 72) hx hb dX11_type_35 (by decide) (fun c9 => absurd c9 (by decide +kernel)) (fun _ => ?_)
        refine lv_aload_n hx hb dX11_type_38 rfl (lv_at hl 1 rfl) ?_
        refine va_get (D := (dC, dI)) (ci := 12) (v := .ref a1) (C := RX11) (T := TX11) (N := 18) hx hb hts in_f_X11_type_RX11 hown hK hP 0 rfl rfl 0 (by decide) (hts (.fieldLink RX11 9 "TripleStore" "text" "[B") (List.mem_of_getElem? (i := 2) rfl)) (fun _ h9 => h9) rfl dX11_type_39 ?_
        refine lv_aload_n hx hb dX11_type_42 rfl (lv_at hl 1 rfl) ?_
        refine va_get (D := (dC, dI)) (ci := 12) (v := .int 1) (C := RX11) (T := TX11) (N := 18) hx hb hts in_f_X11_type_RX11 hown hK hP 0 rfl rfl 1 (by decide) (hts (.fieldLink RX11 90 "TripleStore" "length" "I") (List.mem_of_getElem? (i := 1) rfl)) (fun _ h9 => h9) rfl dX11_type_43 ?_
        refine lv_lload_n hx hb dX11_type_46 rfl (lv_at hl 2 rfl) ?_
        refine lv_bipush (v := 8) hx hb dX11_type_47 (by decide) ?_
        refine lv_iload hx hb dX11_type_49 (lv_at hl 0 rfl) ?_
        refine lv_imul hx hb dX11_type_51 ?_
        refine W.eq (congrArg (fun z : Int32 => F0 m 52 ls (.int z :: [.long y0, .int 1, .ref a1])) (by decide +kernel : ((8 : Int32) * 5 : Int32) = 40)) ?_
        refine lv_lushr hx hb dX11_type_52 rfl ?_
        refine lv_topl (fun yy67 _ => ?_)
        refine lv_l2i hx hb dX11_type_53 rfl ?_
        refine lv_topi (fun xx68 _ => ?_)
        refine lv_i2b hx hb dX11_type_54 rfl ?_
        refine lv_topi (fun xx69 _ => ?_)
        refine va_bast (i := 1) (x := xx69) hx hb hK hP hD hS 1 0 rfl rfl (by unfold vp_in; decide +kernel) dX11_type_55 (fun H locs hP hD hS => ?_)
        have hP : va_P (dC, dI) vwCl [(a0, .inr (12, [.ref a1, .int 1, .ref a2, .ref a3, .ref a4, .ref a5, .ref a6, .ref a7, .ref a8, .ref a9, .ref a10, .int 0, .int 0, .int 0, .int 0, .int 0, .null, .int 0])), (a1, .inl (k0, 4000, .inl (upd (upd (fun _ => 0) (Int32.toNatClampNeg 0) (vp_nar .byte xx66)) (Int32.toNatClampNeg 1) (vp_nar .byte xx69))))] H := hP
        have hD : va_D A [(a0, .inr (12, [.ref a1, .int 1, .ref a2, .ref a3, .ref a4, .ref a5, .ref a6, .ref a7, .ref a8, .ref a9, .ref a10, .int 0, .int 0, .int 0, .int 0, .int 0, .null, .int 0])), (a1, .inl (k0, 4000, .inl (upd (upd (fun _ => 0) (Int32.toNatClampNeg 0) (vp_nar .byte xx66)) (Int32.toNatClampNeg 1) (vp_nar .byte xx69))))] := hD
        refine lv_aload_n hx hb dX11_type_56 rfl (lv_at hl 1 rfl) ?_
        refine lv_dup hx hb dX11_type_57 rfl ?_
        refine va_get (D := (dC, dI)) (ci := 12) (v := .int 1) (C := RX11) (T := TX11) (N := 18) hx hb hts in_f_X11_type_RX11 hown hK hP 0 rfl rfl 1 (by decide) (hts (.fieldLink RX11 90 "TripleStore" "length" "I") (List.mem_of_getElem? (i := 1) rfl)) (fun _ h9 => h9) rfl dX11_type_58 ?_
        refine lv_iconst (v := 1) hx hb dX11_type_61 (by decide) ?_
        refine lv_iadd hx hb dX11_type_62 ?_
        refine W.eq (congrArg (fun z : Int32 => F0 m 63 ls (.int z :: [.ref a0])) (by decide +kernel : ((1 : Int32) + 1 : Int32) = 2)) ?_
        refine va_put (D := (dC, dI)) (ci := 12) (v := .int 2) (ty := .int) (C := RX11) (T := TX11) (N := 18) hx hb hts in_f_X11_type_RX11 tyX11 tyX11_ok nmX11 hown hK hP hD hS 0 rfl rfl 1 (by decide) (hts (.fieldLink RX11 90 "TripleStore" "length" "I") (List.mem_of_getElem? (i := 1) rfl)) (fun _ h9 => h9) rfl (by decide +kernel) rfl rfl (Nat.le_of_ble_eq_true rfl) dX11_type_63 (fun H locs hP hD hS => ?_)
        have hP : va_P (dC, dI) vwCl [(a0, .inr (12, [.ref a1, .int 2, .ref a2, .ref a3, .ref a4, .ref a5, .ref a6, .ref a7, .ref a8, .ref a9, .ref a10, .int 0, .int 0, .int 0, .int 0, .int 0, .null, .int 0])), (a1, .inl (k0, 4000, .inl (upd (upd (fun _ => 0) (Int32.toNatClampNeg 0) (vp_nar .byte xx66)) (Int32.toNatClampNeg 1) (vp_nar .byte xx69))))] H := hP
        have hD : va_D A [(a0, .inr (12, [.ref a1, .int 2, .ref a2, .ref a3, .ref a4, .ref a5, .ref a6, .ref a7, .ref a8, .ref a9, .ref a10, .int 0, .int 0, .int 0, .int 0, .int 0, .null, .int 0])), (a1, .inl (k0, 4000, .inl (upd (upd (fun _ => 0) (Int32.toNatClampNeg 0) (vp_nar .byte xx66)) (Int32.toNatClampNeg 1) (vp_nar .byte xx69))))] := hD
        refine lv_iinc (v := 4) (lv' := [(4, .int 4), (0, .ref a0), (1, .long y0), (3, .int 7)]) hx hb dX11_type_66 hl (k := 0) rfl (by decide +kernel) (by decide) rfl (fun ls hl => ?_)
        refine lv_goto (tgt := 33) hx hb dX11_type_69 (by decide) ?_
        refine lv_iload hx hb dX11_type_33 (lv_at hl 0 rfl) ?_
        refine lv_if_lt (tgt := 72) hx hb dX11_type_35 (by decide) (fun c9 => absurd c9 (by decide +kernel)) (fun _ => ?_)
        refine lv_aload_n hx hb dX11_type_38 rfl (lv_at hl 1 rfl) ?_
        refine va_get (D := (dC, dI)) (ci := 12) (v := .ref a1) (C := RX11) (T := TX11) (N := 18) hx hb hts in_f_X11_type_RX11 hown hK hP 0 rfl rfl 0 (by decide) (hts (.fieldLink RX11 9 "TripleStore" "text" "[B") (List.mem_of_getElem? (i := 2) rfl)) (fun _ h9 => h9) rfl dX11_type_39 ?_
        refine lv_aload_n hx hb dX11_type_42 rfl (lv_at hl 1 rfl) ?_
        refine va_get (D := (dC, dI)) (ci := 12) (v := .int 2) (C := RX11) (T := TX11) (N := 18) hx hb hts in_f_X11_type_RX11 hown hK hP 0 rfl rfl 1 (by decide) (hts (.fieldLink RX11 90 "TripleStore" "length" "I") (List.mem_of_getElem? (i := 1) rfl)) (fun _ h9 => h9) rfl dX11_type_43 ?_
        refine lv_lload_n hx hb dX11_type_46 rfl (lv_at hl 2 rfl) ?_
        refine lv_bipush (v := 8) hx hb dX11_type_47 (by decide) ?_
        refine lv_iload hx hb dX11_type_49 (lv_at hl 0 rfl) ?_
        refine lv_imul hx hb dX11_type_51 ?_
        refine W.eq (congrArg (fun z : Int32 => F0 m 52 ls (.int z :: [.long y0, .int 2, .ref a1])) (by decide +kernel : ((8 : Int32) * 4 : Int32) = 32)) ?_
        refine lv_lushr hx hb dX11_type_52 rfl ?_
        refine lv_topl (fun yy70 _ => ?_)
        refine lv_l2i hx hb dX11_type_53 rfl ?_
        refine lv_topi (fun xx71 _ => ?_)
        refine lv_i2b hx hb dX11_type_54 rfl ?_
        refine lv_topi (fun xx72 _ => ?_)
        refine va_bast (i := 2) (x := xx72) hx hb hK hP hD hS 1 0 rfl rfl (by unfold vp_in; decide +kernel) dX11_type_55 (fun H locs hP hD hS => ?_)
        have hP : va_P (dC, dI) vwCl [(a0, .inr (12, [.ref a1, .int 2, .ref a2, .ref a3, .ref a4, .ref a5, .ref a6, .ref a7, .ref a8, .ref a9, .ref a10, .int 0, .int 0, .int 0, .int 0, .int 0, .null, .int 0])), (a1, .inl (k0, 4000, .inl (upd (upd (upd (fun _ => 0) (Int32.toNatClampNeg 0) (vp_nar .byte xx66)) (Int32.toNatClampNeg 1) (vp_nar .byte xx69)) (Int32.toNatClampNeg 2) (vp_nar .byte xx72))))] H := hP
        have hD : va_D A [(a0, .inr (12, [.ref a1, .int 2, .ref a2, .ref a3, .ref a4, .ref a5, .ref a6, .ref a7, .ref a8, .ref a9, .ref a10, .int 0, .int 0, .int 0, .int 0, .int 0, .null, .int 0])), (a1, .inl (k0, 4000, .inl (upd (upd (upd (fun _ => 0) (Int32.toNatClampNeg 0) (vp_nar .byte xx66)) (Int32.toNatClampNeg 1) (vp_nar .byte xx69)) (Int32.toNatClampNeg 2) (vp_nar .byte xx72))))] := hD
        refine lv_aload_n hx hb dX11_type_56 rfl (lv_at hl 1 rfl) ?_
        refine lv_dup hx hb dX11_type_57 rfl ?_
        refine va_get (D := (dC, dI)) (ci := 12) (v := .int 2) (C := RX11) (T := TX11) (N := 18) hx hb hts in_f_X11_type_RX11 hown hK hP 0 rfl rfl 1 (by decide) (hts (.fieldLink RX11 90 "TripleStore" "length" "I") (List.mem_of_getElem? (i := 1) rfl)) (fun _ h9 => h9) rfl dX11_type_58 ?_
        refine lv_iconst (v := 1) hx hb dX11_type_61 (by decide) ?_
        refine lv_iadd hx hb dX11_type_62 ?_
        refine W.eq (congrArg (fun z : Int32 => F0 m 63 ls (.int z :: [.ref a0])) (by decide +kernel : ((2 : Int32) + 1 : Int32) = 3)) ?_
        refine va_put (D := (dC, dI)) (ci := 12) (v := .int 3) (ty := .int) (C := RX11) (T := TX11) (N := 18) hx hb hts in_f_X11_type_RX11 tyX11 tyX11_ok nmX11 hown hK hP hD hS 0 rfl rfl 1 (by decide) (hts (.fieldLink RX11 90 "TripleStore" "length" "I") (List.mem_of_getElem? (i := 1) rfl)) (fun _ h9 => h9) rfl (by decide +kernel) rfl rfl (Nat.le_of_ble_eq_true rfl) dX11_type_63 (fun H locs hP hD hS => ?_)
        have hP : va_P (dC, dI) vwCl [(a0, .inr (12, [.ref a1, .int 3, .ref a2, .ref a3, .ref a4, .ref a5, .ref a6, .ref a7, .ref a8, .ref a9, .ref a10, .int 0, .int 0, .int 0, .int 0, .int 0, .null, .int 0])), (a1, .inl (k0, 4000, .inl (upd (upd (upd (fun _ => 0) (Int32.toNatClampNeg 0) (vp_nar .byte xx66)) (Int32.toNatClampNeg 1) (vp_nar .byte xx69)) (Int32.toNatClampNeg 2) (vp_nar .byte xx72))))] H := hP
        have hD : va_D A [(a0, .inr (12, [.ref a1, .int 3, .ref a2, .ref a3, .ref a4, .ref a5, .ref a6, .ref a7, .ref a8, .ref a9, .ref a10, .int 0, .int 0, .int 0, .int 0, .int 0, .null, .int 0])), (a1, .inl (k0, 4000, .inl (upd (upd (upd (fun _ => 0) (Int32.toNatClampNeg 0) (vp_nar .byte xx66)) (Int32.toNatClampNeg 1) (vp_nar .byte xx69)) (Int32.toNatClampNeg 2) (vp_nar .byte xx72))))] := hD
        refine lv_iinc (v := 3) (lv' := [(4, .int 3), (0, .ref a0), (1, .long y0), (3, .int 7)]) hx hb dX11_type_66 hl (k := 0) rfl (by decide +kernel) (by decide) rfl (fun ls hl => ?_)
        refine lv_goto (tgt := 33) hx hb dX11_type_69 (by decide) ?_
        refine lv_iload hx hb dX11_type_33 (lv_at hl 0 rfl) ?_
        refine lv_if_lt (tgt := 72) hx hb dX11_type_35 (by decide) (fun c9 => absurd c9 (by decide +kernel)) (fun _ => ?_)
        refine lv_aload_n hx hb dX11_type_38 rfl (lv_at hl 1 rfl) ?_
        refine va_get (D := (dC, dI)) (ci := 12) (v := .ref a1) (C := RX11) (T := TX11) (N := 18) hx hb hts in_f_X11_type_RX11 hown hK hP 0 rfl rfl 0 (by decide) (hts (.fieldLink RX11 9 "TripleStore" "text" "[B") (List.mem_of_getElem? (i := 2) rfl)) (fun _ h9 => h9) rfl dX11_type_39 ?_
        refine lv_aload_n hx hb dX11_type_42 rfl (lv_at hl 1 rfl) ?_
        refine va_get (D := (dC, dI)) (ci := 12) (v := .int 3) (C := RX11) (T := TX11) (N := 18) hx hb hts in_f_X11_type_RX11 hown hK hP 0 rfl rfl 1 (by decide) (hts (.fieldLink RX11 90 "TripleStore" "length" "I") (List.mem_of_getElem? (i := 1) rfl)) (fun _ h9 => h9) rfl dX11_type_43 ?_
        refine lv_lload_n hx hb dX11_type_46 rfl (lv_at hl 2 rfl) ?_
        refine lv_bipush (v := 8) hx hb dX11_type_47 (by decide) ?_
        refine lv_iload hx hb dX11_type_49 (lv_at hl 0 rfl) ?_
        refine lv_imul hx hb dX11_type_51 ?_
        refine W.eq (congrArg (fun z : Int32 => F0 m 52 ls (.int z :: [.long y0, .int 3, .ref a1])) (by decide +kernel : ((8 : Int32) * 3 : Int32) = 24)) ?_
        refine lv_lushr hx hb dX11_type_52 rfl ?_
        refine lv_topl (fun yy73 _ => ?_)
        refine lv_l2i hx hb dX11_type_53 rfl ?_
        refine lv_topi (fun xx74 _ => ?_)
        refine lv_i2b hx hb dX11_type_54 rfl ?_
        refine lv_topi (fun xx75 _ => ?_)
        refine va_bast (i := 3) (x := xx75) hx hb hK hP hD hS 1 0 rfl rfl (by unfold vp_in; decide +kernel) dX11_type_55 (fun H locs hP hD hS => ?_)
        have hP : va_P (dC, dI) vwCl [(a0, .inr (12, [.ref a1, .int 3, .ref a2, .ref a3, .ref a4, .ref a5, .ref a6, .ref a7, .ref a8, .ref a9, .ref a10, .int 0, .int 0, .int 0, .int 0, .int 0, .null, .int 0])), (a1, .inl (k0, 4000, .inl (upd (upd (upd (upd (fun _ => 0) (Int32.toNatClampNeg 0) (vp_nar .byte xx66)) (Int32.toNatClampNeg 1) (vp_nar .byte xx69)) (Int32.toNatClampNeg 2) (vp_nar .byte xx72)) (Int32.toNatClampNeg 3) (vp_nar .byte xx75))))] H := hP
        have hD : va_D A [(a0, .inr (12, [.ref a1, .int 3, .ref a2, .ref a3, .ref a4, .ref a5, .ref a6, .ref a7, .ref a8, .ref a9, .ref a10, .int 0, .int 0, .int 0, .int 0, .int 0, .null, .int 0])), (a1, .inl (k0, 4000, .inl (upd (upd (upd (upd (fun _ => 0) (Int32.toNatClampNeg 0) (vp_nar .byte xx66)) (Int32.toNatClampNeg 1) (vp_nar .byte xx69)) (Int32.toNatClampNeg 2) (vp_nar .byte xx72)) (Int32.toNatClampNeg 3) (vp_nar .byte xx75))))] := hD
        refine lv_aload_n hx hb dX11_type_56 rfl (lv_at hl 1 rfl) ?_
        refine lv_dup hx hb dX11_type_57 rfl ?_
        refine va_get (D := (dC, dI)) (ci := 12) (v := .int 3) (C := RX11) (T := TX11) (N := 18) hx hb hts in_f_X11_type_RX11 hown hK hP 0 rfl rfl 1 (by decide) (hts (.fieldLink RX11 90 "TripleStore" "length" "I") (List.mem_of_getElem? (i := 1) rfl)) (fun _ h9 => h9) rfl dX11_type_58 ?_
        refine lv_iconst (v := 1) hx hb dX11_type_61 (by decide) ?_
        refine lv_iadd hx hb dX11_type_62 ?_
        refine W.eq (congrArg (fun z : Int32 => F0 m 63 ls (.int z :: [.ref a0])) (by decide +kernel : ((3 : Int32) + 1 : Int32) = 4)) ?_
        refine va_put (D := (dC, dI)) (ci := 12) (v := .int 4) (ty := .int) (C := RX11) (T := TX11) (N := 18) hx hb hts in_f_X11_type_RX11 tyX11 tyX11_ok nmX11 hown hK hP hD hS 0 rfl rfl 1 (by decide) (hts (.fieldLink RX11 90 "TripleStore" "length" "I") (List.mem_of_getElem? (i := 1) rfl)) (fun _ h9 => h9) rfl (by decide +kernel) rfl rfl (Nat.le_of_ble_eq_true rfl) dX11_type_63 (fun H locs hP hD hS => ?_)
        have hP : va_P (dC, dI) vwCl [(a0, .inr (12, [.ref a1, .int 4, .ref a2, .ref a3, .ref a4, .ref a5, .ref a6, .ref a7, .ref a8, .ref a9, .ref a10, .int 0, .int 0, .int 0, .int 0, .int 0, .null, .int 0])), (a1, .inl (k0, 4000, .inl (upd (upd (upd (upd (fun _ => 0) (Int32.toNatClampNeg 0) (vp_nar .byte xx66)) (Int32.toNatClampNeg 1) (vp_nar .byte xx69)) (Int32.toNatClampNeg 2) (vp_nar .byte xx72)) (Int32.toNatClampNeg 3) (vp_nar .byte xx75))))] H := hP
        have hD : va_D A [(a0, .inr (12, [.ref a1, .int 4, .ref a2, .ref a3, .ref a4, .ref a5, .ref a6, .ref a7, .ref a8, .ref a9, .ref a10, .int 0, .int 0, .int 0, .int 0, .int 0, .null, .int 0])), (a1, .inl (k0, 4000, .inl (upd (upd (upd (upd (fun _ => 0) (Int32.toNatClampNeg 0) (vp_nar .byte xx66)) (Int32.toNatClampNeg 1) (vp_nar .byte xx69)) (Int32.toNatClampNeg 2) (vp_nar .byte xx72)) (Int32.toNatClampNeg 3) (vp_nar .byte xx75))))] := hD
        refine lv_iinc (v := 2) (lv' := [(4, .int 2), (0, .ref a0), (1, .long y0), (3, .int 7)]) hx hb dX11_type_66 hl (k := 0) rfl (by decide +kernel) (by decide) rfl (fun ls hl => ?_)
        refine lv_goto (tgt := 33) hx hb dX11_type_69 (by decide) ?_
        refine lv_iload hx hb dX11_type_33 (lv_at hl 0 rfl) ?_
        refine lv_if_lt (tgt := 72) hx hb dX11_type_35 (by decide) (fun c9 => absurd c9 (by decide +kernel)) (fun _ => ?_)
        refine lv_aload_n hx hb dX11_type_38 rfl (lv_at hl 1 rfl) ?_
        refine va_get (D := (dC, dI)) (ci := 12) (v := .ref a1) (C := RX11) (T := TX11) (N := 18) hx hb hts in_f_X11_type_RX11 hown hK hP 0 rfl rfl 0 (by decide) (hts (.fieldLink RX11 9 "TripleStore" "text" "[B") (List.mem_of_getElem? (i := 2) rfl)) (fun _ h9 => h9) rfl dX11_type_39 ?_
        refine lv_aload_n hx hb dX11_type_42 rfl (lv_at hl 1 rfl) ?_
        refine va_get (D := (dC, dI)) (ci := 12) (v := .int 4) (C := RX11) (T := TX11) (N := 18) hx hb hts in_f_X11_type_RX11 hown hK hP 0 rfl rfl 1 (by decide) (hts (.fieldLink RX11 90 "TripleStore" "length" "I") (List.mem_of_getElem? (i := 1) rfl)) (fun _ h9 => h9) rfl dX11_type_43 ?_
        refine lv_lload_n hx hb dX11_type_46 rfl (lv_at hl 2 rfl) ?_
        refine lv_bipush (v := 8) hx hb dX11_type_47 (by decide) ?_
        refine lv_iload hx hb dX11_type_49 (lv_at hl 0 rfl) ?_
        refine lv_imul hx hb dX11_type_51 ?_
        refine W.eq (congrArg (fun z : Int32 => F0 m 52 ls (.int z :: [.long y0, .int 4, .ref a1])) (by decide +kernel : ((8 : Int32) * 2 : Int32) = 16)) ?_
        refine lv_lushr hx hb dX11_type_52 rfl ?_
        refine lv_topl (fun yy76 _ => ?_)
        refine lv_l2i hx hb dX11_type_53 rfl ?_
        refine lv_topi (fun xx77 _ => ?_)
        refine lv_i2b hx hb dX11_type_54 rfl ?_
        refine lv_topi (fun xx78 _ => ?_)
        refine va_bast (i := 4) (x := xx78) hx hb hK hP hD hS 1 0 rfl rfl (by unfold vp_in; decide +kernel) dX11_type_55 (fun H locs hP hD hS => ?_)
        have hP : va_P (dC, dI) vwCl [(a0, .inr (12, [.ref a1, .int 4, .ref a2, .ref a3, .ref a4, .ref a5, .ref a6, .ref a7, .ref a8, .ref a9, .ref a10, .int 0, .int 0, .int 0, .int 0, .int 0, .null, .int 0])), (a1, .inl (k0, 4000, .inl (upd (upd (upd (upd (upd (fun _ => 0) (Int32.toNatClampNeg 0) (vp_nar .byte xx66)) (Int32.toNatClampNeg 1) (vp_nar .byte xx69)) (Int32.toNatClampNeg 2) (vp_nar .byte xx72)) (Int32.toNatClampNeg 3) (vp_nar .byte xx75)) (Int32.toNatClampNeg 4) (vp_nar .byte xx78))))] H := hP
        have hD : va_D A [(a0, .inr (12, [.ref a1, .int 4, .ref a2, .ref a3, .ref a4, .ref a5, .ref a6, .ref a7, .ref a8, .ref a9, .ref a10, .int 0, .int 0, .int 0, .int 0, .int 0, .null, .int 0])), (a1, .inl (k0, 4000, .inl (upd (upd (upd (upd (upd (fun _ => 0) (Int32.toNatClampNeg 0) (vp_nar .byte xx66)) (Int32.toNatClampNeg 1) (vp_nar .byte xx69)) (Int32.toNatClampNeg 2) (vp_nar .byte xx72)) (Int32.toNatClampNeg 3) (vp_nar .byte xx75)) (Int32.toNatClampNeg 4) (vp_nar .byte xx78))))] := hD
        refine lv_aload_n hx hb dX11_type_56 rfl (lv_at hl 1 rfl) ?_
        refine lv_dup hx hb dX11_type_57 rfl ?_
        refine va_get (D := (dC, dI)) (ci := 12) (v := .int 4) (C := RX11) (T := TX11) (N := 18) hx hb hts in_f_X11_type_RX11 hown hK hP 0 rfl rfl 1 (by decide) (hts (.fieldLink RX11 90 "TripleStore" "length" "I") (List.mem_of_getElem? (i := 1) rfl)) (fun _ h9 => h9) rfl dX11_type_58 ?_
        refine lv_iconst (v := 1) hx hb dX11_type_61 (by decide) ?_
        refine lv_iadd hx hb dX11_type_62 ?_
        refine W.eq (congrArg (fun z : Int32 => F0 m 63 ls (.int z :: [.ref a0])) (by decide +kernel : ((4 : Int32) + 1 : Int32) = 5)) ?_
        refine va_put (D := (dC, dI)) (ci := 12) (v := .int 5) (ty := .int) (C := RX11) (T := TX11) (N := 18) hx hb hts in_f_X11_type_RX11 tyX11 tyX11_ok nmX11 hown hK hP hD hS 0 rfl rfl 1 (by decide) (hts (.fieldLink RX11 90 "TripleStore" "length" "I") (List.mem_of_getElem? (i := 1) rfl)) (fun _ h9 => h9) rfl (by decide +kernel) rfl rfl (Nat.le_of_ble_eq_true rfl) dX11_type_63 (fun H locs hP hD hS => ?_)
        have hP : va_P (dC, dI) vwCl [(a0, .inr (12, [.ref a1, .int 5, .ref a2, .ref a3, .ref a4, .ref a5, .ref a6, .ref a7, .ref a8, .ref a9, .ref a10, .int 0, .int 0, .int 0, .int 0, .int 0, .null, .int 0])), (a1, .inl (k0, 4000, .inl (upd (upd (upd (upd (upd (fun _ => 0) (Int32.toNatClampNeg 0) (vp_nar .byte xx66)) (Int32.toNatClampNeg 1) (vp_nar .byte xx69)) (Int32.toNatClampNeg 2) (vp_nar .byte xx72)) (Int32.toNatClampNeg 3) (vp_nar .byte xx75)) (Int32.toNatClampNeg 4) (vp_nar .byte xx78))))] H := hP
        have hD : va_D A [(a0, .inr (12, [.ref a1, .int 5, .ref a2, .ref a3, .ref a4, .ref a5, .ref a6, .ref a7, .ref a8, .ref a9, .ref a10, .int 0, .int 0, .int 0, .int 0, .int 0, .null, .int 0])), (a1, .inl (k0, 4000, .inl (upd (upd (upd (upd (upd (fun _ => 0) (Int32.toNatClampNeg 0) (vp_nar .byte xx66)) (Int32.toNatClampNeg 1) (vp_nar .byte xx69)) (Int32.toNatClampNeg 2) (vp_nar .byte xx72)) (Int32.toNatClampNeg 3) (vp_nar .byte xx75)) (Int32.toNatClampNeg 4) (vp_nar .byte xx78))))] := hD
        refine lv_iinc (v := 1) (lv' := [(4, .int 1), (0, .ref a0), (1, .long y0), (3, .int 7)]) hx hb dX11_type_66 hl (k := 0) rfl (by decide +kernel) (by decide) rfl (fun ls hl => ?_)
        refine lv_goto (tgt := 33) hx hb dX11_type_69 (by decide) ?_
        refine lv_iload hx hb dX11_type_33 (lv_at hl 0 rfl) ?_
        refine lv_if_lt (tgt := 72) hx hb dX11_type_35 (by decide) (fun c9 => absurd c9 (by decide +kernel)) (fun _ => ?_)
        refine lv_aload_n hx hb dX11_type_38 rfl (lv_at hl 1 rfl) ?_
        refine va_get (D := (dC, dI)) (ci := 12) (v := .ref a1) (C := RX11) (T := TX11) (N := 18) hx hb hts in_f_X11_type_RX11 hown hK hP 0 rfl rfl 0 (by decide) (hts (.fieldLink RX11 9 "TripleStore" "text" "[B") (List.mem_of_getElem? (i := 2) rfl)) (fun _ h9 => h9) rfl dX11_type_39 ?_
        refine lv_aload_n hx hb dX11_type_42 rfl (lv_at hl 1 rfl) ?_
        refine va_get (D := (dC, dI)) (ci := 12) (v := .int 5) (C := RX11) (T := TX11) (N := 18) hx hb hts in_f_X11_type_RX11 hown hK hP 0 rfl rfl 1 (by decide) (hts (.fieldLink RX11 90 "TripleStore" "length" "I") (List.mem_of_getElem? (i := 1) rfl)) (fun _ h9 => h9) rfl dX11_type_43 ?_
        refine lv_lload_n hx hb dX11_type_46 rfl (lv_at hl 2 rfl) ?_
        refine lv_bipush (v := 8) hx hb dX11_type_47 (by decide) ?_
        refine lv_iload hx hb dX11_type_49 (lv_at hl 0 rfl) ?_
        refine lv_imul hx hb dX11_type_51 ?_
        refine W.eq (congrArg (fun z : Int32 => F0 m 52 ls (.int z :: [.long y0, .int 5, .ref a1])) (by decide +kernel : ((8 : Int32) * 1 : Int32) = 8)) ?_
        refine lv_lushr hx hb dX11_type_52 rfl ?_
        refine lv_topl (fun yy79 _ => ?_)
        refine lv_l2i hx hb dX11_type_53 rfl ?_
        refine lv_topi (fun xx80 _ => ?_)
        refine lv_i2b hx hb dX11_type_54 rfl ?_
        refine lv_topi (fun xx81 _ => ?_)
        refine va_bast (i := 5) (x := xx81) hx hb hK hP hD hS 1 0 rfl rfl (by unfold vp_in; decide +kernel) dX11_type_55 (fun H locs hP hD hS => ?_)
        have hP : va_P (dC, dI) vwCl [(a0, .inr (12, [.ref a1, .int 5, .ref a2, .ref a3, .ref a4, .ref a5, .ref a6, .ref a7, .ref a8, .ref a9, .ref a10, .int 0, .int 0, .int 0, .int 0, .int 0, .null, .int 0])), (a1, .inl (k0, 4000, .inl (upd (upd (upd (upd (upd (upd (fun _ => 0) (Int32.toNatClampNeg 0) (vp_nar .byte xx66)) (Int32.toNatClampNeg 1) (vp_nar .byte xx69)) (Int32.toNatClampNeg 2) (vp_nar .byte xx72)) (Int32.toNatClampNeg 3) (vp_nar .byte xx75)) (Int32.toNatClampNeg 4) (vp_nar .byte xx78)) (Int32.toNatClampNeg 5) (vp_nar .byte xx81))))] H := hP
        have hD : va_D A [(a0, .inr (12, [.ref a1, .int 5, .ref a2, .ref a3, .ref a4, .ref a5, .ref a6, .ref a7, .ref a8, .ref a9, .ref a10, .int 0, .int 0, .int 0, .int 0, .int 0, .null, .int 0])), (a1, .inl (k0, 4000, .inl (upd (upd (upd (upd (upd (upd (fun _ => 0) (Int32.toNatClampNeg 0) (vp_nar .byte xx66)) (Int32.toNatClampNeg 1) (vp_nar .byte xx69)) (Int32.toNatClampNeg 2) (vp_nar .byte xx72)) (Int32.toNatClampNeg 3) (vp_nar .byte xx75)) (Int32.toNatClampNeg 4) (vp_nar .byte xx78)) (Int32.toNatClampNeg 5) (vp_nar .byte xx81))))] := hD
        refine lv_aload_n hx hb dX11_type_56 rfl (lv_at hl 1 rfl) ?_
        refine lv_dup hx hb dX11_type_57 rfl ?_
        refine va_get (D := (dC, dI)) (ci := 12) (v := .int 5) (C := RX11) (T := TX11) (N := 18) hx hb hts in_f_X11_type_RX11 hown hK hP 0 rfl rfl 1 (by decide) (hts (.fieldLink RX11 90 "TripleStore" "length" "I") (List.mem_of_getElem? (i := 1) rfl)) (fun _ h9 => h9) rfl dX11_type_58 ?_
        refine lv_iconst (v := 1) hx hb dX11_type_61 (by decide) ?_
        refine lv_iadd hx hb dX11_type_62 ?_
        refine W.eq (congrArg (fun z : Int32 => F0 m 63 ls (.int z :: [.ref a0])) (by decide +kernel : ((5 : Int32) + 1 : Int32) = 6)) ?_
        refine va_put (D := (dC, dI)) (ci := 12) (v := .int 6) (ty := .int) (C := RX11) (T := TX11) (N := 18) hx hb hts in_f_X11_type_RX11 tyX11 tyX11_ok nmX11 hown hK hP hD hS 0 rfl rfl 1 (by decide) (hts (.fieldLink RX11 90 "TripleStore" "length" "I") (List.mem_of_getElem? (i := 1) rfl)) (fun _ h9 => h9) rfl (by decide +kernel) rfl rfl (Nat.le_of_ble_eq_true rfl) dX11_type_63 (fun H locs hP hD hS => ?_)
        have hP : va_P (dC, dI) vwCl [(a0, .inr (12, [.ref a1, .int 6, .ref a2, .ref a3, .ref a4, .ref a5, .ref a6, .ref a7, .ref a8, .ref a9, .ref a10, .int 0, .int 0, .int 0, .int 0, .int 0, .null, .int 0])), (a1, .inl (k0, 4000, .inl (upd (upd (upd (upd (upd (upd (fun _ => 0) (Int32.toNatClampNeg 0) (vp_nar .byte xx66)) (Int32.toNatClampNeg 1) (vp_nar .byte xx69)) (Int32.toNatClampNeg 2) (vp_nar .byte xx72)) (Int32.toNatClampNeg 3) (vp_nar .byte xx75)) (Int32.toNatClampNeg 4) (vp_nar .byte xx78)) (Int32.toNatClampNeg 5) (vp_nar .byte xx81))))] H := hP
        have hD : va_D A [(a0, .inr (12, [.ref a1, .int 6, .ref a2, .ref a3, .ref a4, .ref a5, .ref a6, .ref a7, .ref a8, .ref a9, .ref a10, .int 0, .int 0, .int 0, .int 0, .int 0, .null, .int 0])), (a1, .inl (k0, 4000, .inl (upd (upd (upd (upd (upd (upd (fun _ => 0) (Int32.toNatClampNeg 0) (vp_nar .byte xx66)) (Int32.toNatClampNeg 1) (vp_nar .byte xx69)) (Int32.toNatClampNeg 2) (vp_nar .byte xx72)) (Int32.toNatClampNeg 3) (vp_nar .byte xx75)) (Int32.toNatClampNeg 4) (vp_nar .byte xx78)) (Int32.toNatClampNeg 5) (vp_nar .byte xx81))))] := hD
        refine lv_iinc (v := 0) (lv' := [(4, .int 0), (0, .ref a0), (1, .long y0), (3, .int 7)]) hx hb dX11_type_66 hl (k := 0) rfl (by decide +kernel) (by decide) rfl (fun ls hl => ?_)
        refine lv_goto (tgt := 33) hx hb dX11_type_69 (by decide) ?_
        refine lv_iload hx hb dX11_type_33 (lv_at hl 0 rfl) ?_
        refine lv_if_lt (tgt := 72) hx hb dX11_type_35 (by decide) (fun c9 => absurd c9 (by decide +kernel)) (fun _ => ?_)
        refine lv_aload_n hx hb dX11_type_38 rfl (lv_at hl 1 rfl) ?_
        refine va_get (D := (dC, dI)) (ci := 12) (v := .ref a1) (C := RX11) (T := TX11) (N := 18) hx hb hts in_f_X11_type_RX11 hown hK hP 0 rfl rfl 0 (by decide) (hts (.fieldLink RX11 9 "TripleStore" "text" "[B") (List.mem_of_getElem? (i := 2) rfl)) (fun _ h9 => h9) rfl dX11_type_39 ?_
        refine lv_aload_n hx hb dX11_type_42 rfl (lv_at hl 1 rfl) ?_
        refine va_get (D := (dC, dI)) (ci := 12) (v := .int 6) (C := RX11) (T := TX11) (N := 18) hx hb hts in_f_X11_type_RX11 hown hK hP 0 rfl rfl 1 (by decide) (hts (.fieldLink RX11 90 "TripleStore" "length" "I") (List.mem_of_getElem? (i := 1) rfl)) (fun _ h9 => h9) rfl dX11_type_43 ?_
        refine lv_lload_n hx hb dX11_type_46 rfl (lv_at hl 2 rfl) ?_
        refine lv_bipush (v := 8) hx hb dX11_type_47 (by decide) ?_
        refine lv_iload hx hb dX11_type_49 (lv_at hl 0 rfl) ?_
        refine lv_imul hx hb dX11_type_51 ?_
        refine W.eq (congrArg (fun z : Int32 => F0 m 52 ls (.int z :: [.long y0, .int 6, .ref a1])) (by decide +kernel : ((8 : Int32) * 0 : Int32) = 0)) ?_
        refine lv_lushr hx hb dX11_type_52 rfl ?_
        refine lv_topl (fun yy82 _ => ?_)
        refine lv_l2i hx hb dX11_type_53 rfl ?_
        refine lv_topi (fun xx83 _ => ?_)
        refine lv_i2b hx hb dX11_type_54 rfl ?_
        refine lv_topi (fun xx84 _ => ?_)
        refine va_bast (i := 6) (x := xx84) hx hb hK hP hD hS 1 0 rfl rfl (by unfold vp_in; decide +kernel) dX11_type_55 (fun H locs hP hD hS => ?_)
        have hP : va_P (dC, dI) vwCl [(a0, .inr (12, [.ref a1, .int 6, .ref a2, .ref a3, .ref a4, .ref a5, .ref a6, .ref a7, .ref a8, .ref a9, .ref a10, .int 0, .int 0, .int 0, .int 0, .int 0, .null, .int 0])), (a1, .inl (k0, 4000, .inl (upd (upd (upd (upd (upd (upd (upd (fun _ => 0) (Int32.toNatClampNeg 0) (vp_nar .byte xx66)) (Int32.toNatClampNeg 1) (vp_nar .byte xx69)) (Int32.toNatClampNeg 2) (vp_nar .byte xx72)) (Int32.toNatClampNeg 3) (vp_nar .byte xx75)) (Int32.toNatClampNeg 4) (vp_nar .byte xx78)) (Int32.toNatClampNeg 5) (vp_nar .byte xx81)) (Int32.toNatClampNeg 6) (vp_nar .byte xx84))))] H := hP
        have hD : va_D A [(a0, .inr (12, [.ref a1, .int 6, .ref a2, .ref a3, .ref a4, .ref a5, .ref a6, .ref a7, .ref a8, .ref a9, .ref a10, .int 0, .int 0, .int 0, .int 0, .int 0, .null, .int 0])), (a1, .inl (k0, 4000, .inl (upd (upd (upd (upd (upd (upd (upd (fun _ => 0) (Int32.toNatClampNeg 0) (vp_nar .byte xx66)) (Int32.toNatClampNeg 1) (vp_nar .byte xx69)) (Int32.toNatClampNeg 2) (vp_nar .byte xx72)) (Int32.toNatClampNeg 3) (vp_nar .byte xx75)) (Int32.toNatClampNeg 4) (vp_nar .byte xx78)) (Int32.toNatClampNeg 5) (vp_nar .byte xx81)) (Int32.toNatClampNeg 6) (vp_nar .byte xx84))))] := hD
        refine lv_aload_n hx hb dX11_type_56 rfl (lv_at hl 1 rfl) ?_
        refine lv_dup hx hb dX11_type_57 rfl ?_
        refine va_get (D := (dC, dI)) (ci := 12) (v := .int 6) (C := RX11) (T := TX11) (N := 18) hx hb hts in_f_X11_type_RX11 hown hK hP 0 rfl rfl 1 (by decide) (hts (.fieldLink RX11 90 "TripleStore" "length" "I") (List.mem_of_getElem? (i := 1) rfl)) (fun _ h9 => h9) rfl dX11_type_58 ?_
        refine lv_iconst (v := 1) hx hb dX11_type_61 (by decide) ?_
        refine lv_iadd hx hb dX11_type_62 ?_
        refine W.eq (congrArg (fun z : Int32 => F0 m 63 ls (.int z :: [.ref a0])) (by decide +kernel : ((6 : Int32) + 1 : Int32) = 7)) ?_
        refine va_put (D := (dC, dI)) (ci := 12) (v := .int 7) (ty := .int) (C := RX11) (T := TX11) (N := 18) hx hb hts in_f_X11_type_RX11 tyX11 tyX11_ok nmX11 hown hK hP hD hS 0 rfl rfl 1 (by decide) (hts (.fieldLink RX11 90 "TripleStore" "length" "I") (List.mem_of_getElem? (i := 1) rfl)) (fun _ h9 => h9) rfl (by decide +kernel) rfl rfl (Nat.le_of_ble_eq_true rfl) dX11_type_63 (fun H locs hP hD hS => ?_)
        have hP : va_P (dC, dI) vwCl [(a0, .inr (12, [.ref a1, .int 7, .ref a2, .ref a3, .ref a4, .ref a5, .ref a6, .ref a7, .ref a8, .ref a9, .ref a10, .int 0, .int 0, .int 0, .int 0, .int 0, .null, .int 0])), (a1, .inl (k0, 4000, .inl (upd (upd (upd (upd (upd (upd (upd (fun _ => 0) (Int32.toNatClampNeg 0) (vp_nar .byte xx66)) (Int32.toNatClampNeg 1) (vp_nar .byte xx69)) (Int32.toNatClampNeg 2) (vp_nar .byte xx72)) (Int32.toNatClampNeg 3) (vp_nar .byte xx75)) (Int32.toNatClampNeg 4) (vp_nar .byte xx78)) (Int32.toNatClampNeg 5) (vp_nar .byte xx81)) (Int32.toNatClampNeg 6) (vp_nar .byte xx84))))] H := hP
        have hD : va_D A [(a0, .inr (12, [.ref a1, .int 7, .ref a2, .ref a3, .ref a4, .ref a5, .ref a6, .ref a7, .ref a8, .ref a9, .ref a10, .int 0, .int 0, .int 0, .int 0, .int 0, .null, .int 0])), (a1, .inl (k0, 4000, .inl (upd (upd (upd (upd (upd (upd (upd (fun _ => 0) (Int32.toNatClampNeg 0) (vp_nar .byte xx66)) (Int32.toNatClampNeg 1) (vp_nar .byte xx69)) (Int32.toNatClampNeg 2) (vp_nar .byte xx72)) (Int32.toNatClampNeg 3) (vp_nar .byte xx75)) (Int32.toNatClampNeg 4) (vp_nar .byte xx78)) (Int32.toNatClampNeg 5) (vp_nar .byte xx81)) (Int32.toNatClampNeg 6) (vp_nar .byte xx84))))] := hD
        refine lv_iinc (v := (-1)) (lv' := [(4, .int (-1)), (0, .ref a0), (1, .long y0), (3, .int 7)]) hx hb dX11_type_66 hl (k := 0) rfl (by decide +kernel) (by decide) rfl (fun ls hl => ?_)
        refine lv_goto (tgt := 33) hx hb dX11_type_69 (by decide) ?_
        refine lv_iload hx hb dX11_type_33 (lv_at hl 0 rfl) ?_
        refine lv_if_lt (tgt := 72) hx hb dX11_type_35 (by decide) (fun _ => ?_) (fun c9 => absurd (by decide +kernel) c9)
        refine lv_aload_n hx hb dX11_type_72 rfl (lv_at hl 1 rfl) ?_
        refine va_get (D := (dC, dI)) (ci := 12) (v := .int 7) (C := RX11) (T := TX11) (N := 18) hx hb hts in_f_X11_type_RX11 hown hK hP 0 rfl rfl 1 (by decide) (hts (.fieldLink RX11 90 "TripleStore" "length" "I") (List.mem_of_getElem? (i := 1) rfl)) (fun _ h9 => h9) rfl dX11_type_73 ?_
        refine W.widen (k := 0) (n := 0) (Nat.le_of_ble_eq_true rfl) (Nat.le_of_ble_eq_true rfl) ?_
        exact W.iret (v := 7) hx hb hr (fun t ht hW => ⟨⟨7, (), rfl, by rw [if_neg (by decide +kernel), if_pos (by decide +kernel)], trivial⟩, hS.F ht⟩) hS.2.2 dX11_type_76
      · refine lv_aload_n hx hb dX11_type_13 rfl (lv_at hl 0 rfl) ?_
        refine va_get (D := (dC, dI)) (ci := 12) (v := .int 0) (C := RX11) (T := TX11) (N := 18) hx hb hts in_f_X11_type_RX11 hown hK hP 0 rfl rfl 1 (by decide) (hts (.fieldLink RX11 90 "TripleStore" "length" "I") (List.mem_of_getElem? (i := 1) rfl)) (fun _ h9 => h9) rfl dX11_type_14 ?_
        refine lv_iload_n hx hb dX11_type_17 rfl (lv_at hl 2 rfl) ?_
        refine lv_iadd hx hb dX11_type_18 ?_
        refine W.eq (congrArg (fun z : Int32 => F0 m 19 ls (.int z :: [])) (by decide +kernel : ((0 : Int32) + 8 : Int32) = 8)) ?_
        refine lv_sipush (v := 4000) hx hb dX11_type_19 (by decide) ?_
        refine lv_icmp_le (tgt := 28) hx hb dX11_type_22 (by decide) (fun _ => ?_) (fun c9 => absurd (by decide +kernel) c9)
        refine lv_iload_n hx hb dX11_type_28 rfl (lv_at hl 2 rfl) ?_
        refine lv_iconst (v := 1) hx hb dX11_type_29 (by decide) ?_
        refine lv_isub hx hb dX11_type_30 ?_
        refine W.eq (congrArg (fun z : Int32 => F0 m 31 ls (.int z :: [])) (by decide +kernel : ((8 : Int32) - 1 : Int32) = 7)) ?_
        refine lv_istore (lv' := [(4, .int 7), (0, .ref a0), (1, .long y0), (3, .int 8)]) hx hb dX11_type_31 hl (by decide) rfl (fun ls hl => ?_)
        refine lv_iload hx hb dX11_type_33 (lv_at hl 0 rfl) ?_
        refine lv_if_lt (tgt := 72) hx hb dX11_type_35 (by decide) (fun c9 => absurd c9 (by decide +kernel)) (fun _ => ?_)
        refine lv_aload_n hx hb dX11_type_38 rfl (lv_at hl 1 rfl) ?_
        refine va_get (D := (dC, dI)) (ci := 12) (v := .ref a1) (C := RX11) (T := TX11) (N := 18) hx hb hts in_f_X11_type_RX11 hown hK hP 0 rfl rfl 0 (by decide) (hts (.fieldLink RX11 9 "TripleStore" "text" "[B") (List.mem_of_getElem? (i := 2) rfl)) (fun _ h9 => h9) rfl dX11_type_39 ?_
        refine lv_aload_n hx hb dX11_type_42 rfl (lv_at hl 1 rfl) ?_
        refine va_get (D := (dC, dI)) (ci := 12) (v := .int 0) (C := RX11) (T := TX11) (N := 18) hx hb hts in_f_X11_type_RX11 hown hK hP 0 rfl rfl 1 (by decide) (hts (.fieldLink RX11 90 "TripleStore" "length" "I") (List.mem_of_getElem? (i := 1) rfl)) (fun _ h9 => h9) rfl dX11_type_43 ?_
        refine lv_lload_n hx hb dX11_type_46 rfl (lv_at hl 2 rfl) ?_
        refine lv_bipush (v := 8) hx hb dX11_type_47 (by decide) ?_
        refine lv_iload hx hb dX11_type_49 (lv_at hl 0 rfl) ?_
        refine lv_imul hx hb dX11_type_51 ?_
        refine W.eq (congrArg (fun z : Int32 => F0 m 52 ls (.int z :: [.long y0, .int 0, .ref a1])) (by decide +kernel : ((8 : Int32) * 7 : Int32) = 56)) ?_
        refine lv_lushr hx hb dX11_type_52 rfl ?_
        refine lv_topl (fun yy85 _ => ?_)
        refine lv_l2i hx hb dX11_type_53 rfl ?_
        refine lv_topi (fun xx86 _ => ?_)
        refine lv_i2b hx hb dX11_type_54 rfl ?_
        refine lv_topi (fun xx87 _ => ?_)
        refine va_bast (i := 0) (x := xx87) hx hb hK hP hD hS 1 0 rfl rfl (by unfold vp_in; decide +kernel) dX11_type_55 (fun H locs hP hD hS => ?_)
        have hP : va_P (dC, dI) vwCl [(a0, .inr (12, [.ref a1, .int 0, .ref a2, .ref a3, .ref a4, .ref a5, .ref a6, .ref a7, .ref a8, .ref a9, .ref a10, .int 0, .int 0, .int 0, .int 0, .int 0, .null, .int 0])), (a1, .inl (k0, 4000, .inl (upd (fun _ => 0) (Int32.toNatClampNeg 0) (vp_nar .byte xx87))))] H := hP
        have hD : va_D A [(a0, .inr (12, [.ref a1, .int 0, .ref a2, .ref a3, .ref a4, .ref a5, .ref a6, .ref a7, .ref a8, .ref a9, .ref a10, .int 0, .int 0, .int 0, .int 0, .int 0, .null, .int 0])), (a1, .inl (k0, 4000, .inl (upd (fun _ => 0) (Int32.toNatClampNeg 0) (vp_nar .byte xx87))))] := hD
        refine lv_aload_n hx hb dX11_type_56 rfl (lv_at hl 1 rfl) ?_
        refine lv_dup hx hb dX11_type_57 rfl ?_
        refine va_get (D := (dC, dI)) (ci := 12) (v := .int 0) (C := RX11) (T := TX11) (N := 18) hx hb hts in_f_X11_type_RX11 hown hK hP 0 rfl rfl 1 (by decide) (hts (.fieldLink RX11 90 "TripleStore" "length" "I") (List.mem_of_getElem? (i := 1) rfl)) (fun _ h9 => h9) rfl dX11_type_58 ?_
        refine lv_iconst (v := 1) hx hb dX11_type_61 (by decide) ?_
        refine lv_iadd hx hb dX11_type_62 ?_
        refine W.eq (congrArg (fun z : Int32 => F0 m 63 ls (.int z :: [.ref a0])) (by decide +kernel : ((0 : Int32) + 1 : Int32) = 1)) ?_
        refine va_put (D := (dC, dI)) (ci := 12) (v := .int 1) (ty := .int) (C := RX11) (T := TX11) (N := 18) hx hb hts in_f_X11_type_RX11 tyX11 tyX11_ok nmX11 hown hK hP hD hS 0 rfl rfl 1 (by decide) (hts (.fieldLink RX11 90 "TripleStore" "length" "I") (List.mem_of_getElem? (i := 1) rfl)) (fun _ h9 => h9) rfl (by decide +kernel) rfl rfl (Nat.le_of_ble_eq_true rfl) dX11_type_63 (fun H locs hP hD hS => ?_)
        have hP : va_P (dC, dI) vwCl [(a0, .inr (12, [.ref a1, .int 1, .ref a2, .ref a3, .ref a4, .ref a5, .ref a6, .ref a7, .ref a8, .ref a9, .ref a10, .int 0, .int 0, .int 0, .int 0, .int 0, .null, .int 0])), (a1, .inl (k0, 4000, .inl (upd (fun _ => 0) (Int32.toNatClampNeg 0) (vp_nar .byte xx87))))] H := hP
        have hD : va_D A [(a0, .inr (12, [.ref a1, .int 1, .ref a2, .ref a3, .ref a4, .ref a5, .ref a6, .ref a7, .ref a8, .ref a9, .ref a10, .int 0, .int 0, .int 0, .int 0, .int 0, .null, .int 0])), (a1, .inl (k0, 4000, .inl (upd (fun _ => 0) (Int32.toNatClampNeg 0) (vp_nar .byte xx87))))] := hD
        refine lv_iinc (v := 6) (lv' := [(4, .int 6), (0, .ref a0), (1, .long y0), (3, .int 8)]) hx hb dX11_type_66 hl (k := 0) rfl (by decide +kernel) (by decide) rfl (fun ls hl => ?_)
        refine lv_goto (tgt := 33) hx hb dX11_type_69 (by decide) ?_
        refine lv_iload hx hb dX11_type_33 (lv_at hl 0 rfl) ?_
        refine lv_if_lt (tgt := 72) hx hb dX11_type_35 (by decide) (fun c9 => absurd c9 (by decide +kernel)) (fun _ => ?_)
        refine lv_aload_n hx hb dX11_type_38 rfl (lv_at hl 1 rfl) ?_
        refine va_get (D := (dC, dI)) (ci := 12) (v := .ref a1) (C := RX11) (T := TX11) (N := 18) hx hb hts in_f_X11_type_RX11 hown hK hP 0 rfl rfl 0 (by decide) (hts (.fieldLink RX11 9 "TripleStore" "text" "[B") (List.mem_of_getElem? (i := 2) rfl)) (fun _ h9 => h9) rfl dX11_type_39 ?_
        refine lv_aload_n hx hb dX11_type_42 rfl (lv_at hl 1 rfl) ?_
        refine va_get (D := (dC, dI)) (ci := 12) (v := .int 1) (C := RX11) (T := TX11) (N := 18) hx hb hts in_f_X11_type_RX11 hown hK hP 0 rfl rfl 1 (by decide) (hts (.fieldLink RX11 90 "TripleStore" "length" "I") (List.mem_of_getElem? (i := 1) rfl)) (fun _ h9 => h9) rfl dX11_type_43 ?_
        refine lv_lload_n hx hb dX11_type_46 rfl (lv_at hl 2 rfl) ?_
        refine lv_bipush (v := 8) hx hb dX11_type_47 (by decide) ?_
        refine lv_iload hx hb dX11_type_49 (lv_at hl 0 rfl) ?_
        refine lv_imul hx hb dX11_type_51 ?_
        refine W.eq (congrArg (fun z : Int32 => F0 m 52 ls (.int z :: [.long y0, .int 1, .ref a1])) (by decide +kernel : ((8 : Int32) * 6 : Int32) = 48)) ?_
        refine lv_lushr hx hb dX11_type_52 rfl ?_
        refine lv_topl (fun yy88 _ => ?_)
        refine lv_l2i hx hb dX11_type_53 rfl ?_
        refine lv_topi (fun xx89 _ => ?_)
        refine lv_i2b hx hb dX11_type_54 rfl ?_
        refine lv_topi (fun xx90 _ => ?_)
        refine va_bast (i := 1) (x := xx90) hx hb hK hP hD hS 1 0 rfl rfl (by unfold vp_in; decide +kernel) dX11_type_55 (fun H locs hP hD hS => ?_)
        have hP : va_P (dC, dI) vwCl [(a0, .inr (12, [.ref a1, .int 1, .ref a2, .ref a3, .ref a4, .ref a5, .ref a6, .ref a7, .ref a8, .ref a9, .ref a10, .int 0, .int 0, .int 0, .int 0, .int 0, .null, .int 0])), (a1, .inl (k0, 4000, .inl (upd (upd (fun _ => 0) (Int32.toNatClampNeg 0) (vp_nar .byte xx87)) (Int32.toNatClampNeg 1) (vp_nar .byte xx90))))] H := hP
        have hD : va_D A [(a0, .inr (12, [.ref a1, .int 1, .ref a2, .ref a3, .ref a4, .ref a5, .ref a6, .ref a7, .ref a8, .ref a9, .ref a10, .int 0, .int 0, .int 0, .int 0, .int 0, .null, .int 0])), (a1, .inl (k0, 4000, .inl (upd (upd (fun _ => 0) (Int32.toNatClampNeg 0) (vp_nar .byte xx87)) (Int32.toNatClampNeg 1) (vp_nar .byte xx90))))] := hD
        refine lv_aload_n hx hb dX11_type_56 rfl (lv_at hl 1 rfl) ?_
        refine lv_dup hx hb dX11_type_57 rfl ?_
        refine va_get (D := (dC, dI)) (ci := 12) (v := .int 1) (C := RX11) (T := TX11) (N := 18) hx hb hts in_f_X11_type_RX11 hown hK hP 0 rfl rfl 1 (by decide) (hts (.fieldLink RX11 90 "TripleStore" "length" "I") (List.mem_of_getElem? (i := 1) rfl)) (fun _ h9 => h9) rfl dX11_type_58 ?_
        refine lv_iconst (v := 1) hx hb dX11_type_61 (by decide) ?_
        refine lv_iadd hx hb dX11_type_62 ?_
        refine W.eq (congrArg (fun z : Int32 => F0 m 63 ls (.int z :: [.ref a0])) (by decide +kernel : ((1 : Int32) + 1 : Int32) = 2)) ?_
        refine va_put (D := (dC, dI)) (ci := 12) (v := .int 2) (ty := .int) (C := RX11) (T := TX11) (N := 18) hx hb hts in_f_X11_type_RX11 tyX11 tyX11_ok nmX11 hown hK hP hD hS 0 rfl rfl 1 (by decide) (hts (.fieldLink RX11 90 "TripleStore" "length" "I") (List.mem_of_getElem? (i := 1) rfl)) (fun _ h9 => h9) rfl (by decide +kernel) rfl rfl (Nat.le_of_ble_eq_true rfl) dX11_type_63 (fun H locs hP hD hS => ?_)
        have hP : va_P (dC, dI) vwCl [(a0, .inr (12, [.ref a1, .int 2, .ref a2, .ref a3, .ref a4, .ref a5, .ref a6, .ref a7, .ref a8, .ref a9, .ref a10, .int 0, .int 0, .int 0, .int 0, .int 0, .null, .int 0])), (a1, .inl (k0, 4000, .inl (upd (upd (fun _ => 0) (Int32.toNatClampNeg 0) (vp_nar .byte xx87)) (Int32.toNatClampNeg 1) (vp_nar .byte xx90))))] H := hP
        have hD : va_D A [(a0, .inr (12, [.ref a1, .int 2, .ref a2, .ref a3, .ref a4, .ref a5, .ref a6, .ref a7, .ref a8, .ref a9, .ref a10, .int 0, .int 0, .int 0, .int 0, .int 0, .null, .int 0])), (a1, .inl (k0, 4000, .inl (upd (upd (fun _ => 0) (Int32.toNatClampNeg 0) (vp_nar .byte xx87)) (Int32.toNatClampNeg 1) (vp_nar .byte xx90))))] := hD
        refine lv_iinc (v := 5) (lv' := [(4, .int 5), (0, .ref a0), (1, .long y0), (3, .int 8)]) hx hb dX11_type_66 hl (k := 0) rfl (by decide +kernel) (by decide) rfl (fun ls hl => ?_)
        refine lv_goto (tgt := 33) hx hb dX11_type_69 (by decide) ?_
        refine lv_iload hx hb dX11_type_33 (lv_at hl 0 rfl) ?_
        refine lv_if_lt (tgt := 72) hx hb dX11_type_35 (by decide) (fun c9 => absurd c9 (by decide +kernel)) (fun _ => ?_)
        refine lv_aload_n hx hb dX11_type_38 rfl (lv_at hl 1 rfl) ?_
        refine va_get (D := (dC, dI)) (ci := 12) (v := .ref a1) (C := RX11) (T := TX11) (N := 18) hx hb hts in_f_X11_type_RX11 hown hK hP 0 rfl rfl 0 (by decide) (hts (.fieldLink RX11 9 "TripleStore" "text" "[B") (List.mem_of_getElem? (i := 2) rfl)) (fun _ h9 => h9) rfl dX11_type_39 ?_
        refine lv_aload_n hx hb dX11_type_42 rfl (lv_at hl 1 rfl) ?_
        refine va_get (D := (dC, dI)) (ci := 12) (v := .int 2) (C := RX11) (T := TX11) (N := 18) hx hb hts in_f_X11_type_RX11 hown hK hP 0 rfl rfl 1 (by decide) (hts (.fieldLink RX11 90 "TripleStore" "length" "I") (List.mem_of_getElem? (i := 1) rfl)) (fun _ h9 => h9) rfl dX11_type_43 ?_
        refine lv_lload_n hx hb dX11_type_46 rfl (lv_at hl 2 rfl) ?_
        refine lv_bipush (v := 8) hx hb dX11_type_47 (by decide) ?_
        refine lv_iload hx hb dX11_type_49 (lv_at hl 0 rfl) ?_
        refine lv_imul hx hb dX11_type_51 ?_
        refine W.eq (congrArg (fun z : Int32 => F0 m 52 ls (.int z :: [.long y0, .int 2, .ref a1])) (by decide +kernel : ((8 : Int32) * 5 : Int32) = 40)) ?_
        refine lv_lushr hx hb dX11_type_52 rfl ?_
        refine lv_topl (fun yy91 _ => ?_)
        refine lv_l2i hx hb dX11_type_53 rfl ?_
        refine lv_topi (fun xx92 _ => ?_)
        refine lv_i2b hx hb dX11_type_54 rfl ?_
        refine lv_topi (fun xx93 _ => ?_)
        refine va_bast (i := 2) (x := xx93) hx hb hK hP hD hS 1 0 rfl rfl (by unfold vp_in; decide +kernel) dX11_type_55 (fun H locs hP hD hS => ?_)
        have hP : va_P (dC, dI) vwCl [(a0, .inr (12, [.ref a1, .int 2, .ref a2, .ref a3, .ref a4, .ref a5, .ref a6, .ref a7, .ref a8, .ref a9, .ref a10, .int 0, .int 0, .int 0, .int 0, .int 0, .null, .int 0])), (a1, .inl (k0, 4000, .inl (upd (upd (upd (fun _ => 0) (Int32.toNatClampNeg 0) (vp_nar .byte xx87)) (Int32.toNatClampNeg 1) (vp_nar .byte xx90)) (Int32.toNatClampNeg 2) (vp_nar .byte xx93))))] H := hP
        have hD : va_D A [(a0, .inr (12, [.ref a1, .int 2, .ref a2, .ref a3, .ref a4, .ref a5, .ref a6, .ref a7, .ref a8, .ref a9, .ref a10, .int 0, .int 0, .int 0, .int 0, .int 0, .null, .int 0])), (a1, .inl (k0, 4000, .inl (upd (upd (upd (fun _ => 0) (Int32.toNatClampNeg 0) (vp_nar .byte xx87)) (Int32.toNatClampNeg 1) (vp_nar .byte xx90)) (Int32.toNatClampNeg 2) (vp_nar .byte xx93))))] := hD
        refine lv_aload_n hx hb dX11_type_56 rfl (lv_at hl 1 rfl) ?_
        refine lv_dup hx hb dX11_type_57 rfl ?_
        refine va_get (D := (dC, dI)) (ci := 12) (v := .int 2) (C := RX11) (T := TX11) (N := 18) hx hb hts in_f_X11_type_RX11 hown hK hP 0 rfl rfl 1 (by decide) (hts (.fieldLink RX11 90 "TripleStore" "length" "I") (List.mem_of_getElem? (i := 1) rfl)) (fun _ h9 => h9) rfl dX11_type_58 ?_
        refine lv_iconst (v := 1) hx hb dX11_type_61 (by decide) ?_
        refine lv_iadd hx hb dX11_type_62 ?_
        refine W.eq (congrArg (fun z : Int32 => F0 m 63 ls (.int z :: [.ref a0])) (by decide +kernel : ((2 : Int32) + 1 : Int32) = 3)) ?_
        refine va_put (D := (dC, dI)) (ci := 12) (v := .int 3) (ty := .int) (C := RX11) (T := TX11) (N := 18) hx hb hts in_f_X11_type_RX11 tyX11 tyX11_ok nmX11 hown hK hP hD hS 0 rfl rfl 1 (by decide) (hts (.fieldLink RX11 90 "TripleStore" "length" "I") (List.mem_of_getElem? (i := 1) rfl)) (fun _ h9 => h9) rfl (by decide +kernel) rfl rfl (Nat.le_of_ble_eq_true rfl) dX11_type_63 (fun H locs hP hD hS => ?_)
        have hP : va_P (dC, dI) vwCl [(a0, .inr (12, [.ref a1, .int 3, .ref a2, .ref a3, .ref a4, .ref a5, .ref a6, .ref a7, .ref a8, .ref a9, .ref a10, .int 0, .int 0, .int 0, .int 0, .int 0, .null, .int 0])), (a1, .inl (k0, 4000, .inl (upd (upd (upd (fun _ => 0) (Int32.toNatClampNeg 0) (vp_nar .byte xx87)) (Int32.toNatClampNeg 1) (vp_nar .byte xx90)) (Int32.toNatClampNeg 2) (vp_nar .byte xx93))))] H := hP
        have hD : va_D A [(a0, .inr (12, [.ref a1, .int 3, .ref a2, .ref a3, .ref a4, .ref a5, .ref a6, .ref a7, .ref a8, .ref a9, .ref a10, .int 0, .int 0, .int 0, .int 0, .int 0, .null, .int 0])), (a1, .inl (k0, 4000, .inl (upd (upd (upd (fun _ => 0) (Int32.toNatClampNeg 0) (vp_nar .byte xx87)) (Int32.toNatClampNeg 1) (vp_nar .byte xx90)) (Int32.toNatClampNeg 2) (vp_nar .byte xx93))))] := hD
        refine lv_iinc (v := 4) (lv' := [(4, .int 4), (0, .ref a0), (1, .long y0), (3, .int 8)]) hx hb dX11_type_66 hl (k := 0) rfl (by decide +kernel) (by decide) rfl (fun ls hl => ?_)
        refine lv_goto (tgt := 33) hx hb dX11_type_69 (by decide) ?_
        refine lv_iload hx hb dX11_type_33 (lv_at hl 0 rfl) ?_
        refine lv_if_lt (tgt := 72) hx hb dX11_type_35 (by decide) (fun c9 => absurd c9 (by decide +kernel)) (fun _ => ?_)
        refine lv_aload_n hx hb dX11_type_38 rfl (lv_at hl 1 rfl) ?_
        refine va_get (D := (dC, dI)) (ci := 12) (v := .ref a1) (C := RX11) (T := TX11) (N := 18) hx hb hts in_f_X11_type_RX11 hown hK hP 0 rfl rfl 0 (by decide) (hts (.fieldLink RX11 9 "TripleStore" "text" "[B") (List.mem_of_getElem? (i := 2) rfl)) (fun _ h9 => h9) rfl dX11_type_39 ?_
        refine lv_aload_n hx hb dX11_type_42 rfl (lv_at hl 1 rfl) ?_
        refine va_get (D := (dC, dI)) (ci := 12) (v := .int 3) (C := RX11) (T := TX11) (N := 18) hx hb hts in_f_X11_type_RX11 hown hK hP 0 rfl rfl 1 (by decide) (hts (.fieldLink RX11 90 "TripleStore" "length" "I") (List.mem_of_getElem? (i := 1) rfl)) (fun _ h9 => h9) rfl dX11_type_43 ?_
        refine lv_lload_n hx hb dX11_type_46 rfl (lv_at hl 2 rfl) ?_
        refine lv_bipush (v := 8) hx hb dX11_type_47 (by decide) ?_
        refine lv_iload hx hb dX11_type_49 (lv_at hl 0 rfl) ?_
        refine lv_imul hx hb dX11_type_51 ?_
        refine W.eq (congrArg (fun z : Int32 => F0 m 52 ls (.int z :: [.long y0, .int 3, .ref a1])) (by decide +kernel : ((8 : Int32) * 4 : Int32) = 32)) ?_
        refine lv_lushr hx hb dX11_type_52 rfl ?_
        refine lv_topl (fun yy94 _ => ?_)
        refine lv_l2i hx hb dX11_type_53 rfl ?_
        refine lv_topi (fun xx95 _ => ?_)
        refine lv_i2b hx hb dX11_type_54 rfl ?_
        refine lv_topi (fun xx96 _ => ?_)
        refine va_bast (i := 3) (x := xx96) hx hb hK hP hD hS 1 0 rfl rfl (by unfold vp_in; decide +kernel) dX11_type_55 (fun H locs hP hD hS => ?_)
        have hP : va_P (dC, dI) vwCl [(a0, .inr (12, [.ref a1, .int 3, .ref a2, .ref a3, .ref a4, .ref a5, .ref a6, .ref a7, .ref a8, .ref a9, .ref a10, .int 0, .int 0, .int 0, .int 0, .int 0, .null, .int 0])), (a1, .inl (k0, 4000, .inl (upd (upd (upd (upd (fun _ => 0) (Int32.toNatClampNeg 0) (vp_nar .byte xx87)) (Int32.toNatClampNeg 1) (vp_nar .byte xx90)) (Int32.toNatClampNeg 2) (vp_nar .byte xx93)) (Int32.toNatClampNeg 3) (vp_nar .byte xx96))))] H := hP
        have hD : va_D A [(a0, .inr (12, [.ref a1, .int 3, .ref a2, .ref a3, .ref a4, .ref a5, .ref a6, .ref a7, .ref a8, .ref a9, .ref a10, .int 0, .int 0, .int 0, .int 0, .int 0, .null, .int 0])), (a1, .inl (k0, 4000, .inl (upd (upd (upd (upd (fun _ => 0) (Int32.toNatClampNeg 0) (vp_nar .byte xx87)) (Int32.toNatClampNeg 1) (vp_nar .byte xx90)) (Int32.toNatClampNeg 2) (vp_nar .byte xx93)) (Int32.toNatClampNeg 3) (vp_nar .byte xx96))))] := hD
        refine lv_aload_n hx hb dX11_type_56 rfl (lv_at hl 1 rfl) ?_
        refine lv_dup hx hb dX11_type_57 rfl ?_
        refine va_get (D := (dC, dI)) (ci := 12) (v := .int 3) (C := RX11) (T := TX11) (N := 18) hx hb hts in_f_X11_type_RX11 hown hK hP 0 rfl rfl 1 (by decide) (hts (.fieldLink RX11 90 "TripleStore" "length" "I") (List.mem_of_getElem? (i := 1) rfl)) (fun _ h9 => h9) rfl dX11_type_58 ?_
        refine lv_iconst (v := 1) hx hb dX11_type_61 (by decide) ?_
        refine lv_iadd hx hb dX11_type_62 ?_
        refine W.eq (congrArg (fun z : Int32 => F0 m 63 ls (.int z :: [.ref a0])) (by decide +kernel : ((3 : Int32) + 1 : Int32) = 4)) ?_
        refine va_put (D := (dC, dI)) (ci := 12) (v := .int 4) (ty := .int) (C := RX11) (T := TX11) (N := 18) hx hb hts in_f_X11_type_RX11 tyX11 tyX11_ok nmX11 hown hK hP hD hS 0 rfl rfl 1 (by decide) (hts (.fieldLink RX11 90 "TripleStore" "length" "I") (List.mem_of_getElem? (i := 1) rfl)) (fun _ h9 => h9) rfl (by decide +kernel) rfl rfl (Nat.le_of_ble_eq_true rfl) dX11_type_63 (fun H locs hP hD hS => ?_)
        have hP : va_P (dC, dI) vwCl [(a0, .inr (12, [.ref a1, .int 4, .ref a2, .ref a3, .ref a4, .ref a5, .ref a6, .ref a7, .ref a8, .ref a9, .ref a10, .int 0, .int 0, .int 0, .int 0, .int 0, .null, .int 0])), (a1, .inl (k0, 4000, .inl (upd (upd (upd (upd (fun _ => 0) (Int32.toNatClampNeg 0) (vp_nar .byte xx87)) (Int32.toNatClampNeg 1) (vp_nar .byte xx90)) (Int32.toNatClampNeg 2) (vp_nar .byte xx93)) (Int32.toNatClampNeg 3) (vp_nar .byte xx96))))] H := hP
        have hD : va_D A [(a0, .inr (12, [.ref a1, .int 4, .ref a2, .ref a3, .ref a4, .ref a5, .ref a6, .ref a7, .ref a8, .ref a9, .ref a10, .int 0, .int 0, .int 0, .int 0, .int 0, .null, .int 0])), (a1, .inl (k0, 4000, .inl (upd (upd (upd (upd (fun _ => 0) (Int32.toNatClampNeg 0) (vp_nar .byte xx87)) (Int32.toNatClampNeg 1) (vp_nar .byte xx90)) (Int32.toNatClampNeg 2) (vp_nar .byte xx93)) (Int32.toNatClampNeg 3) (vp_nar .byte xx96))))] := hD
        refine lv_iinc (v := 3) (lv' := [(4, .int 3), (0, .ref a0), (1, .long y0), (3, .int 8)]) hx hb dX11_type_66 hl (k := 0) rfl (by decide +kernel) (by decide) rfl (fun ls hl => ?_)
        refine lv_goto (tgt := 33) hx hb dX11_type_69 (by decide) ?_
        refine lv_iload hx hb dX11_type_33 (lv_at hl 0 rfl) ?_
        refine lv_if_lt (tgt := 72) hx hb dX11_type_35 (by decide) (fun c9 => absurd c9 (by decide +kernel)) (fun _ => ?_)
        refine lv_aload_n hx hb dX11_type_38 rfl (lv_at hl 1 rfl) ?_
        refine va_get (D := (dC, dI)) (ci := 12) (v := .ref a1) (C := RX11) (T := TX11) (N := 18) hx hb hts in_f_X11_type_RX11 hown hK hP 0 rfl rfl 0 (by decide) (hts (.fieldLink RX11 9 "TripleStore" "text" "[B") (List.mem_of_getElem? (i := 2) rfl)) (fun _ h9 => h9) rfl dX11_type_39 ?_
        refine lv_aload_n hx hb dX11_type_42 rfl (lv_at hl 1 rfl) ?_
        refine va_get (D := (dC, dI)) (ci := 12) (v := .int 4) (C := RX11) (T := TX11) (N := 18) hx hb hts in_f_X11_type_RX11 hown hK hP 0 rfl rfl 1 (by decide) (hts (.fieldLink RX11 90 "TripleStore" "length" "I") (List.mem_of_getElem? (i := 1) rfl)) (fun _ h9 => h9) rfl dX11_type_43 ?_
        refine lv_lload_n hx hb dX11_type_46 rfl (lv_at hl 2 rfl) ?_
        refine lv_bipush (v := 8) hx hb dX11_type_47 (by decide) ?_
        refine lv_iload hx hb dX11_type_49 (lv_at hl 0 rfl) ?_
        refine lv_imul hx hb dX11_type_51 ?_
        refine W.eq (congrArg (fun z : Int32 => F0 m 52 ls (.int z :: [.long y0, .int 4, .ref a1])) (by decide +kernel : ((8 : Int32) * 3 : Int32) = 24)) ?_
        refine lv_lushr hx hb dX11_type_52 rfl ?_
        refine lv_topl (fun yy97 _ => ?_)
        refine lv_l2i hx hb dX11_type_53 rfl ?_
        refine lv_topi (fun xx98 _ => ?_)
        refine lv_i2b hx hb dX11_type_54 rfl ?_
        refine lv_topi (fun xx99 _ => ?_)
        refine va_bast (i := 4) (x := xx99) hx hb hK hP hD hS 1 0 rfl rfl (by unfold vp_in; decide +kernel) dX11_type_55 (fun H locs hP hD hS => ?_)
        have hP : va_P (dC, dI) vwCl [(a0, .inr (12, [.ref a1, .int 4, .ref a2, .ref a3, .ref a4, .ref a5, .ref a6, .ref a7, .ref a8, .ref a9, .ref a10, .int 0, .int 0, .int 0, .int 0, .int 0, .null, .int 0])), (a1, .inl (k0, 4000, .inl (upd (upd (upd (upd (upd (fun _ => 0) (Int32.toNatClampNeg 0) (vp_nar .byte xx87)) (Int32.toNatClampNeg 1) (vp_nar .byte xx90)) (Int32.toNatClampNeg 2) (vp_nar .byte xx93)) (Int32.toNatClampNeg 3) (vp_nar .byte xx96)) (Int32.toNatClampNeg 4) (vp_nar .byte xx99))))] H := hP
        have hD : va_D A [(a0, .inr (12, [.ref a1, .int 4, .ref a2, .ref a3, .ref a4, .ref a5, .ref a6, .ref a7, .ref a8, .ref a9, .ref a10, .int 0, .int 0, .int 0, .int 0, .int 0, .null, .int 0])), (a1, .inl (k0, 4000, .inl (upd (upd (upd (upd (upd (fun _ => 0) (Int32.toNatClampNeg 0) (vp_nar .byte xx87)) (Int32.toNatClampNeg 1) (vp_nar .byte xx90)) (Int32.toNatClampNeg 2) (vp_nar .byte xx93)) (Int32.toNatClampNeg 3) (vp_nar .byte xx96)) (Int32.toNatClampNeg 4) (vp_nar .byte xx99))))] := hD
        refine lv_aload_n hx hb dX11_type_56 rfl (lv_at hl 1 rfl) ?_
        refine lv_dup hx hb dX11_type_57 rfl ?_
        refine va_get (D := (dC, dI)) (ci := 12) (v := .int 4) (C := RX11) (T := TX11) (N := 18) hx hb hts in_f_X11_type_RX11 hown hK hP 0 rfl rfl 1 (by decide) (hts (.fieldLink RX11 90 "TripleStore" "length" "I") (List.mem_of_getElem? (i := 1) rfl)) (fun _ h9 => h9) rfl dX11_type_58 ?_
        refine lv_iconst (v := 1) hx hb dX11_type_61 (by decide) ?_
        refine lv_iadd hx hb dX11_type_62 ?_
        refine W.eq (congrArg (fun z : Int32 => F0 m 63 ls (.int z :: [.ref a0])) (by decide +kernel : ((4 : Int32) + 1 : Int32) = 5)) ?_
        refine va_put (D := (dC, dI)) (ci := 12) (v := .int 5) (ty := .int) (C := RX11) (T := TX11) (N := 18) hx hb hts in_f_X11_type_RX11 tyX11 tyX11_ok nmX11 hown hK hP hD hS 0 rfl rfl 1 (by decide) (hts (.fieldLink RX11 90 "TripleStore" "length" "I") (List.mem_of_getElem? (i := 1) rfl)) (fun _ h9 => h9) rfl (by decide +kernel) rfl rfl (Nat.le_of_ble_eq_true rfl) dX11_type_63 (fun H locs hP hD hS => ?_)
        have hP : va_P (dC, dI) vwCl [(a0, .inr (12, [.ref a1, .int 5, .ref a2, .ref a3, .ref a4, .ref a5, .ref a6, .ref a7, .ref a8, .ref a9, .ref a10, .int 0, .int 0, .int 0, .int 0, .int 0, .null, .int 0])), (a1, .inl (k0, 4000, .inl (upd (upd (upd (upd (upd (fun _ => 0) (Int32.toNatClampNeg 0) (vp_nar .byte xx87)) (Int32.toNatClampNeg 1) (vp_nar .byte xx90)) (Int32.toNatClampNeg 2) (vp_nar .byte xx93)) (Int32.toNatClampNeg 3) (vp_nar .byte xx96)) (Int32.toNatClampNeg 4) (vp_nar .byte xx99))))] H := hP
        have hD : va_D A [(a0, .inr (12, [.ref a1, .int 5, .ref a2, .ref a3, .ref a4, .ref a5, .ref a6, .ref a7, .ref a8, .ref a9, .ref a10, .int 0, .int 0, .int 0, .int 0, .int 0, .null, .int 0])), (a1, .inl (k0, 4000, .inl (upd (upd (upd (upd (upd (fun _ => 0) (Int32.toNatClampNeg 0) (vp_nar .byte xx87)) (Int32.toNatClampNeg 1) (vp_nar .byte xx90)) (Int32.toNatClampNeg 2) (vp_nar .byte xx93)) (Int32.toNatClampNeg 3) (vp_nar .byte xx96)) (Int32.toNatClampNeg 4) (vp_nar .byte xx99))))] := hD
        refine lv_iinc (v := 2) (lv' := [(4, .int 2), (0, .ref a0), (1, .long y0), (3, .int 8)]) hx hb dX11_type_66 hl (k := 0) rfl (by decide +kernel) (by decide) rfl (fun ls hl => ?_)
        refine lv_goto (tgt := 33) hx hb dX11_type_69 (by decide) ?_
        refine lv_iload hx hb dX11_type_33 (lv_at hl 0 rfl) ?_
        refine lv_if_lt (tgt := 72) hx hb dX11_type_35 (by decide) (fun c9 => absurd c9 (by decide +kernel)) (fun _ => ?_)
        refine lv_aload_n hx hb dX11_type_38 rfl (lv_at hl 1 rfl) ?_
        refine va_get (D := (dC, dI)) (ci := 12) (v := .ref a1) (C := RX11) (T := TX11) (N := 18) hx hb hts in_f_X11_type_RX11 hown hK hP 0 rfl rfl 0 (by decide) (hts (.fieldLink RX11 9 "TripleStore" "text" "[B") (List.mem_of_getElem? (i := 2) rfl)) (fun _ h9 => h9) rfl dX11_type_39 ?_
        refine lv_aload_n hx hb dX11_type_42 rfl (lv_at hl 1 rfl) ?_
        refine va_get (D := (dC, dI)) (ci := 12) (v := .int 5) (C := RX11) (T := TX11) (N := 18) hx hb hts in_f_X11_type_RX11 hown hK hP 0 rfl rfl 1 (by decide) (hts (.fieldLink RX11 90 "TripleStore" "length" "I") (List.mem_of_getElem? (i := 1) rfl)) (fun _ h9 => h9) rfl dX11_type_43 ?_
        refine lv_lload_n hx hb dX11_type_46 rfl (lv_at hl 2 rfl) ?_
        refine lv_bipush (v := 8) hx hb dX11_type_47 (by decide) ?_
        refine lv_iload hx hb dX11_type_49 (lv_at hl 0 rfl) ?_
        refine lv_imul hx hb dX11_type_51 ?_
        refine W.eq (congrArg (fun z : Int32 => F0 m 52 ls (.int z :: [.long y0, .int 5, .ref a1])) (by decide +kernel : ((8 : Int32) * 2 : Int32) = 16)) ?_
        refine lv_lushr hx hb dX11_type_52 rfl ?_
        refine lv_topl (fun yy100 _ => ?_)
        refine lv_l2i hx hb dX11_type_53 rfl ?_
        refine lv_topi (fun xx101 _ => ?_)
        refine lv_i2b hx hb dX11_type_54 rfl ?_
        refine lv_topi (fun xx102 _ => ?_)
        refine va_bast (i := 5) (x := xx102) hx hb hK hP hD hS 1 0 rfl rfl (by unfold vp_in; decide +kernel) dX11_type_55 (fun H locs hP hD hS => ?_)
        have hP : va_P (dC, dI) vwCl [(a0, .inr (12, [.ref a1, .int 5, .ref a2, .ref a3, .ref a4, .ref a5, .ref a6, .ref a7, .ref a8, .ref a9, .ref a10, .int 0, .int 0, .int 0, .int 0, .int 0, .null, .int 0])), (a1, .inl (k0, 4000, .inl (upd (upd (upd (upd (upd (upd (fun _ => 0) (Int32.toNatClampNeg 0) (vp_nar .byte xx87)) (Int32.toNatClampNeg 1) (vp_nar .byte xx90)) (Int32.toNatClampNeg 2) (vp_nar .byte xx93)) (Int32.toNatClampNeg 3) (vp_nar .byte xx96)) (Int32.toNatClampNeg 4) (vp_nar .byte xx99)) (Int32.toNatClampNeg 5) (vp_nar .byte xx102))))] H := hP
        have hD : va_D A [(a0, .inr (12, [.ref a1, .int 5, .ref a2, .ref a3, .ref a4, .ref a5, .ref a6, .ref a7, .ref a8, .ref a9, .ref a10, .int 0, .int 0, .int 0, .int 0, .int 0, .null, .int 0])), (a1, .inl (k0, 4000, .inl (upd (upd (upd (upd (upd (upd (fun _ => 0) (Int32.toNatClampNeg 0) (vp_nar .byte xx87)) (Int32.toNatClampNeg 1) (vp_nar .byte xx90)) (Int32.toNatClampNeg 2) (vp_nar .byte xx93)) (Int32.toNatClampNeg 3) (vp_nar .byte xx96)) (Int32.toNatClampNeg 4) (vp_nar .byte xx99)) (Int32.toNatClampNeg 5) (vp_nar .byte xx102))))] := hD
        refine lv_aload_n hx hb dX11_type_56 rfl (lv_at hl 1 rfl) ?_
        refine lv_dup hx hb dX11_type_57 rfl ?_
        refine va_get (D := (dC, dI)) (ci := 12) (v := .int 5) (C := RX11) (T := TX11) (N := 18) hx hb hts in_f_X11_type_RX11 hown hK hP 0 rfl rfl 1 (by decide) (hts (.fieldLink RX11 90 "TripleStore" "length" "I") (List.mem_of_getElem? (i := 1) rfl)) (fun _ h9 => h9) rfl dX11_type_58 ?_
        refine lv_iconst (v := 1) hx hb dX11_type_61 (by decide) ?_
        refine lv_iadd hx hb dX11_type_62 ?_
        refine W.eq (congrArg (fun z : Int32 => F0 m 63 ls (.int z :: [.ref a0])) (by decide +kernel : ((5 : Int32) + 1 : Int32) = 6)) ?_
        refine va_put (D := (dC, dI)) (ci := 12) (v := .int 6) (ty := .int) (C := RX11) (T := TX11) (N := 18) hx hb hts in_f_X11_type_RX11 tyX11 tyX11_ok nmX11 hown hK hP hD hS 0 rfl rfl 1 (by decide) (hts (.fieldLink RX11 90 "TripleStore" "length" "I") (List.mem_of_getElem? (i := 1) rfl)) (fun _ h9 => h9) rfl (by decide +kernel) rfl rfl (Nat.le_of_ble_eq_true rfl) dX11_type_63 (fun H locs hP hD hS => ?_)
        have hP : va_P (dC, dI) vwCl [(a0, .inr (12, [.ref a1, .int 6, .ref a2, .ref a3, .ref a4, .ref a5, .ref a6, .ref a7, .ref a8, .ref a9, .ref a10, .int 0, .int 0, .int 0, .int 0, .int 0, .null, .int 0])), (a1, .inl (k0, 4000, .inl (upd (upd (upd (upd (upd (upd (fun _ => 0) (Int32.toNatClampNeg 0) (vp_nar .byte xx87)) (Int32.toNatClampNeg 1) (vp_nar .byte xx90)) (Int32.toNatClampNeg 2) (vp_nar .byte xx93)) (Int32.toNatClampNeg 3) (vp_nar .byte xx96)) (Int32.toNatClampNeg 4) (vp_nar .byte xx99)) (Int32.toNatClampNeg 5) (vp_nar .byte xx102))))] H := hP
        have hD : va_D A [(a0, .inr (12, [.ref a1, .int 6, .ref a2, .ref a3, .ref a4, .ref a5, .ref a6, .ref a7, .ref a8, .ref a9, .ref a10, .int 0, .int 0, .int 0, .int 0, .int 0, .null, .int 0])), (a1, .inl (k0, 4000, .inl (upd (upd (upd (upd (upd (upd (fun _ => 0) (Int32.toNatClampNeg 0) (vp_nar .byte xx87)) (Int32.toNatClampNeg 1) (vp_nar .byte xx90)) (Int32.toNatClampNeg 2) (vp_nar .byte xx93)) (Int32.toNatClampNeg 3) (vp_nar .byte xx96)) (Int32.toNatClampNeg 4) (vp_nar .byte xx99)) (Int32.toNatClampNeg 5) (vp_nar .byte xx102))))] := hD
        refine lv_iinc (v := 1) (lv' := [(4, .int 1), (0, .ref a0), (1, .long y0), (3, .int 8)]) hx hb dX11_type_66 hl (k := 0) rfl (by decide +kernel) (by decide) rfl (fun ls hl => ?_)
        refine lv_goto (tgt := 33) hx hb dX11_type_69 (by decide) ?_
        refine lv_iload hx hb dX11_type_33 (lv_at hl 0 rfl) ?_
        refine lv_if_lt (tgt := 72) hx hb dX11_type_35 (by decide) (fun c9 => absurd c9 (by decide +kernel)) (fun _ => ?_)
        refine lv_aload_n hx hb dX11_type_38 rfl (lv_at hl 1 rfl) ?_
        refine va_get (D := (dC, dI)) (ci := 12) (v := .ref a1) (C := RX11) (T := TX11) (N := 18) hx hb hts in_f_X11_type_RX11 hown hK hP 0 rfl rfl 0 (by decide) (hts (.fieldLink RX11 9 "TripleStore" "text" "[B") (List.mem_of_getElem? (i := 2) rfl)) (fun _ h9 => h9) rfl dX11_type_39 ?_
        refine lv_aload_n hx hb dX11_type_42 rfl (lv_at hl 1 rfl) ?_
        refine va_get (D := (dC, dI)) (ci := 12) (v := .int 6) (C := RX11) (T := TX11) (N := 18) hx hb hts in_f_X11_type_RX11 hown hK hP 0 rfl rfl 1 (by decide) (hts (.fieldLink RX11 90 "TripleStore" "length" "I") (List.mem_of_getElem? (i := 1) rfl)) (fun _ h9 => h9) rfl dX11_type_43 ?_
        refine lv_lload_n hx hb dX11_type_46 rfl (lv_at hl 2 rfl) ?_
        refine lv_bipush (v := 8) hx hb dX11_type_47 (by decide) ?_
        refine lv_iload hx hb dX11_type_49 (lv_at hl 0 rfl) ?_
        refine lv_imul hx hb dX11_type_51 ?_
        refine W.eq (congrArg (fun z : Int32 => F0 m 52 ls (.int z :: [.long y0, .int 6, .ref a1])) (by decide +kernel : ((8 : Int32) * 1 : Int32) = 8)) ?_
        refine lv_lushr hx hb dX11_type_52 rfl ?_
        refine lv_topl (fun yy103 _ => ?_)
        refine lv_l2i hx hb dX11_type_53 rfl ?_
        refine lv_topi (fun xx104 _ => ?_)
        refine lv_i2b hx hb dX11_type_54 rfl ?_
        refine lv_topi (fun xx105 _ => ?_)
        refine va_bast (i := 6) (x := xx105) hx hb hK hP hD hS 1 0 rfl rfl (by unfold vp_in; decide +kernel) dX11_type_55 (fun H locs hP hD hS => ?_)
        have hP : va_P (dC, dI) vwCl [(a0, .inr (12, [.ref a1, .int 6, .ref a2, .ref a3, .ref a4, .ref a5, .ref a6, .ref a7, .ref a8, .ref a9, .ref a10, .int 0, .int 0, .int 0, .int 0, .int 0, .null, .int 0])), (a1, .inl (k0, 4000, .inl (upd (upd (upd (upd (upd (upd (upd (fun _ => 0) (Int32.toNatClampNeg 0) (vp_nar .byte xx87)) (Int32.toNatClampNeg 1) (vp_nar .byte xx90)) (Int32.toNatClampNeg 2) (vp_nar .byte xx93)) (Int32.toNatClampNeg 3) (vp_nar .byte xx96)) (Int32.toNatClampNeg 4) (vp_nar .byte xx99)) (Int32.toNatClampNeg 5) (vp_nar .byte xx102)) (Int32.toNatClampNeg 6) (vp_nar .byte xx105))))] H := hP
        have hD : va_D A [(a0, .inr (12, [.ref a1, .int 6, .ref a2, .ref a3, .ref a4, .ref a5, .ref a6, .ref a7, .ref a8, .ref a9, .ref a10, .int 0, .int 0, .int 0, .int 0, .int 0, .null, .int 0])), (a1, .inl (k0, 4000, .inl (upd (upd (upd (upd (upd (upd (upd (fun _ => 0) (Int32.toNatClampNeg 0) (vp_nar .byte xx87)) (Int32.toNatClampNeg 1) (vp_nar .byte xx90)) (Int32.toNatClampNeg 2) (vp_nar .byte xx93)) (Int32.toNatClampNeg 3) (vp_nar .byte xx96)) (Int32.toNatClampNeg 4) (vp_nar .byte xx99)) (Int32.toNatClampNeg 5) (vp_nar .byte xx102)) (Int32.toNatClampNeg 6) (vp_nar .byte xx105))))] := hD
        refine lv_aload_n hx hb dX11_type_56 rfl (lv_at hl 1 rfl) ?_
        refine lv_dup hx hb dX11_type_57 rfl ?_
        refine va_get (D := (dC, dI)) (ci := 12) (v := .int 6) (C := RX11) (T := TX11) (N := 18) hx hb hts in_f_X11_type_RX11 hown hK hP 0 rfl rfl 1 (by decide) (hts (.fieldLink RX11 90 "TripleStore" "length" "I") (List.mem_of_getElem? (i := 1) rfl)) (fun _ h9 => h9) rfl dX11_type_58 ?_
        refine lv_iconst (v := 1) hx hb dX11_type_61 (by decide) ?_
        refine lv_iadd hx hb dX11_type_62 ?_
        refine W.eq (congrArg (fun z : Int32 => F0 m 63 ls (.int z :: [.ref a0])) (by decide +kernel : ((6 : Int32) + 1 : Int32) = 7)) ?_
        refine va_put (D := (dC, dI)) (ci := 12) (v := .int 7) (ty := .int) (C := RX11) (T := TX11) (N := 18) hx hb hts in_f_X11_type_RX11 tyX11 tyX11_ok nmX11 hown hK hP hD hS 0 rfl rfl 1 (by decide) (hts (.fieldLink RX11 90 "TripleStore" "length" "I") (List.mem_of_getElem? (i := 1) rfl)) (fun _ h9 => h9) rfl (by decide +kernel) rfl rfl (Nat.le_of_ble_eq_true rfl) dX11_type_63 (fun H locs hP hD hS => ?_)
        have hP : va_P (dC, dI) vwCl [(a0, .inr (12, [.ref a1, .int 7, .ref a2, .ref a3, .ref a4, .ref a5, .ref a6, .ref a7, .ref a8, .ref a9, .ref a10, .int 0, .int 0, .int 0, .int 0, .int 0, .null, .int 0])), (a1, .inl (k0, 4000, .inl (upd (upd (upd (upd (upd (upd (upd (fun _ => 0) (Int32.toNatClampNeg 0) (vp_nar .byte xx87)) (Int32.toNatClampNeg 1) (vp_nar .byte xx90)) (Int32.toNatClampNeg 2) (vp_nar .byte xx93)) (Int32.toNatClampNeg 3) (vp_nar .byte xx96)) (Int32.toNatClampNeg 4) (vp_nar .byte xx99)) (Int32.toNatClampNeg 5) (vp_nar .byte xx102)) (Int32.toNatClampNeg 6) (vp_nar .byte xx105))))] H := hP
        have hD : va_D A [(a0, .inr (12, [.ref a1, .int 7, .ref a2, .ref a3, .ref a4, .ref a5, .ref a6, .ref a7, .ref a8, .ref a9, .ref a10, .int 0, .int 0, .int 0, .int 0, .int 0, .null, .int 0])), (a1, .inl (k0, 4000, .inl (upd (upd (upd (upd (upd (upd (upd (fun _ => 0) (Int32.toNatClampNeg 0) (vp_nar .byte xx87)) (Int32.toNatClampNeg 1) (vp_nar .byte xx90)) (Int32.toNatClampNeg 2) (vp_nar .byte xx93)) (Int32.toNatClampNeg 3) (vp_nar .byte xx96)) (Int32.toNatClampNeg 4) (vp_nar .byte xx99)) (Int32.toNatClampNeg 5) (vp_nar .byte xx102)) (Int32.toNatClampNeg 6) (vp_nar .byte xx105))))] := hD
        refine lv_iinc (v := 0) (lv' := [(4, .int 0), (0, .ref a0), (1, .long y0), (3, .int 8)]) hx hb dX11_type_66 hl (k := 0) rfl (by decide +kernel) (by decide) rfl (fun ls hl => ?_)
        refine lv_goto (tgt := 33) hx hb dX11_type_69 (by decide) ?_
        refine lv_iload hx hb dX11_type_33 (lv_at hl 0 rfl) ?_
        refine lv_if_lt (tgt := 72) hx hb dX11_type_35 (by decide) (fun c9 => absurd c9 (by decide +kernel)) (fun _ => ?_)
        refine lv_aload_n hx hb dX11_type_38 rfl (lv_at hl 1 rfl) ?_
        refine va_get (D := (dC, dI)) (ci := 12) (v := .ref a1) (C := RX11) (T := TX11) (N := 18) hx hb hts in_f_X11_type_RX11 hown hK hP 0 rfl rfl 0 (by decide) (hts (.fieldLink RX11 9 "TripleStore" "text" "[B") (List.mem_of_getElem? (i := 2) rfl)) (fun _ h9 => h9) rfl dX11_type_39 ?_
        refine lv_aload_n hx hb dX11_type_42 rfl (lv_at hl 1 rfl) ?_
        refine va_get (D := (dC, dI)) (ci := 12) (v := .int 7) (C := RX11) (T := TX11) (N := 18) hx hb hts in_f_X11_type_RX11 hown hK hP 0 rfl rfl 1 (by decide) (hts (.fieldLink RX11 90 "TripleStore" "length" "I") (List.mem_of_getElem? (i := 1) rfl)) (fun _ h9 => h9) rfl dX11_type_43 ?_
        refine lv_lload_n hx hb dX11_type_46 rfl (lv_at hl 2 rfl) ?_
        refine lv_bipush (v := 8) hx hb dX11_type_47 (by decide) ?_
        refine lv_iload hx hb dX11_type_49 (lv_at hl 0 rfl) ?_
        refine lv_imul hx hb dX11_type_51 ?_
        refine W.eq (congrArg (fun z : Int32 => F0 m 52 ls (.int z :: [.long y0, .int 7, .ref a1])) (by decide +kernel : ((8 : Int32) * 0 : Int32) = 0)) ?_
        refine lv_lushr hx hb dX11_type_52 rfl ?_
        refine lv_topl (fun yy106 _ => ?_)
        refine lv_l2i hx hb dX11_type_53 rfl ?_
        refine lv_topi (fun xx107 _ => ?_)
        refine lv_i2b hx hb dX11_type_54 rfl ?_
        refine lv_topi (fun xx108 _ => ?_)
        refine va_bast (i := 7) (x := xx108) hx hb hK hP hD hS 1 0 rfl rfl (by unfold vp_in; decide +kernel) dX11_type_55 (fun H locs hP hD hS => ?_)
        have hP : va_P (dC, dI) vwCl [(a0, .inr (12, [.ref a1, .int 7, .ref a2, .ref a3, .ref a4, .ref a5, .ref a6, .ref a7, .ref a8, .ref a9, .ref a10, .int 0, .int 0, .int 0, .int 0, .int 0, .null, .int 0])), (a1, .inl (k0, 4000, .inl (upd (upd (upd (upd (upd (upd (upd (upd (fun _ => 0) (Int32.toNatClampNeg 0) (vp_nar .byte xx87)) (Int32.toNatClampNeg 1) (vp_nar .byte xx90)) (Int32.toNatClampNeg 2) (vp_nar .byte xx93)) (Int32.toNatClampNeg 3) (vp_nar .byte xx96)) (Int32.toNatClampNeg 4) (vp_nar .byte xx99)) (Int32.toNatClampNeg 5) (vp_nar .byte xx102)) (Int32.toNatClampNeg 6) (vp_nar .byte xx105)) (Int32.toNatClampNeg 7) (vp_nar .byte xx108))))] H := hP
        have hD : va_D A [(a0, .inr (12, [.ref a1, .int 7, .ref a2, .ref a3, .ref a4, .ref a5, .ref a6, .ref a7, .ref a8, .ref a9, .ref a10, .int 0, .int 0, .int 0, .int 0, .int 0, .null, .int 0])), (a1, .inl (k0, 4000, .inl (upd (upd (upd (upd (upd (upd (upd (upd (fun _ => 0) (Int32.toNatClampNeg 0) (vp_nar .byte xx87)) (Int32.toNatClampNeg 1) (vp_nar .byte xx90)) (Int32.toNatClampNeg 2) (vp_nar .byte xx93)) (Int32.toNatClampNeg 3) (vp_nar .byte xx96)) (Int32.toNatClampNeg 4) (vp_nar .byte xx99)) (Int32.toNatClampNeg 5) (vp_nar .byte xx102)) (Int32.toNatClampNeg 6) (vp_nar .byte xx105)) (Int32.toNatClampNeg 7) (vp_nar .byte xx108))))] := hD
        refine lv_aload_n hx hb dX11_type_56 rfl (lv_at hl 1 rfl) ?_
        refine lv_dup hx hb dX11_type_57 rfl ?_
        refine va_get (D := (dC, dI)) (ci := 12) (v := .int 7) (C := RX11) (T := TX11) (N := 18) hx hb hts in_f_X11_type_RX11 hown hK hP 0 rfl rfl 1 (by decide) (hts (.fieldLink RX11 90 "TripleStore" "length" "I") (List.mem_of_getElem? (i := 1) rfl)) (fun _ h9 => h9) rfl dX11_type_58 ?_
        refine lv_iconst (v := 1) hx hb dX11_type_61 (by decide) ?_
        refine lv_iadd hx hb dX11_type_62 ?_
        refine W.eq (congrArg (fun z : Int32 => F0 m 63 ls (.int z :: [.ref a0])) (by decide +kernel : ((7 : Int32) + 1 : Int32) = 8)) ?_
        refine va_put (D := (dC, dI)) (ci := 12) (v := .int 8) (ty := .int) (C := RX11) (T := TX11) (N := 18) hx hb hts in_f_X11_type_RX11 tyX11 tyX11_ok nmX11 hown hK hP hD hS 0 rfl rfl 1 (by decide) (hts (.fieldLink RX11 90 "TripleStore" "length" "I") (List.mem_of_getElem? (i := 1) rfl)) (fun _ h9 => h9) rfl (by decide +kernel) rfl rfl (Nat.le_of_ble_eq_true rfl) dX11_type_63 (fun H locs hP hD hS => ?_)
        have hP : va_P (dC, dI) vwCl [(a0, .inr (12, [.ref a1, .int 8, .ref a2, .ref a3, .ref a4, .ref a5, .ref a6, .ref a7, .ref a8, .ref a9, .ref a10, .int 0, .int 0, .int 0, .int 0, .int 0, .null, .int 0])), (a1, .inl (k0, 4000, .inl (upd (upd (upd (upd (upd (upd (upd (upd (fun _ => 0) (Int32.toNatClampNeg 0) (vp_nar .byte xx87)) (Int32.toNatClampNeg 1) (vp_nar .byte xx90)) (Int32.toNatClampNeg 2) (vp_nar .byte xx93)) (Int32.toNatClampNeg 3) (vp_nar .byte xx96)) (Int32.toNatClampNeg 4) (vp_nar .byte xx99)) (Int32.toNatClampNeg 5) (vp_nar .byte xx102)) (Int32.toNatClampNeg 6) (vp_nar .byte xx105)) (Int32.toNatClampNeg 7) (vp_nar .byte xx108))))] H := hP
        have hD : va_D A [(a0, .inr (12, [.ref a1, .int 8, .ref a2, .ref a3, .ref a4, .ref a5, .ref a6, .ref a7, .ref a8, .ref a9, .ref a10, .int 0, .int 0, .int 0, .int 0, .int 0, .null, .int 0])), (a1, .inl (k0, 4000, .inl (upd (upd (upd (upd (upd (upd (upd (upd (fun _ => 0) (Int32.toNatClampNeg 0) (vp_nar .byte xx87)) (Int32.toNatClampNeg 1) (vp_nar .byte xx90)) (Int32.toNatClampNeg 2) (vp_nar .byte xx93)) (Int32.toNatClampNeg 3) (vp_nar .byte xx96)) (Int32.toNatClampNeg 4) (vp_nar .byte xx99)) (Int32.toNatClampNeg 5) (vp_nar .byte xx102)) (Int32.toNatClampNeg 6) (vp_nar .byte xx105)) (Int32.toNatClampNeg 7) (vp_nar .byte xx108))))] := hD
        refine lv_iinc (v := (-1)) (lv' := [(4, .int (-1)), (0, .ref a0), (1, .long y0), (3, .int 8)]) hx hb dX11_type_66 hl (k := 0) rfl (by decide +kernel) (by decide) rfl (fun ls hl => ?_)
        refine lv_goto (tgt := 33) hx hb dX11_type_69 (by decide) ?_
        refine lv_iload hx hb dX11_type_33 (lv_at hl 0 rfl) ?_
        refine lv_if_lt (tgt := 72) hx hb dX11_type_35 (by decide) (fun _ => ?_) (fun c9 => absurd (by decide +kernel) c9)
        refine lv_aload_n hx hb dX11_type_72 rfl (lv_at hl 1 rfl) ?_
        refine va_get (D := (dC, dI)) (ci := 12) (v := .int 8) (C := RX11) (T := TX11) (N := 18) hx hb hts in_f_X11_type_RX11 hown hK hP 0 rfl rfl 1 (by decide) (hts (.fieldLink RX11 90 "TripleStore" "length" "I") (List.mem_of_getElem? (i := 1) rfl)) (fun _ h9 => h9) rfl dX11_type_73 ?_
        refine W.widen (k := 0) (n := 0) (Nat.le_of_ble_eq_true rfl) (Nat.le_of_ble_eq_true rfl) ?_
        exact W.iret (v := 8) hx hb hr (fun t ht hW => ⟨⟨8, (), rfl, by rw [if_neg (by decide +kernel), if_pos (by decide +kernel)], trivial⟩, hS.F ht⟩) hS.2.2 dX11_type_76
    · refine lv_iconst (v := (-1)) hx hb dX11_type_11 (by decide) ?_
      refine W.widen (k := 0) (n := 0) (Nat.le_of_ble_eq_true rfl) (Nat.le_of_ble_eq_true rfl) ?_
      exact W.iret (v := (-1)) hx hb hr (fun t ht hW => ⟨⟨(-1), (), rfl, by rw [if_neg c_2, if_neg c_8], trivial⟩, hS.F ht⟩) hS.2.2 dX11_type_12
