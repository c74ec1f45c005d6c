/-! PART 24: Math.floorDiv, floorMod of longs, by the library's laws -/
noncomputable section
def e_pF (pm : Nat → Nat → Nat) : e_EX0 := fun M ins len pc _ stk _ => match ins with
  | .invokestatic idx => if len = 3 then (match pm (e_mo M) idx, stk with
    | 6, .long y :: .long x :: r => if e_cat r ≤ 8 ∧ y ≠ 0 then some (pc + 3, .long (Jvm.Free.JP.Math_floorDiv_JJ.val x y) :: r) else none
    | 7, .long y :: .long x :: r => if e_cat r ≤ 8 ∧ y ≠ 0 then some (pc + 3, .long (Jvm.Free.JP.Math_floorMod_JJ.val x y) :: r) else none
    | _, _ => none) else none
  | _ => none
def e_OKPF (W0 : List Cond) (own : Nat → String) (pm : Nat → Nat → Nat) : Prop := ∀ o idx,
  (pm o idx = 6 → Cond.methodLink (own o) idx Jvm.Free.JP.Math_floorDiv_JJ.yN ∈ W0 ∧ Cond.static Jvm.Free.JP.Math_floorDiv_JJ.yN ∈ W0 ∧ Cond.initialized "java/lang/Math" ∈ W0 ∧ Cond.code Jvm.Free.JP.Math_floorDiv_JJ.yN Jvm.Free.JP.Math_floorDiv_JJ.yB 6 (some .long) ∈ W0) ∧
  (pm o idx = 7 → Cond.methodLink (own o) idx Jvm.Free.JP.Math_floorMod_JJ.yN ∈ W0 ∧ Cond.static Jvm.Free.JP.Math_floorMod_JJ.yN ∈ W0 ∧ Cond.initialized "java/lang/Math" ∈ W0 ∧ Cond.code Jvm.Free.JP.Math_floorMod_JJ.yN Jvm.Free.JP.Math_floorMod_JJ.yB 6 (some .long) ∈ W0)
section E_LW
variable {p : Program} {l : Launch} {e : Env} {R : Room} {s : State} {m : MethodId} {args : Array Value} {below : List Frame} {meth : Method} {c : Code} {H : Heap} {locs : List Loc} {cells slots : Nat} {Q : State → Prop}
variable {cc : ByteArray} {pc : Nat} {ls : Array Slot} {rest : List Value}
/-- a call of a static method of which the library has a law that leaves the heap alone -/
theorem e_lawS (hx : p.tables.exec = Jvm.exec) (hb : c.code = cc) (hml : c.maxLocals = ls.size) {own : String} {index : Nat} {y : MethodName} {n na fr lo : Nat} {bytes : ByteArray} {maxL : Nat} {ret : Option FieldType} {site : List Cond} {P : Array Value → State → Prop} {v : Value} (hlaw : Jvm.Free.XT.Law l y n na fr lo bytes maxL ret site P (Jvm.Free.XT.PureE (some v)) [] 0 0) (hown : s.vm.findClass own = some m.cls)
    (h1 : (Cond.methodLink own index y).before args s = true) (h2 : (Cond.static y).before args s = true) (htab : (Jvm.Free.XT.tabOf y bytes maxL ret site).before args s = true) (hfr : fr + 1 ≤ R.frames) {W9 : Nat} (hlo : W9 + (maxL + 11) + lo ≤ R.locals) (hc : cells ≤ R.cells) (hs : slots ≤ R.slots) {argsL : List Value} (hk : argsL.length = na) (hW : (rest.map fun v => v.category).sum ≤ W9) (hdg : decode cc pc = .ok (.invokestatic index, 3))
    (hP : ∀ T : State, T.heap = H → P argsL.toArray T) (kk : W p l e R s m args below meth c H locs cells slots Q (F0 m (pc + 3) ls (v :: rest))) : W p l e R s m args below meth c H locs cells slots Q (F0 m pc ls (argsL.reverse ++ rest)) := by
  intro T hT X
  obtain ⟨v9, T', X', hE, st⟩ := X.callS hx hlaw hown (fun w hw => by
    simp only [Jvm.Free.XT.staticW, List.mem_cons, List.not_mem_nil, or_false] at hw
    rcases hw with rfl | rfl
    · exact h1
    · exact h2) htab hfr hlo (by omega) (by omega) (g := F0 m pc ls (argsL.reverse ++ rest)) rfl (by rw [hml]) (Steps.refl _) hk rfl (by show 2 * 0 + _ ≤ _; omega) (by rw [hb]; exact hdg) (hP T hT)
  obtain ⟨rfl, hh⟩ := hE
  rw [List.append_nil] at X'
  obtain ⟨t, a1, b1⟩ := kk T' (hh.trans hT) X'
  exact ⟨t, st.trans a1, b1⟩
end E_LW
section E_FO
variable {l : Launch} {ad : Nat → Nat} {D : va_G} {cl : List vw_C} {tys : List (ClassId × FieldType)} {fty : Nat → Nat → FieldType} {W0 Z0 : List Cond} {XB : State → Heap → Prop} {own : Nat → String} {b0 d : Nat}
theorem e_pF_ok {pm : Nat → Nat → Nat} (hP : e_OKPF W0 own pm) : e_EX0S l ad D cl tys fty W0 Z0 XB own b0 d (e_pF pm) := by
  intro p e R s m args below meth c Q H locs ls cells slots M ins len pc lv stk st pc' stk' h hM hx hb hml hg hW0 hz hZ0 hXB hown hK had hb0 hR hS hdec hRf hRl hc hs kk
  unfold e_pF at h
  split at h
  · rename_i idx
    split at h
    · rename_i hlen
      subst hlen
      obtain ⟨q1, q2⟩ := hP (e_mo M) idx
      split at h
      · rename_i y x r hk
        split at h
        · rename_i hr
          cases h
          have g := e_mv_sum (ad := ad) hr.1
          obtain ⟨w1, w2, w3, w4⟩ := q1 hk
          exact e_lawS (argsL := [.long x, .long y]) hx hb hml (Jvm.Free.JP.Math_floorDiv_JJ.law l x y) hown (hW0 _ w1) (hW0 _ w2) (Jvm.Free.XT.unparts (hW0 _ w4) (fun w hw => by
            have : w = .initialized Jvm.Free.JP.Math_floorDiv_JJ.yN.cls := by simpa [Jvm.Free.JP.Math_floorDiv_JJ.site] using hw
            rw [this]; exact hW0 _ w3)) (by omega) (W9 := 8) (by omega) hc hs rfl g hdec (fun T hT => ⟨rfl, hr.2⟩) kk
        · cases h
      · rename_i y x r hk
        split at h
        · rename_i hr
          cases h
          have g := e_mv_sum (ad := ad) hr.1
          obtain ⟨w1, w2, w3, w4⟩ := q2 hk
          exact e_lawS (argsL := [.long x, .long y]) hx hb hml (Jvm.Free.JP.Math_floorMod_JJ.law l x y) hown (hW0 _ w1) (hW0 _ w2) (Jvm.Free.XT.unparts (hW0 _ w4) (fun w hw => by
            have : w = .initialized Jvm.Free.JP.Math_floorMod_JJ.yN.cls := by simpa [Jvm.Free.JP.Math_floorMod_JJ.site] using hw
            rw [this]; exact hW0 _ w3)) (by omega) (W9 := 8) (by omega) hc hs rfl g hdec (fun T hT => ⟨rfl, hr.2⟩) kk
        · cases h
      · cases h
    · cases h
  · cases h
end E_FO
end
