/-! PART 22: arrays of references are made -/
noncomputable section
def va_AOA (t : FieldType) (U : State) : Prop := (Cond.arrayOver (.array t)).before #[] U = true
theorem va_AOA.use {t : FieldType} {A : Array Value} {U : State} (h : va_AOA t U) : (Cond.arrayOver (.array t)).before A U = true := h
theorem k_idx_bare (vm : Vm) (comp : ClassId) : (vm.bare.classes.findIdx? fun (x : Class) => match x.kind with | .array component _ => component == comp | _ => false) = (vm.classes.findIdx? fun (x : Class) => match x.kind with | .array component _ => component == comp | _ => false) := by
  simp only [Vm.bare, Array.findIdx?_map]
  rfl
theorem va_AOA.moved {t : FieldType} {u U : State} (hvm : u.vm.Alike U.vm) (h : va_AOA t u) : va_AOA t U := by
  obtain ⟨comp, c, k, h1, h2, h3, h4, h5⟩ := arrayOver_specB h
  obtain ⟨k', hk', he⟩ := hvm.2.2 _ _ h3
  have hi : (U.vm.classes.findIdx? fun (x : Class) => match x.kind with | .array component _ => component == comp | _ => false) = some c := by
    rw [← k_idx_bare]
    first | rw [hvm.bare_eq] | rw [← hvm.bare_eq]
    rw [k_idx_bare]
    exact h2
  have hkind : k'.kind = .array comp (.array t) := by rw [he]; exact h4
  have f1 : U.vm.findClass (FieldType.array t).toString = some comp := by rw [hvm.findClass]; exact h1
  have f2 : U.vm.findClass ("[" ++ (FieldType.array t).toString) = some c := by rw [hvm.findClass]; exact h5
  unfold va_AOA Cond.before Cond.holds
  simp only [Cond.value]
  rw [f1, Option.bind_some]
  refine (congrArg (fun o : Option Nat => (o.bind (fun c => (U.vm.classes[c]?).map fun (k : Class) => match k.kind with | .array _ ty => decide (ty = FieldType.array t) && decide (U.vm.findClass ("[" ++ (FieldType.array t).toString) = some c) | _ => false) == some true)) hi).trans ?_
  simp [hk', hkind, f2]
/-- the array classes over which arrays of references are made -/
def e_XA (oc : List String) (U : State) (_ : Heap) : Prop := (∀ C, C ∈ oc → va_AO C U) ∧ va_AOA .int U
theorem e_XA_ok {b0 : Nat} {oc : List String} : e_XC b0 (e_XA oc) := by
  have mv : ∀ (u U : State), u.vm.Alike U.vm → ∀ H : Heap, e_XA oc u H → e_XA oc U H := fun u U hv H h => ⟨fun C hC => va_AO.moved hv (h.1 C hC), va_AOA.moved hv h.2⟩
  exact ⟨fun u U H hv h => mv u U (by rw [hv]; exact Vm.Alike.refl _) H h, fun u U H hW h => mv u U hW.alike H h, fun U H H1 h _ => h⟩
theorem e_XC_and {b0 : Nat} {X Y : State → Heap → Prop} (hX : e_XC b0 X) (hY : e_XC b0 Y) : e_XC b0 (fun U H => X U H ∧ Y U H) :=
  ⟨fun u U H hv h => ⟨hX.1 u U H hv h.1, hY.1 u U H hv h.2⟩, fun u U H hW h => ⟨hX.2.1 u U H hW h.1, hY.2.1 u U H hW h.2⟩, fun U H H1 h hk => ⟨hX.2.2 U H H1 h.1 hk, hY.2.2 U H H1 h.2 hk⟩⟩
def e_pN (ats : List FieldType) (an : Nat → Nat → Option Nat) : e_EX := fun M ins len pc lv stk st => match ins, stk with
  | .anewarray idx, .int n :: r => match an (e_mo M) idx with
    | some t => match ats[t]? with
      | some (.object _) => if len = 3 ∧ ¬ n < 0 ∧ n.toNatClampNeg * 4 ≤ 536870912 ∧ e_T st < e_lim then some ((pc + 3, lv, .ref (e_T st) :: r), e_new st (.inr t) n.toNatClampNeg) else none
      | _ => none
    | none => none
  | _, _ => none
theorem e_pN_g {ats : List FieldType} {an : Nat → Nat → Option Nat} : e_xgrow (e_pN ats an) := by
  intro M ins len pc lv stk st f st' h
  unfold e_pN at h
  split at h
  · split at h
    · split at h
      · split at h
        · cases h
          exact e_le_new
        · cases h
      · cases h
    · cases h
  · cases h
def e_OKAN (W0 : List Cond) (own : Nat → String) (ats : List FieldType) (oc : List String) (an : Nat → Nat → Option Nat) : Prop := ∀ o idx t C, an o idx = some t → ats[t]? = some (.object C) → Cond.classLink (own o) idx C ∈ W0 ∧ C ∈ oc
section E_NO
variable {l : Launch} {ad : Nat → Nat} {D : va_G} {cl : List vw_C} {tys : List (ClassId × FieldType)} {ats : List FieldType} {fty : Nat → Nat → FieldType} {W0 Z0 : List Cond} {own : Nat → String} {b0 d : Nat} {oc : List String} {an : Nat → Nat → Option Nat}
theorem e_pN_ok (hta : ∀ (t : Nat) (ty : FieldType), ats[t]? = some ty → ∃ cA, tys[t]? = some (cA, ty)) (hP : e_OKAN W0 own ats oc an) : e_EXS l ad D cl tys fty W0 Z0 (e_XA oc) own b0 d (e_pN ats an) := by
  intro p e R s m args below meth c Q H locs ls cells slots M ins len pc lv stk st f st' h hM hx hb hml hg hW0 hz hZ0 hXB hown hK had hb0 hR hS hl hdec hRf hRl hc hs kk
  unfold e_pN at h
  split at h
  · rename_i idx n r
    split at h
    · rename_i t ht0
      split at h
      · rename_i C hty
        split at h
        · rename_i hq
          obtain ⟨rfl, hn, hbytes, hlim⟩ := hq
          cases h
          obtain ⟨w1, w2⟩ := hP _ _ _ _ ht0 hty
          obtain ⟨cB, ht⟩ := hta _ _ hty
          have eT : e_T (e_new st (.inr t) n.toNatClampNeg) - e_T st = 1 := by show e_T st + 1 - e_T st = 1; omega
          have eZ : e_Z (e_new st (.inr t) n.toNatClampNeg) - e_Z st = n.toNatClampNeg := by show e_Z st + n.toNatClampNeg - e_Z st = _; omega
          rw [eT] at hc
          rw [eZ] at hs
          refine W.anew hx hb hown (hW0 _ w1) (va_AO.use (hXB.1 C w2)) rfl hdec rfl hn hbytes hc hs fun cA kA comp f1 f2 f3 f4 => ?_
          generalize hH1 : H.push ({ cls := cA, slots := Array.replicate n.toNatClampNeg .null, vm := .none } : Cell) = H1
          have z1 : H1.size = H.size + 1 := by rw [← hH1, Array.size_push]
          have e1 : H1[H.size]? = some (arrV cA n.toNatClampNeg (fun _ => .null)) := by rw [← hH1, Array.getElem?_push_size, ← arrV_new]
          have o1 : ∀ q : Nat, q < H.size → H1[q]? = H[q]? := fun q hq => by rw [← hH1, Array.getElem?_push, if_neg (Nat.ne_of_lt hq)]
          have hcA : cA = cB := by
            obtain ⟨kA', comp', g2, g3, g4, g1⟩ := (hK.2 t _ ht).2
            exact Option.some.inj (f1.symm.trans g1)
          subst hcA
          have ek : e_K (e_new st (.inr t) n.toNatClampNeg) (e_T st) = some (.inr t) := by simp [e_new, e_K]
          have hRR : e_RR ad b0 D cl tys fty (e_new st (.inr t) n.toNatClampNeg) H1 := by
            refine e_RR.mk had hlim hR z1 o1 (e_en_arr ek ht) ?_
            show H1[b0 + e_T st]? = some (vp_cell _ _)
            rw [← hR.1, e1]
            refine congrArg some ?_
            have en : e_N (e_new st (.inr t) n.toNatClampNeg) (e_T st) = n.toNatClampNeg := by simp [e_new, e_N]
            have ep : e_P (e_new st (.inr t) n.toNatClampNeg) (e_T st) = fun _ => none := by simp [e_new, e_P]
            rw [en]
            show _ = vp_cell _ (_, .inr (.inr (.inr (.inr (fun j => (e_P (e_new st (.inr t) n.toNatClampNeg) (e_T st) j).map ad)))))
            rw [ep, vp_cell_q]
            rfl
          have k1 := kk H1 locs ls hRR ⟨Nat.le_trans hS.1 (by omega), fun x h1 h2 => (o1 x (Nat.lt_of_lt_of_le h1 hS.1)).trans (hS.2.1 x h1 h2), hS.2.2⟩ hl
          rw [eT, eZ] at k1
          have k2 : W p l e R s m args below meth c H1 locs (cells + 1) (slots + n.toNatClampNeg) Q (F0 m (pc + 3) ls (.ref (ad (e_T st)) :: e_mv ad r)) := k1
          rw [had _ hlim, ← hR.1] at k2
          exact k2
        · cases h
      · cases h
    · cases h
  · cases h
end E_NO
section E_XM
variable {l : Launch} {ad : Nat → Nat} {D : va_G} {cl : List vw_C} {tys : List (ClassId × FieldType)} {fty : Nat → Nat → FieldType} {W0 Z0 : List Cond} {own : Nat → String} {b0 d : Nat}
theorem e_EXS.mono {X Y : State → Heap → Prop} (hXY : ∀ U H, X U H → Y U H) {ex : e_EX} (h : e_EXS l ad D cl tys fty W0 Z0 Y own b0 d ex) : e_EXS l ad D cl tys fty W0 Z0 X own b0 d ex :=
  fun p e R s m args below meth c Q H locs ls cells slots M ins len pc lv stk st f st' h1 h2 h3 h4 h5 h6 h7 h8 h9 hXB => h p e R s m args below meth c Q H locs ls cells slots M ins len pc lv stk st f st' h1 h2 h3 h4 h5 h6 h7 h8 h9 (hXY _ _ hXB)
end E_XM
end
