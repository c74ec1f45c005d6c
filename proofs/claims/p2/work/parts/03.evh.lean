/-! PART 3: the abstract heap: a kind for each address (object of a class by its place in cl; array by its type's place in tys), contents as functions; and the instructions that touch a cell. -/
abbrev e_ST : Type := (Nat → Option (Nat ⊕ Nat)) × (Nat → Nat → Int32) × (Nat → Nat → Int64) × (Nat → Nat → Option Nat) × (Nat → Nat) × Nat × Nat
def e_K (st : e_ST) : Nat → Option (Nat ⊕ Nat) := st.1
def e_I (st : e_ST) : Nat → Nat → Int32 := st.2.1
def e_L (st : e_ST) : Nat → Nat → Int64 := st.2.2.1
def e_P (st : e_ST) : Nat → Nat → Option Nat := st.2.2.2.1
def e_N (st : e_ST) : Nat → Nat := st.2.2.2.2.1
def e_T (st : e_ST) : Nat := st.2.2.2.2.2.1
def e_Z (st : e_ST) : Nat := st.2.2.2.2.2.2
def e_sI (st : e_ST) (a k : Nat) (x : Int32) : e_ST := (e_K st, (fun b => if b = a then upd (e_I st a) k x else e_I st b), e_L st, e_P st, e_N st, e_T st, e_Z st)
def e_sL (st : e_ST) (a k : Nat) (x : Int64) : e_ST := (e_K st, e_I st, (fun b => if b = a then vp_updL (e_L st a) k x else e_L st b), e_P st, e_N st, e_T st, e_Z st)
def e_sP (st : e_ST) (a k : Nat) (x : Option Nat) : e_ST := (e_K st, e_I st, e_L st, (fun b => if b = a then va_up (e_P st a) k x else e_P st b), e_N st, e_T st, e_Z st)
/-- a new cell of a kind, all 0, of n slots -/
def e_new (st : e_ST) (kd : Nat ⊕ Nat) (n : Nat) : e_ST := ((fun b => if b = e_T st then some kd else e_K st b), (fun b => if b = e_T st then (fun _ => 0) else e_I st b), (fun b => if b = e_T st then (fun _ => 0) else e_L st b), (fun b => if b = e_T st then (fun _ => none) else e_P st b), (fun b => if b = e_T st then n else e_N st b), e_T st + 1, e_Z st + n)
def e_vf (st : e_ST) (a k : Nat) (ty : FieldType) : Value := match ty with
  | .long => .long (e_L st a k)
  | .object _ => va_rf (e_P st a k)
  | .array _ => va_rf (e_P st a k)
  | _ => .int (e_I st a k)
def e_sh (ad : Nat → Nat) (st : e_ST) (a : Nat) (ty : FieldType) : ((Nat → Int32) ⊕ (Nat → Int64) ⊕ (Nat → UInt32) ⊕ (Nat → UInt64) ⊕ (Nat → Option Nat)) := match ty with
  | .long => .inr (.inl (e_L st a))
  | .object _ => .inr (.inr (.inr (.inr (fun j => (e_P st a j).map ad))))
  | .array _ => .inr (.inr (.inr (.inr (fun j => (e_P st a j).map ad))))
  | _ => .inl (e_I st a)
theorem e_vm_rf (ad : Nat → Nat) (x : Option Nat) : e_vm ad (va_rf x) = va_rf (x.map ad) := by cases x <;> rfl
def e_fs (ad : Nat → Nat) (st : e_ST) (a : Nat) (f : Nat → FieldType) (n : Nat) : List Value := (List.range n).map fun k => e_vm ad (e_vf st a k (f k))
theorem e_fs_at {ad : Nat → Nat} {st : e_ST} {a : Nat} {f : Nat → FieldType} {n k : Nat} (hk : k < n) : (e_fs ad st a f n)[k]? = some (e_vm ad (e_vf st a k (f k))) := by
  unfold e_fs
  rw [List.getElem?_map, List.getElem?_range hk]
  rfl
theorem e_fs_V {ad : Nat → Nat} {st : e_ST} {a : Nat} {f : Nat → FieldType} {n k : Nat} (hk : k < n) : vp_V (e_fs ad st a f n) k = e_vm ad (e_vf st a k (f k)) := by
  unfold vp_V
  rw [List.getD_eq_getElem?_getD, e_fs_at hk]
  rfl
def e_en (ad : Nat → Nat) (cl : List vw_C) (tys : List (ClassId × FieldType)) (fty : Nat → Nat → FieldType) (st : e_ST) (a : Nat) : Option va_E := match e_K st a with
  | none => none
  | some (.inl ci) => (cl[ci]?).map fun r => .inr (ci, e_fs ad st a (fty ci) r.2.2)
  | some (.inr t) => (tys[t]?).map fun q => .inl (q.1, e_N st a, e_sh ad st a q.2)
def e_lim : Nat := 1000000000
/-- the heap is as the abstract one says: the cells that we have made lie from b0 on -/
def e_RR (ad : Nat → Nat) (b0 : Nat) (D : va_G) (cl : List vw_C) (tys : List (ClassId × FieldType)) (fty : Nat → Nat → FieldType) (st : e_ST) (H : Heap) : Prop := H.size = b0 + e_T st ∧ e_T st ≤ e_lim ∧ (∀ a : Nat, e_K st a ≠ none → a < e_T st) ∧ ∀ (a : Nat) (x : va_E), e_en ad cl tys fty st a = some x → va_at D cl (ad a, x) H
def e_AD (ad : Nat → Nat) (b0 : Nat) : Prop := ∀ a, a < e_lim → ad a = b0 + a
theorem e_one {D : va_G} {cl : List vw_C} {a : Nat} {x : va_E} {H : Heap} (h : va_at D cl (a, x) H) : va_P D cl [(a, x)] H := by
  intro k q hq
  have hz : k < 1 := (List.getElem?_eq_some_iff.mp hq).1
  rw [show k = 0 by omega] at hq
  cases hq
  exact h
section E_SET
variable {ad : Nat → Nat} {b0 : Nat} {D : va_G} {cl : List vw_C} {tys : List (ClassId × FieldType)} {fty : Nat → Nat → FieldType} {st st' : e_ST} {H H1 : Heap} {a : Nat}
theorem e_en_obj {ci : Nat} {r : vw_C} (h : e_K st a = some (.inl ci)) (hc : cl[ci]? = some r) : e_en ad cl tys fty st a = some (.inr (ci, e_fs ad st a (fty ci) r.2.2)) := by
  unfold e_en
  rw [h]
  dsimp only
  rw [hc]
  rfl
theorem e_en_arr {t : Nat} {q : ClassId × FieldType} (h : e_K st a = some (.inr t)) (ht : tys[t]? = some q) : e_en ad cl tys fty st a = some (.inl (q.1, e_N st a, e_sh ad st a q.2)) := by
  unfold e_en
  rw [h]
  dsimp only
  rw [ht]
  rfl
theorem e_en_K {x : va_E} (h : e_en ad cl tys fty st a = some x) : e_K st a ≠ none := by
  intro q
  unfold e_en at h
  rw [q] at h
  cases h
theorem e_RR.lt (h : e_RR ad b0 D cl tys fty st H) (had : e_AD ad b0) (hk : e_K st a ≠ none) : ad a = b0 + a ∧ a < e_T st := by
  have h1 := h.2.2.1 a hk
  exact ⟨had a (Nat.lt_of_lt_of_le h1 h.2.1), h1⟩
/-- one cell has changed -/
theorem e_RR.set {x : va_E} (h : e_RR ad b0 D cl tys fty st H) (had : e_AD ad b0) (hka : e_K st a ≠ none) (hz : H1.size = H.size) (oq : ∀ q : Nat, q ≠ ad a → H1[q]? = H[q]?) (hT : e_T st' = e_T st) (hKK : e_K st' = e_K st) (hne : ∀ b, b ≠ a → e_en ad cl tys fty st' b = e_en ad cl tys fty st b) (he : e_en ad cl tys fty st' a = some x) (hx : va_at D cl (ad a, x) H1) : e_RR ad b0 D cl tys fty st' H1 := by
  refine ⟨by rw [hz, hT]; exact h.1, by rw [hT]; exact h.2.1, fun b hb => by rw [hT]; rw [hKK] at hb; exact h.2.2.1 b hb, fun b y hy => ?_⟩
  by_cases hb : b = a
  · subst hb
    rw [he] at hy
    cases hy
    exact hx
  · rw [hne b hb] at hy
    have hbk := e_en_K hy
    refine (h.2.2.2 b y hy).kept (oq (ad b) ?_)
    rw [(h.lt had hbk).1, (h.lt had hka).1]
    omega
theorem e_sI_ne {k : Nat} {x : Int32} {b : Nat} (hb : b ≠ a) : e_en ad cl tys fty (e_sI st a k x) b = e_en ad cl tys fty st b := by
  have h1 : ∀ (j : Nat) (ty : FieldType), e_vf (e_sI st a k x) b j ty = e_vf st b j ty := by
    intro j ty
    cases ty <;> simp [e_vf, e_sI, e_I, e_L, e_P, hb]
  have h2 : ∀ ty : FieldType, e_sh ad (e_sI st a k x) b ty = e_sh ad st b ty := by
    intro ty
    cases ty <;> simp [e_sh, e_sI, e_I, e_L, e_P, hb]
  simp only [e_en, e_fs, h1, h2]
  rfl
theorem e_sL_ne {k : Nat} {x : Int64} {b : Nat} (hb : b ≠ a) : e_en ad cl tys fty (e_sL st a k x) b = e_en ad cl tys fty st b := by
  have h1 : ∀ (j : Nat) (ty : FieldType), e_vf (e_sL st a k x) b j ty = e_vf st b j ty := by
    intro j ty
    cases ty <;> simp [e_vf, e_sL, e_I, e_L, e_P, hb]
  have h2 : ∀ ty : FieldType, e_sh ad (e_sL st a k x) b ty = e_sh ad st b ty := by
    intro ty
    cases ty <;> simp [e_sh, e_sL, e_I, e_L, e_P, hb]
  simp only [e_en, e_fs, h1, h2]
  rfl
theorem e_sP_ne {k : Nat} {x : Option Nat} {b : Nat} (hb : b ≠ a) : e_en ad cl tys fty (e_sP st a k x) b = e_en ad cl tys fty st b := by
  have h1 : ∀ (j : Nat) (ty : FieldType), e_vf (e_sP st a k x) b j ty = e_vf st b j ty := by
    intro j ty
    cases ty <;> simp [e_vf, e_sP, e_I, e_L, e_P, hb]
  have h2 : ∀ ty : FieldType, e_sh ad (e_sP st a k x) b ty = e_sh ad st b ty := by
    intro ty
    cases ty <;> simp [e_sh, e_sP, e_I, e_L, e_P, hb]
  simp only [e_en, e_fs, h1, h2]
  rfl
theorem e_sI_K {k : Nat} {x : Int32} : e_K (e_sI st a k x) = e_K st := rfl
theorem e_sL_K {k : Nat} {x : Int64} : e_K (e_sL st a k x) = e_K st := rfl
theorem e_sP_K {k : Nat} {x : Option Nat} : e_K (e_sP st a k x) = e_K st := rfl
end E_SET
/-- what is stored in a field or array of a type: the value must be one that it keeps as it is -/
def e_set (st : e_ST) (a k : Nat) (ty : FieldType) (v : Value) : Option e_ST := if narrow ty v = v ∧ fits ty v = true then (match ty, v with
  | .long, .long x => some (e_sL st a k x)
  | .object _, .ref b => some (e_sP st a k (some b))
  | .object _, .null => some (e_sP st a k none)
  | .array _, .ref b => some (e_sP st a k (some b))
  | .array _, .null => some (e_sP st a k none)
  | .float, _ => none
  | .double, _ => none
  | .long, _ => none
  | _, .int x => some (e_sI st a k x)
  | _, _ => none) else none
theorem e_set_ok {st st' : e_ST} {a k : Nat} {ty : FieldType} {v : Value} (h : e_set st a k ty v = some st') : narrow ty v = v ∧ fits ty v = true ∧ e_K st' = e_K st ∧ e_T st' = e_T st ∧ e_Z st' = e_Z st ∧ e_N st' = e_N st ∧ (∀ {ad : Nat → Nat} {cl : List vw_C} {tys : List (ClassId × FieldType)} {fty : Nat → Nat → FieldType} (b : Nat), b ≠ a → e_en ad cl tys fty st' b = e_en ad cl tys fty st b) ∧ e_vf st' a k ty = v ∧ (∀ (j : Nat) (ty' : FieldType), j ≠ k → e_vf st' a j ty' = e_vf st a j ty') := by
  unfold e_set at h
  by_cases hn : narrow ty v = v ∧ fits ty v = true
  · rw [if_pos hn] at h
    refine ⟨hn.1, hn.2, ?_⟩
    split at h <;> first
      | (cases h; done)
      | (cases h
         refine ⟨rfl, rfl, rfl, rfl, fun b hb => ?_, ?_, fun j ty' hj => ?_⟩
         · first | exact e_sI_ne hb | exact e_sL_ne hb | exact e_sP_ne hb
         · first
             | (simp [e_vf, e_sL, e_L, vp_updL]; done)
             | (simp [e_vf, e_sP, e_P, va_up, va_rf]; done)
             | (cases ty <;> simp_all [e_vf, e_sI, e_I, upd, narrow, fits]; done)
         · cases ty' <;> simp [e_vf, e_sI, e_sL, e_sP, e_I, e_L, e_P, upd, vp_updL, va_up, hj])
  · rw [if_neg hn] at h
    cases h
theorem e_nar_vm {ad : Nat → Nat} {ty : FieldType} {v : Value} (h : narrow ty v = v) : narrow ty (e_vm ad v) = e_vm ad v := by
  cases v <;> first | exact h | (cases ty <;> rfl)
theorem e_fit_vm {ad : Nat → Nat} {ty : FieldType} {v : Value} (h : fits ty v = true) : fits ty (e_vm ad v) = true := by
  cases v <;> first | exact h | (cases ty <;> exact h)
