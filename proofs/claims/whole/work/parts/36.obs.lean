/-! WHAT A HEAP SHOWS, AND HOW AN UPDATE CHANGES IT: kinds of cells (with the references that they hold), then contents -/
def tgV : Value → Nat
  | .int _ => 0
  | .long _ => 1
  | .ref x => x + 3
  | _ => 2
def tcl (n : Nat) : Nat := match n with
  | 0 => 0
  | 1 => 1
  | 2 => 3
  | _ => 2
def tyN : FieldType → Nat
  | .int => 1
  | .byte => 2
  | .boolean => 3
  | _ => 9
abbrev mKd : Type := Nat × Nat × List Nat
def kdC (x : mCell) : mKd := match x with
  | .inl (ty, xs) => (1, tyN ty, [xs.length])
  | .inr (.inl xs) => (2, 0, [xs.length])
  | .inr (.inr (.inl (c, xs))) => (3, c, [xs.length])
  | .inr (.inr (.inr (c, fs))) => (4, c, fs.map tgV)
def kd (h : mHeap) (a : Nat) : mKd := match h[a]? with
  | some x => kdC x
  | none => (0, 0, [])
def tgK (q : mKd) (k : Nat) : Option Nat := if q.1 = 4 then q.2.2[k]? else none
def lnK (q : mKd) : Nat := q.2.2.headD 0
def frK (q : mKd) (k : Nat) : Nat := (tgK q k).getD 3 - 3
def okK (q : mKd) (c k t : Nat) : Prop := q.1 = 4 ∧ q.2.1 = c ∧ (tgK q k).map tcl = some t
def okPK (q : mKd) (c k : Nat) : Prop := q.1 = 4 ∧ q.2.1 = c ∧ k < q.2.2.length
def xA (h : mHeap) (a i : Nat) : Int32 := (aI h a).getD i 0
def xJ (h : mHeap) (a i : Nat) : Int64 := (aJ h a).getD i 0
def xR (h : mHeap) (a i : Nat) : Option Nat := (aR h a).getD i none
def upf {α : Type} (f : Nat → α) (k : Nat) (v : α) : Nat → α := fun i => if i = k then v else f i
section Ob
variable {h : mHeap} {a b c k j t n : Nat}
theorem kd_none (e : h[a]? = none) : kd h a = (0, 0, []) := by unfold kd; rw [e]
theorem kd_some {x : mCell} (e : h[a]? = some x) : kd h a = kdC x := by unfold kd; rw [e]
theorem kd4 (e : (kd h a).1 = 4) : h[a]? = some (mO (oC h a) (oF h a)) ∧ kd h a = (4, oC h a, (oF h a).map tgV) := by
  cases hh : h[a]? with
  | none => rw [kd_none hh] at e; cases e
  | some x =>
    match x, hh with
    | .inl _, hh => rw [kd_some hh] at e; cases e
    | .inr (.inl _), hh => rw [kd_some hh] at e; cases e
    | .inr (.inr (.inl _)), hh => rw [kd_some hh] at e; cases e
    | .inr (.inr (.inr (c0, fs))), hh =>
      have := oF_at (c := c0) (fs := fs) hh
      rw [this.1, this.2]
      exact ⟨rfl, kd_some hh⟩
theorem kd_oF (hh : h[a]? = some (mO (oC h a) (oF h a))) : kd h a = (4, oC h a, (oF h a).map tgV) := kd_some hh
theorem kd1 (e : (kd h a).1 = 1) : h[a]? = some (mI (aT h a) (aI h a)) ∧ kd h a = (1, tyN (aT h a), [(aI h a).length]) := by
  cases hh : h[a]? with
  | none => rw [kd_none hh] at e; cases e
  | some x =>
    match x, hh with
    | .inl (ty, xs), hh =>
      have := aI_at (ty := ty) (xs := xs) hh
      rw [this.1, this.2]
      exact ⟨rfl, kd_some hh⟩
    | .inr (.inl _), hh => rw [kd_some hh] at e; cases e
    | .inr (.inr (.inl _)), hh => rw [kd_some hh] at e; cases e
    | .inr (.inr (.inr _)), hh => rw [kd_some hh] at e; cases e
theorem kd2 (e : (kd h a).1 = 2) : h[a]? = some (mJ (aJ h a)) ∧ kd h a = (2, 0, [(aJ h a).length]) := by
  cases hh : h[a]? with
  | none => rw [kd_none hh] at e; cases e
  | some x =>
    match x, hh with
    | .inl _, hh => rw [kd_some hh] at e; cases e
    | .inr (.inl xs), hh =>
      have := aJ_at (xs := xs) hh
      rw [this]
      exact ⟨rfl, kd_some hh⟩
    | .inr (.inr (.inl _)), hh => rw [kd_some hh] at e; cases e
    | .inr (.inr (.inr _)), hh => rw [kd_some hh] at e; cases e
theorem kd3 (e : (kd h a).1 = 3) : h[a]? = some (mR (rC h a) (aR h a)) ∧ kd h a = (3, rC h a, [(aR h a).length]) := by
  cases hh : h[a]? with
  | none => rw [kd_none hh] at e; cases e
  | some x =>
    match x, hh with
    | .inl _, hh => rw [kd_some hh] at e; cases e
    | .inr (.inl _), hh => rw [kd_some hh] at e; cases e
    | .inr (.inr (.inl (c0, xs))), hh =>
      have := aR_at (c := c0) (xs := xs) hh
      rw [this.1, this.2]
      exact ⟨rfl, kd_some hh⟩
    | .inr (.inr (.inr _)), hh => rw [kd_some hh] at e; cases e
/-! the rules' conditions, by kinds -/
theorem oC_kd {ts : List Nat} (e : kd h a = (4, c, ts)) : oC h a = c := by
  have := (kd4 (by rw [e])).2
  rw [e] at this
  exact (congrArg (fun q : mKd => q.2.1) this).symm
theorem tag_tcl (v : Value) : tcl (tgV v) = mTag v := by
  cases v <;> rfl
theorem okF_kd : okF h a c k t ↔ okK (kd h a) c k t := by
  constructor
  · rintro ⟨h1, h2⟩
    obtain ⟨v, hv, ht⟩ := Option.map_eq_some_iff.mp h2
    have e := kd_oF (oF_of hv)
    rw [e]
    refine ⟨rfl, h1, ?_⟩
    unfold tgK
    rw [if_pos rfl]
    show Option.map tcl ((oF h a).map tgV)[k]? = some t
    rw [List.getElem?_map, hv]
    show some (tcl (tgV v)) = some t
    rw [tag_tcl, ht]
  · rintro ⟨h1, h2, h3⟩
    have e := (kd4 h1).2
    rw [e] at h2 h3
    refine ⟨h2, ?_⟩
    unfold tgK at h3
    rw [if_pos rfl] at h3
    have h3 : Option.map tcl ((oF h a).map tgV)[k]? = some t := h3
    rw [List.getElem?_map] at h3
    rw [← h3, Option.map_map]
    congr 1
    funext v
    exact (tag_tcl v).symm
theorem okP_kd : okP h a c k ↔ (64 ≤ a ∧ okPK (kd h a) c k) := by
  constructor
  · rintro ⟨h0, h1, h2⟩
    have e := kd_oF (oF_lt h2)
    rw [e]
    exact ⟨h0, rfl, h1, by show k < ((oF h a).map tgV).length; rw [List.length_map]; exact h2⟩
  · rintro ⟨h0, h1, h2, h3⟩
    have e := (kd4 h1).2
    rw [e] at h2 h3
    exact ⟨h0, h2, by
      have h3 : k < ((oF h a).map tgV).length := h3
      rw [List.length_map] at h3; exact h3⟩
theorem fR_kd : fR h a k = frK (kd h a) k := by
  unfold fR frK tgK
  by_cases e : (kd h a).1 = 4
  · rw [if_pos e, (kd4 e).2]
    show vR (oF h a)[k]? = (((oF h a).map tgV)[k]?).getD 3 - 3
    rw [List.getElem?_map]
    cases (oF h a)[k]? with
    | none => rfl
    | some v => cases v <;> rfl
  · rw [if_neg e]
    have : (oF h a)[k]? = none := by
      cases hv : (oF h a)[k]? with
      | none => rfl
      | some v => exact absurd (by rw [kd_oF (oF_of hv)]) e
    rw [this]
    rfl
theorem tyN_int {ty : FieldType} : tyN ty = 1 ↔ ty = .int := by cases ty <;> simp [tyN]
theorem tyN_byte {ty : FieldType} : tyN ty = 2 ↔ ty = .byte := by cases ty <;> simp [tyN]
theorem tyN_bool {ty : FieldType} : tyN ty = 3 ↔ ty = .boolean := by cases ty <;> simp [tyN]
theorem okA_kd {i : Int32} : okA h a .int i ↔ ((kd h a).1 = 1 ∧ (kd h a).2.1 = 1 ∧ ¬ i < 0 ∧ i.toNatClampNeg < lnK (kd h a)) := by
  constructor
  · rintro ⟨h1, h2, h3⟩
    have e := kd_some (aT_of (h := h) (a := a) (by rw [h1]; decide))
    rw [e]
    exact ⟨rfl, tyN_int.mpr h1, h2, h3⟩
  · rintro ⟨h1, h2, h3, h4⟩
    have e := (kd1 h1).2
    rw [e] at h2 h4
    exact ⟨tyN_int.mp h2, h3, h4⟩
theorem okB_kd {i : Int32} : okB h a i ↔ ((kd h a).1 = 1 ∧ ((kd h a).2.1 = 2 ∨ (kd h a).2.1 = 3) ∧ ¬ i < 0 ∧ i.toNatClampNeg < lnK (kd h a)) := by
  constructor
  · rintro ⟨h1, h2, h3⟩
    have e := kd_some (aI_of (h := h) (a := a) (Nat.lt_of_le_of_lt (Nat.zero_le _) h3))
    rw [e]
    exact ⟨rfl, h1.imp (fun q => tyN_byte.mpr q) (fun q => tyN_bool.mpr q), h2, h3⟩
  · rintro ⟨h1, h2, h3, h4⟩
    have e := (kd1 h1).2
    rw [e] at h2 h4
    exact ⟨h2.imp (fun q => tyN_byte.mp q) (fun q => tyN_bool.mp q), h3, h4⟩
theorem okJ_kd {i : Int32} : okJ h a i ↔ ((kd h a).1 = 2 ∧ ¬ i < 0 ∧ i.toNatClampNeg < lnK (kd h a)) := by
  constructor
  · rintro ⟨h2, h3⟩
    have e := kd_some (aJ_of (h := h) (a := a) (Nat.lt_of_le_of_lt (Nat.zero_le _) h3))
    rw [e]
    exact ⟨rfl, h2, h3⟩
  · rintro ⟨h1, h3, h4⟩
    have e := (kd2 h1).2
    rw [e] at h4
    exact ⟨h3, h4⟩
theorem eR_xR {i : Int32} : eR h a i = (xR h a i.toNatClampNeg).getD 0 := rfl
theorem eI_xA {i : Int32} : eI h a i = xA h a i.toNatClampNeg := rfl
theorem eJ_xJ {i : Int32} : eJ h a i = xJ h a i.toNatClampNeg := rfl
theorem rC_kd : mRc (rC h a) = true ↔ ((kd h a).1 = 3 ∧ mRc (kd h a).2.1 = true) := by
  constructor
  · intro e
    have := kd_some (rC_of e)
    rw [this]
    exact ⟨rfl, e⟩
  · rintro ⟨h1, h2⟩
    rw [(kd3 h1).2] at h2
    exact h2
theorem okR_kd {i : Int32} : okR h a i ↔ (((kd h a).1 = 3 ∧ mRc (kd h a).2.1 = true) ∧ ¬ i < 0 ∧ 64 ≤ (xR h a i.toNatClampNeg).getD 0) := by
  unfold okR
  rw [rC_kd]
  rfl
theorem nuR_kd {i : Int32} : nuR h a i ↔ (((kd h a).1 = 3 ∧ mRc (kd h a).2.1 = true) ∧ ¬ i < 0 ∧ i.toNatClampNeg < lnK (kd h a) ∧ xR h a i.toNatClampNeg = none) := by
  unfold nuR
  rw [rC_kd]
  constructor
  · rintro ⟨h1, h2, h3⟩
    have e := (kd3 h1.1).2
    refine ⟨h1, h2, ?_, ?_⟩
    · rw [e]; exact (List.getElem?_eq_some_iff.mp h3).1
    · unfold xR; rw [List.getD_eq_getElem?_getD, h3]; rfl
  · rintro ⟨h1, h2, h3, h4⟩
    have e := (kd3 h1.1).2
    rw [e] at h3
    refine ⟨h1, h2, ?_⟩
    unfold xR at h4
    have h3 : i.toNatClampNeg < (aR h a).length := h3
    rw [List.getD_eq_getElem?_getD, List.getElem?_eq_getElem h3] at h4
    rw [List.getElem?_eq_getElem h3]
    exact congrArg some h4
theorem okS_kd {i : Int32} {v : Nat} : okS h a i v ↔ (64 ≤ a ∧ 64 ≤ v ∧ (kd h a).1 = 3 ∧ mRc (kd h a).2.1 = true ∧ oC h v = (kd h a).2.1 ∧ ¬ i < 0 ∧ i.toNatClampNeg < lnK (kd h a)) := by
  unfold okS
  rw [rC_kd]
  constructor
  · rintro ⟨h1, h2, h3, h4, h5, h6⟩
    have e := (kd3 h4.1).2
    refine ⟨h1, h2, h4.1, h4.2, ?_, h5, ?_⟩
    · rw [e]; exact h3
    · rw [e]; exact h6
  · rintro ⟨h1, h2, h3, h4, h5, h6, h7⟩
    have e := (kd3 h3).2
    refine ⟨h1, h2, ?_, ⟨h3, h4⟩, h6, ?_⟩
    · rw [e] at h5; exact h5
    · rw [e] at h7; exact h7
theorem nL_kd : nL h a = if (kd h a).1 = 4 then 0 else lnK (kd h a) := by
  unfold nL
  cases hh : h[a]? with
  | none => rw [kd_none hh]; rfl
  | some x =>
    rw [kd_some hh]
    match x with
    | .inl _ => rfl
    | .inr (.inl _) => rfl
    | .inr (.inr (.inl _)) => rfl
    | .inr (.inr (.inr _)) => rfl
theorem okL_kd : okL h a ↔ (((kd h a).1 = 1 ∧ (kd h a).2.1 ≤ 3) ∨ (kd h a).1 = 2 ∨ ((kd h a).1 = 3 ∧ mRc (kd h a).2.1 = true)) := by
  unfold okL
  cases hh : h[a]? with
  | none => rw [kd_none hh]; simp
  | some x =>
    rw [kd_some hh]
    match x with
    | .inl (ty, xs) =>
      simp only [kdC]
      cases ty <;> simp [tyN]
    | .inr (.inl xs) => simp [kdC]
    | .inr (.inr (.inl (c, xs))) => simp [kdC]
    | .inr (.inr (.inr (c, xs))) => simp [kdC]
theorem aT_kd : aT h a = .int ↔ ((kd h a).1 = 1 ∧ (kd h a).2.1 = 1) := by
  constructor
  · intro h1
    have e := kd_some (aT_of (h := h) (a := a) (by rw [h1]; decide))
    rw [e]
    exact ⟨rfl, tyN_int.mpr h1⟩
  · rintro ⟨h1, h2⟩
    rw [(kd1 h1).2] at h2
    exact tyN_int.mp h2
end Ob
