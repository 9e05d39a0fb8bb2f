/-! UPDATES, SEEN -/
def fO (k : Nat) (v : Value) (x : mCell) : mCell := match x with
  | .inr (.inr (.inr (c, fs))) => mO c (fs.set k v)
  | y => y
def fXI (j : Nat) (v : Int32) (x : mCell) : mCell := match x with
  | .inl (ty, xs) => mI ty (xs.set j v)
  | y => y
def fXJ (j : Nat) (v : Int64) (x : mCell) : mCell := match x with
  | .inr (.inl xs) => mJ (xs.set j v)
  | y => y
def fXR (j : Nat) (v : Nat) (x : mCell) : mCell := match x with
  | .inr (.inr (.inl (c, xs))) => mR c (xs.set j (some v))
  | y => y
section U
variable {h : mHeap} {a b c k t n : Nat} {v : Value} {j w : Int32} {wl : Int64}
theorem set_get {x : mCell} (e : a < h.length) : (h.set a x)[b]? = if a = b then some x else h[b]? := by
  rw [List.getElem?_set]
  by_cases q : a = b
  · rw [if_pos q, if_pos q, if_pos e]
  · rw [if_neg q, if_neg q]
theorem sF_get : (sF h a k v)[b]? = if a = b then (h[b]?).map (fO k v) else h[b]? := by
  unfold sF
  split
  · rename_i c0 fs hh
    rw [set_get (List.getElem?_eq_some_iff.mp hh).1]
    by_cases q : a = b
    · subst q
      rw [if_pos rfl, if_pos rfl, hh]
      rfl
    · rw [if_neg q, if_neg q]
  · rename_i hno
    by_cases q : a = b
    · subst q
      rw [if_pos rfl]
      cases hh : h[a]? with
      | none => rfl
      | some x =>
        match x, hh with
        | .inl _, _ => rfl
        | .inr (.inl _), _ => rfl
        | .inr (.inr (.inl _)), _ => rfl
        | .inr (.inr (.inr (c0, fs))), hh => exact absurd hh (hno _ _)
    · rw [if_neg q]
theorem sI_get : (sI h a j w)[b]? = if a = b then (h[b]?).map (fXI j.toNatClampNeg w) else h[b]? := by
  unfold sI
  split
  · rename_i c0 fs hh
    rw [set_get (List.getElem?_eq_some_iff.mp hh).1]
    by_cases q : a = b
    · subst q
      rw [if_pos rfl, if_pos rfl, hh]
      rfl
    · rw [if_neg q, if_neg q]
  · rename_i hno
    by_cases q : a = b
    · subst q
      rw [if_pos rfl]
      cases hh : h[a]? with
      | none => rfl
      | some x =>
        match x, hh with
        | .inl (c0, fs), hh => exact absurd hh (hno _ _)
        | .inr (.inl _), _ => rfl
        | .inr (.inr (.inl _)), _ => rfl
        | .inr (.inr (.inr _)), _ => rfl
    · rw [if_neg q]
theorem sJ_get : (sJ h a j wl)[b]? = if a = b then (h[b]?).map (fXJ j.toNatClampNeg wl) else h[b]? := by
  unfold sJ
  split
  · rename_i fs hh
    rw [set_get (List.getElem?_eq_some_iff.mp hh).1]
    by_cases q : a = b
    · subst q
      rw [if_pos rfl, if_pos rfl, hh]
      rfl
    · rw [if_neg q, if_neg q]
  · rename_i hno
    by_cases q : a = b
    · subst q
      rw [if_pos rfl]
      cases hh : h[a]? with
      | none => rfl
      | some x =>
        match x, hh with
        | .inl _, hh => rfl
        | .inr (.inl fs), hh => exact absurd hh (hno _)
        | .inr (.inr (.inl _)), _ => rfl
        | .inr (.inr (.inr _)), _ => rfl
    · rw [if_neg q]
theorem sR_get {r : Nat} : (sR h a j r)[b]? = if a = b then (h[b]?).map (fXR j.toNatClampNeg r) else h[b]? := by
  unfold sR
  split
  · rename_i c0 fs hh
    rw [set_get (List.getElem?_eq_some_iff.mp hh).1]
    by_cases q : a = b
    · subst q
      rw [if_pos rfl, if_pos rfl, hh]
      rfl
    · rw [if_neg q, if_neg q]
  · rename_i hno
    by_cases q : a = b
    · subst q
      rw [if_pos rfl]
      cases hh : h[a]? with
      | none => rfl
      | some x =>
        match x, hh with
        | .inl _, hh => rfl
        | .inr (.inl _), _ => rfl
        | .inr (.inr (.inl (c0, fs))), hh => exact absurd hh (hno _ _)
        | .inr (.inr (.inr _)), _ => rfl
    · rw [if_neg q]
/-! sizes -/
theorem len_sF : (sF h a k v).length = h.length := by unfold sF; split <;> simp
theorem len_sI : (sI h a j w).length = h.length := by unfold sI; split <;> simp
theorem len_sB : (sB h a j w).length = h.length := len_sI
theorem len_sJ : (sJ h a j wl).length = h.length := by unfold sJ; split <;> simp
theorem len_sR {r : Nat} : (sR h a j r).length = h.length := by unfold sR; split <;> simp
theorem sl_set {x y : mCell} (e : h[a]? = some x) (s : mSz y = mSz x) : mSlots (h.set a y) = mSlots h := mSlots_set e s
theorem sl_sF : mSlots (sF h a k v) = mSlots h := by
  unfold sF
  split
  · rename_i hh
    exact sl_set hh (by simp [mSz, mO])
  · rfl
theorem sl_sI : mSlots (sI h a j w) = mSlots h := by
  unfold sI
  split
  · rename_i hh
    exact sl_set hh (by simp [mSz, mI])
  · rfl
theorem sl_sB : mSlots (sB h a j w) = mSlots h := sl_sI
theorem sl_sJ : mSlots (sJ h a j wl) = mSlots h := by
  unfold sJ
  split
  · rename_i hh
    exact sl_set hh (by simp [mSz, mJ])
  · rfl
theorem sl_sR {r : Nat} : mSlots (sR h a j r) = mSlots h := by
  unfold sR
  split
  · rename_i hh
    exact sl_set hh (by simp [mSz, mR])
  · rfl
/-! kinds -/
theorem kd_get {h' : mHeap} {f : mCell → mCell} (e : h'[b]? = if a = b then (h[b]?).map f else h[b]?) (s : ∀ x, h[a]? = some x → kdC (f x) = kdC x) : kd h' b = kd h b := by
  unfold kd
  rw [e]
  by_cases q : a = b
  · subst q
    rw [if_pos rfl]
    cases hh : h[a]? with
    | none => rfl
    | some x => exact s x hh
  · rw [if_neg q]
theorem kd_sI : kd (sI h a j w) b = kd h b := kd_get sI_get (fun x _ => by
  match x with
  | .inl (ty, xs) => simp [fXI, kdC, mI]
  | .inr (.inl _) => rfl
  | .inr (.inr (.inl _)) => rfl
  | .inr (.inr (.inr _)) => rfl)
theorem kd_sB : kd (sB h a j w) b = kd h b := kd_sI
theorem kd_sJ : kd (sJ h a j wl) b = kd h b := kd_get sJ_get (fun x _ => by
  match x with
  | .inl _ => rfl
  | .inr (.inl _) => simp [fXJ, kdC, mJ]
  | .inr (.inr (.inl _)) => rfl
  | .inr (.inr (.inr _)) => rfl)
theorem kd_sR {r : Nat} : kd (sR h a j r) b = kd h b := kd_get sR_get (fun x _ => by
  match x with
  | .inl _ => rfl
  | .inr (.inl _) => rfl
  | .inr (.inr (.inl (c0, xs))) => simp [fXR, kdC, mR]
  | .inr (.inr (.inr _)) => rfl)
theorem kd_sF (e : tgK (kd h a) k = some (tgV v)) : kd (sF h a k v) b = kd h b := kd_get sF_get (fun x hx => by
  match x, hx with
  | .inl _, _ => rfl
  | .inr (.inl _), _ => rfl
  | .inr (.inr (.inl _)), _ => rfl
  | .inr (.inr (.inr (c0, fs))), hx =>
    rw [kd_some hx] at e
    have e : (fs.map tgV)[k]? = some (tgV v) := e
    show ((4, c0, (fs.set k v).map tgV) : mKd) = (4, c0, fs.map tgV)
    rw [List.map_set]
    obtain ⟨hk, he⟩ := List.getElem?_eq_some_iff.mp e
    rw [← he, List.set_getElem_self])
/-- any field put: the kind of its own cell -/
theorem kd_sF' : kd (sF h a k v) b = if a = b ∧ (kd h a).1 = 4 then (4, (kd h a).2.1, (kd h a).2.2.set k (tgV v)) else kd h b := by
  by_cases q : a = b
  · subst q
    cases hh : h[a]? with
    | none => rw [kd_none (h := sF h a k v) (by rw [sF_get, if_pos rfl, hh]; rfl), kd_none hh]; simp
    | some x =>
      rw [kd_some (h := sF h a k v) (x := fO k v x) (by rw [sF_get, if_pos rfl, hh]; rfl), kd_some hh]
      match x with
      | .inl _ => simp [kdC, fO]
      | .inr (.inl _) => simp [kdC, fO]
      | .inr (.inr (.inl _)) => simp [kdC, fO]
      | .inr (.inr (.inr (c0, fs))) =>
        rw [if_pos ⟨rfl, rfl⟩]
        show ((4, c0, (fs.set k v).map tgV) : mKd) = (4, c0, (fs.map tgV).set k (tgV v))
        rw [List.map_set]
  · rw [if_neg (fun e => q e.1)]
    unfold kd
    rw [sF_get, if_neg q]
theorem oC_sF : oC (sF h a k v) b = oC h b := by
  unfold oC
  rw [sF_get]
  by_cases q : a = b
  · subst q
    rw [if_pos rfl]
    cases hh : h[a]? with
    | none => rfl
    | some x =>
      match x with
      | .inl _ => rfl
      | .inr (.inl _) => rfl
      | .inr (.inr (.inl _)) => rfl
      | .inr (.inr (.inr _)) => rfl
  · rw [if_neg q]
theorem oC_kd' : oC h a = if (kd h a).1 = 4 then (kd h a).2.1 else 999 := by
  unfold oC
  cases hh : h[a]? with
  | none => rw [kd_none hh]; rfl
  | some x =>
    rw [kd_some hh]
    match x with
    | .inl _ => rfl
    | .inr (.inl _) => rfl
    | .inr (.inr (.inl _)) => rfl
    | .inr (.inr (.inr _)) => rfl
theorem oC_sI : oC (sI h a j w) b = oC h b := by rw [oC_kd', oC_kd', kd_sI]
theorem oC_sB : oC (sB h a j w) b = oC h b := oC_sI
theorem oC_sJ : oC (sJ h a j wl) b = oC h b := by rw [oC_kd', oC_kd', kd_sJ]
theorem oC_sR {r : Nat} : oC (sR h a j r) b = oC h b := by rw [oC_kd', oC_kd', kd_sR]
/-! contents -/
theorem oF_sF : oF (sF h a k v) b = if a = b then (oF h b).set k v else oF h b := by
  unfold oF
  rw [sF_get]
  by_cases q : a = b
  · subst q
    rw [if_pos rfl, if_pos rfl]
    cases hh : h[a]? with
    | none => rfl
    | some x =>
      match x with
      | .inl _ => rfl
      | .inr (.inl _) => rfl
      | .inr (.inr (.inl _)) => rfl
      | .inr (.inr (.inr _)) => rfl
  · rw [if_neg q, if_neg q]
theorem oF_sI : oF (sI h a j w) b = oF h b := by
  unfold oF
  rw [sI_get]
  by_cases q : a = b
  · subst q
    rw [if_pos rfl]
    cases hh : h[a]? with
    | none => rfl
    | some x =>
      match x with
      | .inl _ => rfl
      | .inr (.inl _) => rfl
      | .inr (.inr (.inl _)) => rfl
      | .inr (.inr (.inr _)) => rfl
  · rw [if_neg q]
theorem oF_sJ : oF (sJ h a j wl) b = oF h b := by
  unfold oF
  rw [sJ_get]
  by_cases q : a = b
  · subst q
    rw [if_pos rfl]
    cases hh : h[a]? with
    | none => rfl
    | some x =>
      match x with
      | .inl _ => rfl
      | .inr (.inl _) => rfl
      | .inr (.inr (.inl _)) => rfl
      | .inr (.inr (.inr _)) => rfl
  · rw [if_neg q]
theorem oF_sR {r : Nat} : oF (sR h a j r) b = oF h b := by
  unfold oF
  rw [sR_get]
  by_cases q : a = b
  · subst q
    rw [if_pos rfl]
    cases hh : h[a]? with
    | none => rfl
    | some x =>
      match x with
      | .inl _ => rfl
      | .inr (.inl _) => rfl
      | .inr (.inr (.inl _)) => rfl
      | .inr (.inr (.inr _)) => rfl
  · rw [if_neg q]
theorem fI_sI : fI (sI h a j w) b k = fI h b k := by unfold fI; rw [oF_sI]
theorem fI_sB : fI (sB h a j w) b k = fI h b k := fI_sI
theorem fI_sJ : fI (sJ h a j wl) b k = fI h b k := by unfold fI; rw [oF_sJ]
theorem fI_sR {r : Nat} : fI (sR h a j r) b k = fI h b k := by unfold fI; rw [oF_sR]
theorem fJ_sI : fJ (sI h a j w) b k = fJ h b k := by unfold fJ; rw [oF_sI]
theorem fJ_sB : fJ (sB h a j w) b k = fJ h b k := fJ_sI
theorem fJ_sJ : fJ (sJ h a j wl) b k = fJ h b k := by unfold fJ; rw [oF_sJ]
theorem fJ_sR {r : Nat} : fJ (sR h a j r) b k = fJ h b k := by unfold fJ; rw [oF_sR]
theorem tgK_lt {q : mKd} {s : Nat} (e : tgK q k = some s) : q.1 = 4 ∧ k < q.2.2.length := by
  unfold tgK at e
  split at e
  · rename_i h4
    exact ⟨h4, (List.getElem?_eq_some_iff.mp e).1⟩
  · cases e
theorem fld_lt {s : Nat} (e : tgK (kd h a) k = some s) : k < (oF h a).length := by
  obtain ⟨h1, h2⟩ := tgK_lt e
  rw [(kd4 h1).2] at h2
  have h2 : k < ((oF h a).map tgV).length := h2
  rw [List.length_map] at h2
  exact h2
theorem fI_sF {k' s : Nat} {x : Int32} (e : tgK (kd h a) k = some s) : fI (sF h a k (.int x)) b k' = if a = b ∧ k = k' then x else fI h b k' := by
  unfold fI
  rw [oF_sF]
  by_cases q : a = b
  · subst q
    rw [if_pos rfl]
    by_cases p : k = k'
    · subst p
      rw [if_pos ⟨rfl, rfl⟩, List.getElem?_set_self (fld_lt e)]
      rfl
    · rw [if_neg (fun g => p g.2), List.getElem?_set_ne p]
  · rw [if_neg q, if_neg (fun g => q g.1)]
theorem fI_sF_o {k' : Nat} (e : ¬ (a = b ∧ k = k')) : fI (sF h a k v) b k' = fI h b k' := by
  unfold fI
  rw [oF_sF]
  by_cases q : a = b
  · subst q
    rw [if_pos rfl]
    rw [List.getElem?_set_ne (fun p => e ⟨rfl, p⟩)]
  · rw [if_neg q]
theorem fJ_sF {k' s : Nat} {x : Int64} (e : tgK (kd h a) k = some s) : fJ (sF h a k (.long x)) b k' = if a = b ∧ k = k' then x else fJ h b k' := by
  unfold fJ
  rw [oF_sF]
  by_cases q : a = b
  · subst q
    rw [if_pos rfl]
    by_cases p : k = k'
    · subst p
      rw [if_pos ⟨rfl, rfl⟩, List.getElem?_set_self (fld_lt e)]
      rfl
    · rw [if_neg (fun g => p g.2), List.getElem?_set_ne p]
  · rw [if_neg q, if_neg (fun g => q g.1)]
theorem fJ_sF_o {k' : Nat} (e : ¬ (a = b ∧ k = k')) : fJ (sF h a k v) b k' = fJ h b k' := by
  unfold fJ
  rw [oF_sF]
  by_cases q : a = b
  · subst q
    rw [if_pos rfl]
    rw [List.getElem?_set_ne (fun p => e ⟨rfl, p⟩)]
  · rw [if_neg q]
theorem aI_sF : aI (sF h a k v) b = aI h b := by
  unfold aI
  rw [sF_get]
  by_cases q : a = b
  · subst q
    rw [if_pos rfl]
    cases hh : h[a]? with
    | none => rfl
    | some x =>
      match x with
      | .inl _ => rfl
      | .inr (.inl _) => rfl
      | .inr (.inr (.inl _)) => rfl
      | .inr (.inr (.inr _)) => rfl
  · rw [if_neg q]
theorem aI_sJ : aI (sJ h a j wl) b = aI h b := by
  unfold aI
  rw [sJ_get]
  by_cases q : a = b
  · subst q
    rw [if_pos rfl]
    cases hh : h[a]? with
    | none => rfl
    | some x =>
      match x with
      | .inl _ => rfl
      | .inr (.inl _) => rfl
      | .inr (.inr (.inl _)) => rfl
      | .inr (.inr (.inr _)) => rfl
  · rw [if_neg q]
theorem aI_sR {r : Nat} : aI (sR h a j r) b = aI h b := by
  unfold aI
  rw [sR_get]
  by_cases q : a = b
  · subst q
    rw [if_pos rfl]
    cases hh : h[a]? with
    | none => rfl
    | some x =>
      match x with
      | .inl _ => rfl
      | .inr (.inl _) => rfl
      | .inr (.inr (.inl _)) => rfl
      | .inr (.inr (.inr _)) => rfl
  · rw [if_neg q]
theorem aI_sI : aI (sI h a j w) b = if a = b then (aI h b).set j.toNatClampNeg w else aI h b := by
  unfold aI
  rw [sI_get]
  by_cases q : a = b
  · subst q
    rw [if_pos rfl, if_pos rfl]
    cases hh : h[a]? with
    | none => rfl
    | some x =>
      match x with
      | .inl _ => rfl
      | .inr (.inl _) => rfl
      | .inr (.inr (.inl _)) => rfl
      | .inr (.inr (.inr _)) => rfl
  · rw [if_neg q, if_neg q]
theorem aJ_sF : aJ (sF h a k v) b = aJ h b := by
  unfold aJ
  rw [sF_get]
  by_cases q : a = b
  · subst q
    rw [if_pos rfl]
    cases hh : h[a]? with
    | none => rfl
    | some x =>
      match x with
      | .inl _ => rfl
      | .inr (.inl _) => rfl
      | .inr (.inr (.inl _)) => rfl
      | .inr (.inr (.inr _)) => rfl
  · rw [if_neg q]
theorem aJ_sI : aJ (sI h a j w) b = aJ h b := by
  unfold aJ
  rw [sI_get]
  by_cases q : a = b
  · subst q
    rw [if_pos rfl]
    cases hh : h[a]? with
    | none => rfl
    | some x =>
      match x with
      | .inl _ => rfl
      | .inr (.inl _) => rfl
      | .inr (.inr (.inl _)) => rfl
      | .inr (.inr (.inr _)) => rfl
  · rw [if_neg q]
theorem aJ_sR {r : Nat} : aJ (sR h a j r) b = aJ h b := by
  unfold aJ
  rw [sR_get]
  by_cases q : a = b
  · subst q
    rw [if_pos rfl]
    cases hh : h[a]? with
    | none => rfl
    | some x =>
      match x with
      | .inl _ => rfl
      | .inr (.inl _) => rfl
      | .inr (.inr (.inl _)) => rfl
      | .inr (.inr (.inr _)) => rfl
  · rw [if_neg q]
theorem aJ_sJ : aJ (sJ h a j wl) b = if a = b then (aJ h b).set j.toNatClampNeg wl else aJ h b := by
  unfold aJ
  rw [sJ_get]
  by_cases q : a = b
  · subst q
    rw [if_pos rfl, if_pos rfl]
    cases hh : h[a]? with
    | none => rfl
    | some x =>
      match x with
      | .inl _ => rfl
      | .inr (.inl _) => rfl
      | .inr (.inr (.inl _)) => rfl
      | .inr (.inr (.inr _)) => rfl
  · rw [if_neg q, if_neg q]
theorem aR_sF : aR (sF h a k v) b = aR h b := by
  unfold aR
  rw [sF_get]
  by_cases q : a = b
  · subst q
    rw [if_pos rfl]
    cases hh : h[a]? with
    | none => rfl
    | some x =>
      match x with
      | .inl _ => rfl
      | .inr (.inl _) => rfl
      | .inr (.inr (.inl _)) => rfl
      | .inr (.inr (.inr _)) => rfl
  · rw [if_neg q]
theorem aR_sI : aR (sI h a j w) b = aR h b := by
  unfold aR
  rw [sI_get]
  by_cases q : a = b
  · subst q
    rw [if_pos rfl]
    cases hh : h[a]? with
    | none => rfl
    | some x =>
      match x with
      | .inl _ => rfl
      | .inr (.inl _) => rfl
      | .inr (.inr (.inl _)) => rfl
      | .inr (.inr (.inr _)) => rfl
  · rw [if_neg q]
theorem aR_sJ : aR (sJ h a j wl) b = aR h b := by
  unfold aR
  rw [sJ_get]
  by_cases q : a = b
  · subst q
    rw [if_pos rfl]
    cases hh : h[a]? with
    | none => rfl
    | some x =>
      match x with
      | .inl _ => rfl
      | .inr (.inl _) => rfl
      | .inr (.inr (.inl _)) => rfl
      | .inr (.inr (.inr _)) => rfl
  · rw [if_neg q]
theorem aR_sR {r : Nat} : aR (sR h a j r) b = if a = b then (aR h b).set j.toNatClampNeg (some r) else aR h b := by
  unfold aR
  rw [sR_get]
  by_cases q : a = b
  · subst q
    rw [if_pos rfl, if_pos rfl]
    cases hh : h[a]? with
    | none => rfl
    | some x =>
      match x with
      | .inl _ => rfl
      | .inr (.inl _) => rfl
      | .inr (.inr (.inl _)) => rfl
      | .inr (.inr (.inr _)) => rfl
  · rw [if_neg q, if_neg q]
theorem xA_sF : xA (sF h a k v) b = xA h b := by funext i; unfold xA; rw [aI_sF]
theorem xA_sJ : xA (sJ h a j wl) b = xA h b := by funext i; unfold xA; rw [aI_sJ]
theorem xA_sR {r : Nat} : xA (sR h a j r) b = xA h b := by funext i; unfold xA; rw [aI_sR]
theorem xJ_sF : xJ (sF h a k v) b = xJ h b := by funext i; unfold xJ; rw [aJ_sF]
theorem xJ_sI : xJ (sI h a j w) b = xJ h b := by funext i; unfold xJ; rw [aJ_sI]
theorem xJ_sB : xJ (sB h a j w) b = xJ h b := xJ_sI
theorem xJ_sR {r : Nat} : xJ (sR h a j r) b = xJ h b := by funext i; unfold xJ; rw [aJ_sR]
theorem xR_sF : xR (sF h a k v) b = xR h b := by funext i; unfold xR; rw [aR_sF]
theorem xR_sI : xR (sI h a j w) b = xR h b := by funext i; unfold xR; rw [aR_sI]
theorem xR_sB : xR (sB h a j w) b = xR h b := xR_sI
theorem xR_sJ : xR (sJ h a j wl) b = xR h b := by funext i; unfold xR; rw [aR_sJ]
theorem getD_set {α : Type} {xs : List α} {i m : Nat} {x dflt : α} (e : m < xs.length) : (xs.set m x).getD i dflt = if i = m then x else xs.getD i dflt := by
  rw [List.getD_eq_getElem?_getD, List.getD_eq_getElem?_getD, List.getElem?_set]
  by_cases q : i = m
  · subst q
    rw [if_pos rfl, if_pos e, if_pos rfl]
    rfl
  · rw [if_neg (fun g => q g.symm), if_neg q]
theorem ln1 (e1 : (kd h a).1 = 1) : lnK (kd h a) = (aI h a).length := by rw [(kd1 e1).2]; rfl
theorem ln2 (e1 : (kd h a).1 = 2) : lnK (kd h a) = (aJ h a).length := by rw [(kd2 e1).2]; rfl
theorem ln3 (e1 : (kd h a).1 = 3) : lnK (kd h a) = (aR h a).length := by rw [(kd3 e1).2]; rfl
theorem xA_sI (e1 : (kd h a).1 = 1) (e : j.toNatClampNeg < lnK (kd h a)) : xA (sI h a j w) b = if a = b then upf (xA h a) j.toNatClampNeg w else xA h b := by
  rw [ln1 e1] at e
  funext i
  show (aI (sI h a j w) b).getD i 0 = _
  rw [aI_sI]
  by_cases q : a = b
  · subst q
    rw [if_pos rfl, if_pos rfl, getD_set e]
    rfl
  · rw [if_neg q, if_neg q]
    rfl
theorem xA_sI_o (e : ¬ a = b) : xA (sI h a j w) b = xA h b := by
  funext i
  unfold xA
  rw [aI_sI, if_neg e]
theorem xJ_sJ (e1 : (kd h a).1 = 2) (e : j.toNatClampNeg < lnK (kd h a)) : xJ (sJ h a j wl) b = if a = b then upf (xJ h a) j.toNatClampNeg wl else xJ h b := by
  rw [ln2 e1] at e
  funext i
  show (aJ (sJ h a j wl) b).getD i 0 = _
  rw [aJ_sJ]
  by_cases q : a = b
  · subst q
    rw [if_pos rfl, if_pos rfl, getD_set e]
    rfl
  · rw [if_neg q, if_neg q]
    rfl
theorem xR_sR {r : Nat} (e1 : (kd h a).1 = 3) (e : j.toNatClampNeg < lnK (kd h a)) : xR (sR h a j r) b = if a = b then upf (xR h a) j.toNatClampNeg (some r) else xR h b := by
  rw [ln3 e1] at e
  funext i
  show (aR (sR h a j r) b).getD i none = _
  rw [aR_sR]
  by_cases q : a = b
  · subst q
    rw [if_pos rfl, if_pos rfl, getD_set e]
    rfl
  · rw [if_neg q, if_neg q]
    rfl
end U
