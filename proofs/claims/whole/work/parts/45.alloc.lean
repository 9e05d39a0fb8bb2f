/-! NEW CELLS, STATICS, LOOPS -/
section Al
variable {h : mHeap} {a b c k : Nat} {n : Int32}
theorem get_app {x : mCell} : (h ++ [x])[b]? = if b = h.length then some x else h[b]? := by
  by_cases q : b < h.length
  · rw [List.getElem?_append_left q, if_neg (by omega)]
  · rw [List.getElem?_append_right (by omega)]
    by_cases p : b = h.length
    · rw [if_pos p, p, Nat.sub_self]; rfl
    · rw [if_neg p, List.getElem?_eq_none (by simp; omega), List.getElem?_eq_none (by omega)]
theorem kd_lt (e : ¬ (kd h a).1 = 0) : a < h.length := by
  by_cases q : a < h.length
  · exact q
  · exact absurd (by rw [kd_none (List.getElem?_eq_none (by omega))]) e
theorem kd_app {x : mCell} : kd (h ++ [x]) b = if b = h.length then kdC x else kd h b := by
  unfold kd
  rw [get_app]
  by_cases p : b = h.length
  · rw [if_pos p, if_pos p]
  · rw [if_neg p, if_neg p]
theorem kd_nA {ty : FieldType} : kd (nA h ty n) b = if b = h.length then (1, tyN ty, [n.toNatClampNeg]) else kd h b := by
  unfold nA
  rw [kd_app]
  simp [kdC, mI]
theorem kd_nJ : kd (nJ h n) b = if b = h.length then (2, 0, [n.toNatClampNeg]) else kd h b := by
  unfold nJ
  rw [kd_app]
  simp [kdC, mJ]
theorem kd_nR : kd (nR h c n) b = if b = h.length then (3, c, [n.toNatClampNeg]) else kd h b := by
  unfold nR
  rw [kd_app]
  simp [kdC, mR]
theorem kd_nO : kd (nO h c) b = if b = h.length then kdC (mNew mNf mTy c) else kd h b := by
  unfold nO
  rw [kd_app]
theorem kd_nCl : kd (nCl h a) b = if b = h.length then (1, 1, [(aI h a).length]) else kd h b := by
  unfold nCl
  rw [kd_app]
  rfl
theorem len_nA {ty : FieldType} : (nA h ty n).length = h.length + 1 := by simp [nA]
theorem len_nJ : (nJ h n).length = h.length + 1 := by simp [nJ]
theorem len_nR : (nR h c n).length = h.length + 1 := by simp [nR]
theorem len_nO : (nO h c).length = h.length + 1 := by simp [nO]
theorem len_nCl : (nCl h a).length = h.length + 1 := by simp [nCl]
theorem sl_app {x : mCell} : mSlots (h ++ [x]) = mSlots h + mSz x := by
  unfold mSlots
  simp
theorem sl_nA {ty : FieldType} : mSlots (nA h ty n) = mSlots h + n.toNatClampNeg := by unfold nA; rw [sl_app]; simp [mSz, mI]
theorem sl_nJ : mSlots (nJ h n) = mSlots h + n.toNatClampNeg := by unfold nJ; rw [sl_app]; simp [mSz, mJ]
theorem sl_nR : mSlots (nR h c n) = mSlots h + n.toNatClampNeg := by unfold nR; rw [sl_app]; simp [mSz, mR]
theorem sl_nO : mSlots (nO h c) = mSlots h + mNf c := by unfold nO; rw [sl_app]; simp [mSz, mNew, mO]
theorem sl_nCl : mSlots (nCl h a) = mSlots h + (aI h a).length := by unfold nCl; rw [sl_app]; simp [mSz, mI]
/-! contents: a new cell shows what no cell shows -/
theorem non_at (e : h[b]? = none) : oF h b = [] ∧ aI h b = [] ∧ aJ h b = [] ∧ aR h b = [] := by
  unfold oF aI aJ aR
  rw [e]
  exact ⟨rfl, rfl, rfl, rfl⟩
theorem zero_vI : ∀ (l : List Nat) (i : Nat), vI (l.map (fun k => mZero (mTy c k)))[i]? = 0 := by
  intro l i
  rw [List.getElem?_map]
  cases l[i]? with
  | none => rfl
  | some k =>
    show vI (some (mZero (mTy c k))) = 0
    generalize mTy c k = ty
    cases ty <;> rfl
theorem zero_vJ : ∀ (l : List Nat) (i : Nat), vJ (l.map (fun k => mZero (mTy c k)))[i]? = 0 := by
  intro l i
  rw [List.getElem?_map]
  cases l[i]? with
  | none => rfl
  | some k =>
    show vJ (some (mZero (mTy c k))) = 0
    generalize mTy c k = ty
    cases ty <;> rfl
theorem oF_app {x : mCell} : oF (h ++ [x]) b = if b = h.length then (match x with | .inr (.inr (.inr (_, fs))) => fs | _ => []) else oF h b := by
  unfold oF
  rw [get_app]
  by_cases p : b = h.length
  · rw [if_pos p, if_pos p]
    match x with
    | .inl _ => rfl
    | .inr (.inl _) => rfl
    | .inr (.inr (.inl _)) => rfl
    | .inr (.inr (.inr _)) => rfl
  · rw [if_neg p, if_neg p]
theorem oF_end : oF h h.length = [] := (non_at (List.getElem?_eq_none (Nat.le_refl _))).1
theorem fI_nO : fI (nO h c) b k = fI h b k := by
  unfold fI nO
  rw [oF_app]
  by_cases p : b = h.length
  · rw [if_pos p, p, oF_end]
    show vI ((List.range (mNf c)).map _)[k]? = _
    rw [zero_vI]
    rfl
  · rw [if_neg p]
theorem fJ_nO : fJ (nO h c) b k = fJ h b k := by
  unfold fJ nO
  rw [oF_app]
  by_cases p : b = h.length
  · rw [if_pos p, p, oF_end]
    show vJ ((List.range (mNf c)).map _)[k]? = _
    rw [zero_vJ]
    rfl
  · rw [if_neg p]
theorem oF_nA {ty : FieldType} : oF (nA h ty n) b = oF h b := by
  unfold nA
  rw [oF_app]
  by_cases p : b = h.length
  · rw [if_pos p, p, oF_end] <;> rfl
  · rw [if_neg p]
theorem oF_nJ : oF (nJ h n) b = oF h b := by
  unfold nJ
  rw [oF_app]
  by_cases p : b = h.length
  · rw [if_pos p, p, oF_end] <;> rfl
  · rw [if_neg p]
theorem oF_nR : oF (nR h c n) b = oF h b := by
  unfold nR
  rw [oF_app]
  by_cases p : b = h.length
  · rw [if_pos p, p, oF_end] <;> rfl
  · rw [if_neg p]
theorem oF_nCl : oF (nCl h a) b = oF h b := by
  unfold nCl
  rw [oF_app]
  by_cases p : b = h.length
  · rw [if_pos p, p, oF_end] <;> rfl
  · rw [if_neg p]
theorem fI_nA {ty : FieldType} : fI (nA h ty n) b k = fI h b k := by unfold fI; rw [oF_nA]
theorem fI_nJ : fI (nJ h n) b k = fI h b k := by unfold fI; rw [oF_nJ]
theorem fI_nR : fI (nR h c n) b k = fI h b k := by unfold fI; rw [oF_nR]
theorem fI_nCl : fI (nCl h a) b k = fI h b k := by unfold fI; rw [oF_nCl]
theorem fJ_nA {ty : FieldType} : fJ (nA h ty n) b k = fJ h b k := by unfold fJ; rw [oF_nA]
theorem fJ_nJ : fJ (nJ h n) b k = fJ h b k := by unfold fJ; rw [oF_nJ]
theorem fJ_nR : fJ (nR h c n) b k = fJ h b k := by unfold fJ; rw [oF_nR]
theorem fJ_nCl : fJ (nCl h a) b k = fJ h b k := by unfold fJ; rw [oF_nCl]
theorem aI_app {x : mCell} : aI (h ++ [x]) b = if b = h.length then (match x with | .inl (_, xs) => xs | _ => []) else aI h b := by
  unfold aI
  rw [get_app]
  by_cases p : b = h.length
  · rw [if_pos p, if_pos p]
    match x with
    | .inl _ => rfl
    | .inr (.inl _) => rfl
    | .inr (.inr (.inl _)) => rfl
    | .inr (.inr (.inr _)) => rfl
  · rw [if_neg p, if_neg p]
theorem aJ_app {x : mCell} : aJ (h ++ [x]) b = if b = h.length then (match x with | .inr (.inl xs) => xs | _ => []) else aJ h b := by
  unfold aJ
  rw [get_app]
  by_cases p : b = h.length
  · rw [if_pos p, if_pos p]
    match x with
    | .inl _ => rfl
    | .inr (.inl _) => rfl
    | .inr (.inr (.inl _)) => rfl
    | .inr (.inr (.inr _)) => rfl
  · rw [if_neg p, if_neg p]
theorem aR_app {x : mCell} : aR (h ++ [x]) b = if b = h.length then (match x with | .inr (.inr (.inl (_, xs))) => xs | _ => []) else aR h b := by
  unfold aR
  rw [get_app]
  by_cases p : b = h.length
  · rw [if_pos p, if_pos p]
    match x with
    | .inl _ => rfl
    | .inr (.inl _) => rfl
    | .inr (.inr (.inl _)) => rfl
    | .inr (.inr (.inr _)) => rfl
  · rw [if_neg p, if_neg p]
theorem aI_end : aI h h.length = [] := (non_at (List.getElem?_eq_none (Nat.le_refl _))).2.1
theorem aJ_end : aJ h h.length = [] := (non_at (List.getElem?_eq_none (Nat.le_refl _))).2.2.1
theorem aR_end : aR h h.length = [] := (non_at (List.getElem?_eq_none (Nat.le_refl _))).2.2.2
theorem getD_rep {α : Type} {x : α} {m i : Nat} : (List.replicate m x).getD i x = x := by
  rw [List.getD_eq_getElem?_getD, List.getElem?_replicate]
  split <;> rfl
theorem xA_nA {ty : FieldType} : xA (nA h ty n) b = xA h b := by
  funext i
  unfold xA nA
  rw [aI_app]
  by_cases p : b = h.length
  · rw [if_pos p, p, aI_end]
    exact getD_rep
  · rw [if_neg p]
theorem xA_nJ : xA (nJ h n) b = xA h b := by
  funext i
  unfold xA nJ
  rw [aI_app]
  by_cases p : b = h.length
  · rw [if_pos p, p, aI_end] <;> rfl
  · rw [if_neg p]
theorem xA_nR : xA (nR h c n) b = xA h b := by
  funext i
  unfold xA nR
  rw [aI_app]
  by_cases p : b = h.length
  · rw [if_pos p, p, aI_end] <;> rfl
  · rw [if_neg p]
theorem xA_nO : xA (nO h c) b = xA h b := by
  funext i
  unfold xA nO
  rw [aI_app]
  by_cases p : b = h.length
  · rw [if_pos p, p, aI_end] <;> rfl
  · rw [if_neg p]
theorem xA_nCl : xA (nCl h a) b = if b = h.length then xA h a else xA h b := by
  funext i
  show (aI (nCl h a) b).getD i 0 = _
  unfold nCl
  rw [aI_app]
  by_cases p : b = h.length
  · rw [if_pos p, if_pos p]; rfl
  · rw [if_neg p, if_neg p]; rfl
theorem xJ_nA {ty : FieldType} : xJ (nA h ty n) b = xJ h b := by
  funext i
  unfold xJ nA
  rw [aJ_app]
  by_cases p : b = h.length
  · rw [if_pos p, p, aJ_end] <;> rfl
  · rw [if_neg p]
theorem xJ_nJ : xJ (nJ h n) b = xJ h b := by
  funext i
  unfold xJ nJ
  rw [aJ_app]
  by_cases p : b = h.length
  · rw [if_pos p, p, aJ_end]
    exact getD_rep
  · rw [if_neg p]
theorem xJ_nR : xJ (nR h c n) b = xJ h b := by
  funext i
  unfold xJ nR
  rw [aJ_app]
  by_cases p : b = h.length
  · rw [if_pos p, p, aJ_end] <;> rfl
  · rw [if_neg p]
theorem xJ_nO : xJ (nO h c) b = xJ h b := by
  funext i
  unfold xJ nO
  rw [aJ_app]
  by_cases p : b = h.length
  · rw [if_pos p, p, aJ_end] <;> rfl
  · rw [if_neg p]
theorem xJ_nCl : xJ (nCl h a) b = xJ h b := by
  funext i
  unfold xJ nCl
  rw [aJ_app]
  by_cases p : b = h.length
  · rw [if_pos p, p, aJ_end] <;> rfl
  · rw [if_neg p]
theorem xR_nA {ty : FieldType} : xR (nA h ty n) b = xR h b := by
  funext i
  unfold xR nA
  rw [aR_app]
  by_cases p : b = h.length
  · rw [if_pos p, p, aR_end] <;> rfl
  · rw [if_neg p]
theorem xR_nJ : xR (nJ h n) b = xR h b := by
  funext i
  unfold xR nJ
  rw [aR_app]
  by_cases p : b = h.length
  · rw [if_pos p, p, aR_end] <;> rfl
  · rw [if_neg p]
theorem xR_nR : xR (nR h c n) b = xR h b := by
  funext i
  unfold xR nR
  rw [aR_app]
  by_cases p : b = h.length
  · rw [if_pos p, p, aR_end]
    exact getD_rep
  · rw [if_neg p]
theorem xR_nO : xR (nO h c) b = xR h b := by
  funext i
  unfold xR nO
  rw [aR_app]
  by_cases p : b = h.length
  · rw [if_pos p, p, aR_end] <;> rfl
  · rw [if_neg p]
theorem xR_nCl : xR (nCl h a) b = xR h b := by
  funext i
  unfold xR nCl
  rw [aR_app]
  by_cases p : b = h.length
  · rw [if_pos p, p, aR_end] <;> rfl
  · rw [if_neg p]
theorem wo_nA {ty : FieldType} : wo (nA h ty n) b = wo h b := by unfold wo; rw [fJ_nA, fJ_nA, fJ_nA, fJ_nA]
theorem wo_nR : wo (nR h c n) b = wo h b := by unfold wo; rw [fJ_nR, fJ_nR, fJ_nR, fJ_nR]
theorem wo_nO : wo (nO h c) b = wo h b := by unfold wo; rw [fJ_nO, fJ_nO, fJ_nO, fJ_nO]
theorem wo_nJ : wo (nJ h n) b = wo h b := by unfold wo; rw [fJ_nJ, fJ_nJ, fJ_nJ, fJ_nJ]
theorem wo_sI {j w : Int32} : wo (sI h a j w) b = wo h b := by unfold wo; rw [fJ_sI, fJ_sI, fJ_sI, fJ_sI]
theorem wo_sR {j : Int32} {r : Nat} : wo (sR h a j r) b = wo h b := by unfold wo; rw [fJ_sR, fJ_sR, fJ_sR, fJ_sR]
theorem wo_sJ {j : Int32} {w : Int64} : wo (sJ h a j w) b = wo h b := by unfold wo; rw [fJ_sJ, fJ_sJ, fJ_sJ, fJ_sJ]
theorem wo_sF {v : Value} (e : ¬ a = b ∨ 4 ≤ k) : wo (sF h a k v) b = wo h b := by
  unfold wo
  rw [fJ_sF_o (by omega), fJ_sF_o (by omega), fJ_sF_o (by omega), fJ_sF_o (by omega)]
/-- an int put into a field leaves every set as it was -/
theorem wo_sFi {x : Int32} (e : tgK (kd h a) k = some 0) : wo (sF h a k (.int x)) b = wo h b := by
  have key : ∀ k', fJ (sF h a k (.int x)) b k' = fJ h b k' := by
    intro k'
    by_cases q : a = b ∧ k = k'
    · obtain ⟨rfl, rfl⟩ := q
      unfold fJ
      rw [oF_sF, if_pos rfl, List.getElem?_set_self (fld_lt e)]
      obtain ⟨h1, h2⟩ := tgK_lt e
      unfold tgK at e
      rw [if_pos h1, (kd4 h1).2] at e
      have e : ((oF h a).map tgV)[k]? = some 0 := e
      rw [List.getElem?_map] at e
      cases hv : (oF h a)[k]? with
      | none => rfl
      | some v =>
        rw [hv] at e
        have e : tgV v = 0 := Option.some.inj e
        cases v <;> first | rfl | cases e
    · exact fJ_sF_o q
  unfold wo
  rw [key, key, key, key]
/-! the statics stay -/
theorem St_get {h' : mHeap} (hS : St h) (e : ∀ b, b < 64 → h'[b]? = h[b]?) : St h' := by
  obtain ⟨X, hX⟩ := hS
  exact ⟨X, fun b hb => (e b hb).trans (hX b hb)⟩
theorem St_sF {v : Value} (ha : 64 ≤ a) (hS : St h) : St (sF h a k v) := St_get hS fun b hb => by rw [sF_get, if_neg (by omega)]
theorem St_sI {j w : Int32} (ha : 64 ≤ a) (hS : St h) : St (sI h a j w) := St_get hS fun b hb => by rw [sI_get, if_neg (by omega)]
theorem St_sB {j w : Int32} (ha : 64 ≤ a) (hS : St h) : St (sB h a j w) := St_sI ha hS
theorem St_sJ {j : Int32} {w : Int64} (ha : 64 ≤ a) (hS : St h) : St (sJ h a j w) := St_get hS fun b hb => by rw [sJ_get, if_neg (by omega)]
theorem St_sR {j : Int32} {w : Nat} (ha : 64 ≤ a) (hS : St h) : St (sR h a j w) := St_get hS fun b hb => by rw [sR_get, if_neg (by omega)]
theorem St_pW {w : Nat → Bool} (ha : 64 ≤ a) (hS : St h) : St (pW h a w) := St_get hS fun b hb => by rw [get_pW (by omega)]
theorem St_len (hS : St h) : 64 ≤ h.length := by
  obtain ⟨X, hX⟩ := hS
  have := hX 63 (by decide)
  have e : (mS0 X)[63]? = some (mO 99 []) := mS0_end X (i := 5) (by decide)
  rw [e] at this
  have := (List.getElem?_eq_some_iff.mp this).1
  omega
theorem St_app {x : mCell} (hS : St h) : St (h ++ [x]) := St_get hS fun b hb => by
  rw [get_app, if_neg (by have := St_len hS; omega)]
end Al
/-! loops -/
theorem Go_loop {d m pc : Nat} {Q : Option Value → mHeap → Prop} {st : List Value} (I : Nat → mLoc → mHeap → Prop) (n : Nat) (step : ∀ k L h, k < n → I k L h → (∀ L' h', I (k + 1) L' h' → Go d m pc L' st h' Q) → Go d m pc L st h Q) (fin : ∀ L h, I n L h → Go d m pc L st h Q) : ∀ k L h, k ≤ n → I k L h → Go d m pc L st h Q := by
  have key : ∀ j k L h, k + j = n → I k L h → Go d m pc L st h Q := by
    intro j
    induction j with
    | zero => intro k L h hk hI; exact fin L h (by rw [← hk]; exact hI)
    | succ j ih => intro k L h hk hI; exact step k L h (by omega) hI (fun L' h' hI' => ih (k + 1) L' h' (by omega) hI')
  intro k L h hk hI
  exact key (n - k) k L h (by omega) hI
