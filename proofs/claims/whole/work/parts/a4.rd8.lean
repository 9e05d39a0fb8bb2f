/-! RULES read: a rule is made -/
section Rr8
variable {d : Nat} {h h1 : mHeap}
/-- copyOf -/
theorem c326 {K : Nat → mHeap → Prop} {a n : Nat} (h64 : 64 ≤ h.length) (hk : kd h a = (1, 1, [400])) (ha : 64 ≤ a) (hn : n ≤ 400) (hK : ∀ h1, h1.length = h.length + 1 → mSlots h1 = mSlots h + n → (∀ b, b < h.length → h1[b]? = h[b]?) → kd h1 h.length = (1, 1, [n]) → (∀ k, k < n → xA h1 h.length k = xA h a k) → K h.length h1) : GoCr (d + 1) 326 [.ref a, .int (ii n)] h K := by
  have al : a < h.length := kd_lt (by rw [hk]; decide)
  have okl : okL h a ∧ nL h a = 400 := by
    rw [okL_kd, nL_kd, hk]
    exact ⟨Or.inl ⟨rfl, (by decide)⟩, rfl⟩
  have ai : aT h a = .int ∧ (aI h a).length = 400 := by
    have e1 : (kd h a).1 = 1 := by rw [hk]
    have e := (kd1 e1).2
    rw [hk] at e
    refine ⟨tyN_int.mp (congrArg (fun q => q.2.1) e).symm, ?_⟩
    have := congrArg (fun q => q.2.2.headD 0) e
    exact this.symm
  rw [e326, b326_0]
  refine ⟨okl.1, ?_⟩
  rw [okl.2]
  by_cases c : n = 400
  · subst c
    rw [if_neg (fun g => g rfl)]
    refine ⟨⟨ha, ai.1⟩, _, rfl, ⟨h64, ?_⟩, ?_⟩
    · rw [aT_kd, kd_nCl, if_pos rfl]; exact ⟨rfl, rfl⟩
    · rw [rR_s]
      refine hK _ len_nCl (by rw [sl_nCl, ai.2]) (fun b hb => by unfold nCl; rw [get_app, if_neg (by omega)]) (by rw [kd_nCl, if_pos rfl, ai.2]) (fun k _ => by rw [xA_nCl, if_pos rfl])
  · rw [if_pos (by rw [ii_eq (by omega) (by omega) (by omega) (by omega)]; omega)]
    refine ⟨okN_ii (by omega), _, rfl, ?_⟩
    have ix := ix_n (n := n) (by omega)
    have k1 : kd (nA h .int (ii n)) a = (1, 1, [400]) := by rw [kd_nA, if_neg (by omega), hk]
    have k2 : kd (nA h .int (ii n)) h.length = (1, 1, [n]) := by rw [kd_nA, if_pos rfl, ix]; rfl
    have l1 : (nA h .int (ii n)).length = h.length + 1 := len_nA
    have s1 : mSlots (nA h .int (ii n)) = mSlots h + n := by rw [sl_nA, ix]
    have o1 : ∀ b, b < h.length → (nA h .int (ii n))[b]? = h[b]? := fun b hb => by unfold nA; rw [get_app, if_neg (by omega)]
    have x1 : xA (nA h .int (ii n)) a = xA h a := xA_nA
    generalize nA h .int (ii n) = H1 at *
    have at1 : ∀ b m, kd H1 b = (1, 1, [m]) → aT H1 b = .int ∧ (aI H1 b).length = m := fun b m k => by
      have e1 : (kd H1 b).1 = 1 := by rw [k]
      have e := (kd1 e1).2
      rw [k] at e
      refine ⟨tyN_int.mp (congrArg (fun q => q.2.1) e).symm, ?_⟩
      exact (congrArg (fun q => q.2.2.headD 0) e).symm
    have aa := at1 a 400 k1
    have ab := at1 h.length n k2
    have nl : nL H1 a = 400 := by rw [nL_kd, k1]; rfl
    have okl1 : okL H1 a := by rw [okL_kd, k1]; exact Or.inl ⟨rfl, (by decide)⟩
    have em : (if ii (n : Int) < ii ((400 : Nat) : Int) then ii (n : Int) else ii ((400 : Nat) : Int)) = ii (n : Int) := by
      rw [if_pos (by rw [ii_lt (by omega) (by omega) (by omega) (by omega)]; omega)]
    rw [nl, em]
    refine ⟨okl1, ⟨aa.1, ab.1, ha, h64, by omega, by rw [ii_lt0 (by omega) (by omega)]; omega, rfl, rfl, by rw [ix, aa.2]; exact hn, by rw [ix, ab.2]; exact Nat.le_refl _⟩, ?_⟩
    rw [rR_s]
    have dr : (aI H1 h.length).drop n = [] := List.drop_eq_nil_of_le (by rw [ab.2]; exact Nat.le_refl _)
    have tl : ((aI H1 a).take n).length = n := by rw [List.length_take, aa.2]; omega
    unfold sC
    rw [ix, dr, List.append_nil]
    have sg : ∀ b, (H1.set h.length (mI .int ((aI H1 a).take n)))[b]? = if h.length = b then some (mI .int ((aI H1 a).take n)) else H1[b]? := fun b => set_get (by omega)
    have e0 : H1[h.length]? = some (mI (aT H1 h.length) (aI H1 h.length)) := (kd1 (by rw [k2])).1
    refine hK _ (by rw [List.length_set]; exact l1) ?_ (fun b hb => by rw [sg b, if_neg (by omega)]; exact o1 b hb) ?_ (fun k hk2 => ?_)
    · rw [sl_set e0 (by show ((aI H1 a).take n).length = (aI H1 h.length).length; rw [tl, ab.2]), s1]
    · rw [kd_some (by rw [sg, if_pos rfl])]
      show (1, 1, [((aI H1 a).take n).length]) = _
      rw [tl]
    · have : aI (H1.set h.length (mI .int ((aI H1 a).take n))) h.length = (aI H1 a).take n := (aI_at (ty := .int) (by rw [sg, if_pos rfl])).1
      unfold xA at x1 ⊢
      rw [this, List.getD_eq_getElem?_getD, List.getElem?_take_of_lt hk2, ← List.getD_eq_getElem?_getD]
      exact congrFun x1 k
theorem putF {r k c : Nat} {ts : List Nat} {v : Value} (hr : 64 ≤ r) (hk : kd h r = (4, c, ts)) (hl : k < ts.length) : okP h r c k ∧ kd (sF h r k v) r = (4, c, ts.set k (tgV v)) ∧ (∀ b, ¬ b = r → (sF h r k v)[b]? = h[b]?) ∧ (sF h r k v).length = h.length ∧ mSlots (sF h r k v) = mSlots h := by
  refine ⟨?_, ?_, fun b hb => ?_, len_sF, sl_sF⟩
  · rw [okP_kd, hk]; exact ⟨hr, rfl, rfl, hl⟩
  · rw [kd_sF', hk, if_pos ⟨rfl, rfl⟩]
  · rw [sF_get, if_neg (fun g => hb g.symm)]
/-- a rule's cells are laid -/
theorem c63 {K : mHeap → Prop} {r a1 a3 a4 : Nat} {x : Int32} (h64 : 64 ≤ h.length) (hr : 64 ≤ r) (hk : kd h r = (4, 5, [2, 0, 2, 2, 2])) (hK : ∀ h1, h1.length = h.length + 1 → mSlots h1 = mSlots h + 26 → (∀ b, b < h.length → ¬ b = r → h1[b]? = h[b]?) → kd h1 r = (4, 5, [a1 + 3, 0, a3 + 3, a4 + 3, h.length + 3]) → kd h1 h.length = (2, 0, [26]) → fI h1 r 1 = x → K h1) : GoCv (d + 1) 63 [.ref r, .ref a1, .int x, .ref a3, .ref a4] h K := by
  have rl : r < h.length := kd_lt (by rw [hk]; decide)
  rw [e63, b63_0]
  refine ⟨hr, okN_ii (n := 26) (by decide), _, rfl, ?_⟩
  have k0 : kd (nJ h (ii 26)) r = (4, 5, [2, 0, 2, 2, 2]) := by rw [kd_nJ, if_neg (by omega), hk]
  have n0 : kd (nJ h (ii 26)) h.length = (2, 0, [26]) := by rw [kd_nJ, if_pos rfl]; rfl
  have l0 : (nJ h (ii 26)).length = h.length + 1 := len_nJ
  have s0 : mSlots (nJ h (ii 26)) = mSlots h + 26 := sl_nJ
  have o0 : ∀ b, b < h.length → (nJ h (ii 26))[b]? = h[b]? := fun b hb => by unfold nJ; rw [get_app, if_neg (by omega)]
  generalize nJ h (ii 26) = H0 at *
  have p4 := putF (v := .ref h.length) hr k0 (show 4 < 5 by decide)
  refine ⟨p4.1, ?_⟩
  generalize sF H0 r 4 (.ref h.length) = H1 at *
  have k1 : kd H1 r = (4, 5, [2, 0, 2, 2, h.length + 3]) := p4.2.1
  have p0 := putF (v := .ref a1) hr k1 (show 0 < 5 by decide)
  refine ⟨p0.1, ?_⟩
  generalize sF H1 r 0 (.ref a1) = H2 at *
  have k2 : kd H2 r = (4, 5, [a1 + 3, 0, 2, 2, h.length + 3]) := p0.2.1
  have p1 := putF (v := .int x) hr k2 (show 1 < 5 by decide)
  refine ⟨p1.1, ?_⟩
  have v1 : fI (sF H2 r 1 (.int x)) r 1 = x := by rw [fI_sF (s := 0) (by rw [k2]; rfl), if_pos ⟨rfl, rfl⟩]
  generalize sF H2 r 1 (.int x) = H3 at *
  have k3 : kd H3 r = (4, 5, [a1 + 3, 0, 2, 2, h.length + 3]) := p1.2.1
  have p2 := putF (v := .ref a3) hr k3 (show 2 < 5 by decide)
  refine ⟨p2.1, ?_⟩
  have v2 : fI (sF H3 r 2 (.ref a3)) r 1 = x := by rw [fI_sF_o (by omega)]; exact v1
  generalize sF H3 r 2 (.ref a3) = H4 at *
  have k4 : kd H4 r = (4, 5, [a1 + 3, 0, a3 + 3, 2, h.length + 3]) := p2.2.1
  have p3 := putF (v := .ref a4) hr k4 (show 3 < 5 by decide)
  refine ⟨p3.1, ?_⟩
  have v3 : fI (sF H4 r 3 (.ref a4)) r 1 = x := by rw [fI_sF_o (by omega)]; exact v2
  generalize sF H4 r 3 (.ref a4) = H5 at *
  rw [rV_s]
  have oth : ∀ b, ¬ b = r → H5[b]? = H0[b]? := fun b hb => by rw [p3.2.2.1 b hb, p2.2.2.1 b hb, p1.2.2.1 b hb, p0.2.2.1 b hb, p4.2.2.1 b hb]
  refine hK H5 ?_ ?_ (fun b hb nb => by rw [oth b nb]; exact o0 b hb) p3.2.1 ?_ v3
  · rw [p3.2.2.2.1, p2.2.2.2.1, p1.2.2.2.1, p0.2.2.2.1, p4.2.2.2.1, l0]
  · rw [p3.2.2.2.2, p2.2.2.2.2, p1.2.2.2.2, p0.2.2.2.2, p4.2.2.2.2, s0]
  · rw [same_kd (oth _ (by omega))]; exact n0
theorem ru_cons {x : List Nat × List Nat} {C : Ru} {c : Nat} : ru_c (x :: C) (c + 1) = ru_c C c := by
  unfold ru_c
  rw [List.getD_cons_succ]
theorem off_cons {x : List Nat × List Nat} {C : Ru} : ∀ c, off (x :: C) (c + 1) = x.1.length + x.2.length + off C c
  | 0 => by
    show off (x :: C) 0 + (ru_c (x :: C) 0).1.length + (ru_c (x :: C) 0).2.length = _
    show 0 + x.1.length + x.2.length = x.1.length + x.2.length + 0
    omega
  | c + 1 => by
    rw [off_s, off_cons c, ru_cons, off_s]
    omega
/-- where the signs of a clause stand -/
theorem flC_at : ∀ (C : Ru) (c : Nat), c < C.length → (∀ k, k < (ru_c C c).1.length → (flC C).getD (off C c + k) 0 = (ru_c C c).1.getD k 0) ∧ ∀ k, k < (ru_c C c).2.length → (flC C).getD (off C c + (ru_c C c).1.length + k) 0 = (ru_c C c).2.getD k 0
  | [], c, h => absurd h (Nat.not_lt_zero c)
  | x :: C, 0, _ => by
    refine ⟨fun k hk => ?_, fun k hk => ?_⟩
    · show (x.1 ++ x.2 ++ flC C).getD (0 + k) 0 = x.1.getD k 0
      have hk' : k < x.1.length := hk
      rw [Nat.zero_add, List.append_assoc, List.getD_eq_getElem?_getD, List.getElem?_append_left hk', ← List.getD_eq_getElem?_getD]
    · show (x.1 ++ x.2 ++ flC C).getD (0 + x.1.length + k) 0 = x.2.getD k 0
      have hk' : k < x.2.length := hk
      rw [Nat.zero_add, List.append_assoc, List.getD_eq_getElem?_getD, List.getElem?_append_right (by omega), List.getElem?_append_left (by omega), show x.1.length + k - x.1.length = k by omega, ← List.getD_eq_getElem?_getD]
  | x :: C, c + 1, h => by
    have ih := flC_at C c (by rw [List.length_cons] at h; omega)
    rw [off_cons, ru_cons]
    have sh : ∀ m, (x.1 ++ x.2 ++ flC C).getD (x.1.length + x.2.length + m) 0 = (flC C).getD m 0 := fun m => by
      rw [List.getD_eq_getElem?_getD, List.getElem?_append_right (by rw [List.length_append]; omega), List.length_append, show x.1.length + x.2.length + m - (x.1.length + x.2.length) = m by omega, ← List.getD_eq_getElem?_getD]
    refine ⟨fun k hk => ?_, fun k hk => ?_⟩
    · show (x.1 ++ x.2 ++ flC C).getD _ 0 = _
      rw [show x.1.length + x.2.length + off C c + k = x.1.length + x.2.length + (off C c + k) by omega, sh]
      exact ih.1 k hk
    · show (x.1 ++ x.2 ++ flC C).getD _ 0 = _
      rw [show x.1.length + x.2.length + off C c + (ru_c C c).1.length + k = x.1.length + x.2.length + (off C c + (ru_c C c).1.length + k) by omega, sh]
      exact ih.2 k hk
/-- made -/
theorem c70 {K : Nat → mHeap → Prop} {C : Ru} (hSt : St h) (hR : RrS h) (hO : RrO h (flC C)) (hM : RrM h C) (hOk : RuOk C) (hK : ∀ h1, h1.length = h.length + 5 → mSlots h ≤ mSlots h1 → mSlots h1 ≤ mSlots h + 500 → (∀ b, b < h.length → h1[b]? = h[b]?) → RuR h1 h.length C → K h.length h1) : GoCr (d + 2) 70 [.ref 119] h K := by
  have h64 := St_len hSt
  have l119 : 122 < h.length := kd_lt (by rw [hR.2.2.2]; decide)
  have ol := hO.2.1
  rw [e70, b70_0]
  refine ⟨_, rfl, ?_⟩
  have k0 : kd (nO h 5) h.length = (4, 5, [2, 0, 2, 2, 2]) := by rw [kd_nO, if_pos rfl]; rfl
  have l0 : (nO h 5).length = h.length + 1 := len_nO
  have s0 : mSlots (nO h 5) = mSlots h + 5 := sl_nO
  have o0 : ∀ b, b < h.length → (nO h 5)[b]? = h[b]? := fun b hb => nO_old hb
  generalize nO h 5 = H0 at *
  have R0 : RrS H0 := ⟨by rw [same_kd (o0 _ (by omega))]; exact hR.1, by rw [same_kd (o0 _ (by omega))]; exact hR.2.1, by rw [same_kd (o0 _ (by omega))]; exact hR.2.2.1, by rw [same_kd (o0 _ (by omega))]; exact hR.2.2.2⟩
  have f0 : ∀ j, fI H0 119 j = fI h 119 j := fun j => same_fI (o0 _ (by omega)) j
  simp only [RrS_ok R0, f0, hO.1, true_and]
  refine c326 (d := d) (by omega) R0.2.1 (by decide) ol (fun H1 l1 s1 o1 k1 x1 => ?_)
  rw [l0] at k1 x1 ⊢
  rw [l0] at l1
  have o1' : ∀ b, b < h.length → H1[b]? = h[b]? := fun b hb => by rw [o1 b (by omega)]; exact o0 b hb
  have R1 : RrS H1 := ⟨by rw [same_kd (o1' _ (by omega))]; exact hR.1, by rw [same_kd (o1' _ (by omega))]; exact hR.2.1, by rw [same_kd (o1' _ (by omega))]; exact hR.2.2.1, by rw [same_kd (o1' _ (by omega))]; exact hR.2.2.2⟩
  have f1 : ∀ j, fI H1 119 j = fI h 119 j := fun j => same_fI (o1' _ (by omega)) j
  simp only [RrS_ok R1, f1, hM.1, true_and]
  have at1 : ∀ (H : mHeap) b m, kd H b = (1, 1, [m]) → aT H b = .int ∧ (aI H b).length = m := fun H b m k => by
    have e1 : (kd H b).1 = 1 := by rw [k]
    have e := (kd1 e1).2
    rw [k] at e
    refine ⟨tyN_int.mp (congrArg (fun q => q.2.1) e).symm, ?_⟩
    exact (congrArg (fun q => q.2.2.headD 0) e).symm
  have a121 := at1 H1 121 13 R1.2.2.1
  refine ⟨⟨by decide, a121.1⟩, _, rfl, ?_⟩
  have k2 : ∀ b, kd (nCl H1 121) b = if b = h.length + 1 + 1 then (1, 1, [13]) else kd H1 b := fun b => by rw [kd_nCl, l1, a121.2]
  have l2 : (nCl H1 121).length = h.length + 1 + 1 + 1 := by rw [len_nCl, l1]
  have s2 : mSlots (nCl H1 121) = mSlots H1 + 13 := by rw [sl_nCl, a121.2]
  have o2 : ∀ b, b < h.length + 1 + 1 → (nCl H1 121)[b]? = H1[b]? := fun b hb => by unfold nCl; rw [get_app, if_neg (by omega)]
  have x2 : xA (nCl H1 121) (h.length + 1 + 1) = xA H1 121 := by rw [xA_nCl, l1, if_pos rfl]
  generalize nCl H1 121 = H2 at *
  have o2' : ∀ b, b < h.length → H2[b]? = h[b]? := fun b hb => by rw [o2 b (by omega)]; exact o1' b hb
  have R2 : RrS H2 := ⟨by rw [same_kd (o2' _ (by omega))]; exact hR.1, by rw [same_kd (o2' _ (by omega))]; exact hR.2.1, by rw [same_kd (o2' _ (by omega))]; exact hR.2.2.1, by rw [same_kd (o2' _ (by omega))]; exact hR.2.2.2⟩
  have t2 : aT H2 H1.length = .int := (at1 H2 _ 13 (by rw [l1, k2, if_pos rfl])).1
  simp only [RrS_ok R2, t2, true_and]
  have a122 := at1 H2 122 12 R2.2.2.2
  refine ⟨⟨by omega, trivial⟩, ⟨by decide, a122.1⟩, _, rfl, ?_⟩
  have k3 : ∀ b, kd (nCl H2 122) b = if b = h.length + 1 + 1 + 1 then (1, 1, [12]) else kd H2 b := fun b => by rw [kd_nCl, l2, a122.2]
  have l3 : (nCl H2 122).length = h.length + 1 + 1 + 1 + 1 := by rw [len_nCl, l2]
  have s3 : mSlots (nCl H2 122) = mSlots H2 + 12 := by rw [sl_nCl, a122.2]
  have o3 : ∀ b, b < h.length + 1 + 1 + 1 → (nCl H2 122)[b]? = H2[b]? := fun b hb => by unfold nCl; rw [get_app, if_neg (by omega)]
  have x3 : xA (nCl H2 122) (h.length + 1 + 1 + 1) = xA H2 122 := by rw [xA_nCl, l2, if_pos rfl]
  generalize nCl H2 122 = H3 at *
  have t3 : aT H3 H2.length = .int := (at1 H3 _ 12 (by rw [l2, k3, if_pos rfl])).1
  have kr : kd H3 h.length = (4, 5, [2, 0, 2, 2, 2]) := by rw [same_kd (o3 _ (by omega)), same_kd (o2 _ (by omega)), same_kd (o1 _ (by omega))]; exact k0
  refine ⟨⟨by omega, t3⟩, h64, ?_⟩
  refine c63 (d := d) (by omega) h64 kr (fun H4 l4 s4 o4 k4 n4 v4 => ?_)
  rw [rR_s]
  rw [l3] at l4 k4 n4 o4
  rw [l1, l2] at k4
  have old : ∀ b, b < h.length → H4[b]? = h[b]? := fun b hb => by rw [o4 b (by omega) (by omega), o3 b (by omega)]; exact o2' b hb
  refine hK H4 (by omega) (by omega) (by omega) old ⟨(flC C).length, ⟨h64, k4, ?_, ?_, ?_, n4⟩, ol, by rw [off_len C.length C rfl]; exact Nat.le_refl _, hOk, v4, fun c hc => ?_, fun c hc => ?_⟩
  · rw [same_kd (o4 _ (by omega) (by omega)), same_kd (o3 _ (by omega)), same_kd (o2 _ (by omega))]; exact k1
  · rw [same_kd (o4 _ (by omega) (by omega)), same_kd (o3 _ (by omega)), k2, if_pos rfl]
  · rw [same_kd (o4 _ (by omega) (by omega)), k3, if_pos rfl]
  · rw [show h.length + 2 = h.length + 1 + 1 from rfl, same_xA (o4 _ (by omega) (by omega)), same_xA (o3 _ (by omega)), x2, same_xA (o1' _ (by omega))]
    exact hM.2.2.1 c hc
  · have fa := flC_at C c hc
    have ole := off_le (C := C) (c := c + 1) C.length (by omega)
    rw [off_s, off_len C.length C rfl] at ole
    have code : ∀ j, j < (flC C).length → xA H4 (h.length + 1) j = ii ((flC C).getD j 0) := fun j hj => by
      rw [same_xA (o4 _ (by omega) (by omega)), same_xA (o3 _ (by omega)), same_xA (o2 _ (by omega)), x1 j hj, same_xA (o0 _ (by omega))]
      exact hO.2.2 j hj
    refine ⟨?_, fun k hk => ?_, fun k hk => ?_⟩
    · rw [show h.length + 3 = h.length + 1 + 1 + 1 from rfl, same_xA (o4 _ (by omega) (by omega)), x3, same_xA (o2' _ (by omega))]
      exact hM.2.2.2 c hc
    · rw [code _ (by omega), fa.1 k hk]
    · rw [code _ (by omega), fa.2 k hk]
end Rr8
