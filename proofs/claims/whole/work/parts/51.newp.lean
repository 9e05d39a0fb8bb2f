/-! A NEW LAND, A NEW PAGE -/
section NewP
variable {d b : Nat} {h : mHeap} {K : mHeap → Prop}
theorem fI_non {a k t : Nat} (e : tgK (kd h a) k = some t) (ht : ¬ t = 0) : fI h a k = 0 := by
  obtain ⟨h1, h2⟩ := tgK_lt e
  unfold tgK at e
  rw [if_pos h1, (kd4 h1).2] at e
  have e : ((oF h a).map tgV)[k]? = some t := e
  rw [List.getElem?_map] at e
  unfold fI
  cases hv : (oF h a)[k]? with
  | none => rfl
  | some v =>
    rw [hv] at e
    have e : tgV v = t := Option.some.inj e
    cases v <;> first | rfl | (exact absurd e.symm ht)
theorem fI_sFr {a k r j : Nat} {ts : List Nat} {c t : Nat} (ka : kd h a = (4, c, ts)) (hk : ts[k]? = some t) (ht : ¬ t = 0) : fI (sF h a k (.ref r)) b j = fI h b j := by
  by_cases q : a = b ∧ k = j
  · obtain ⟨rfl, rfl⟩ := q
    have hl : k < ts.length := (List.getElem?_eq_some_iff.mp hk).1
    rw [fI_non (h := h) (t := t) (by rw [ka]; exact hk) ht, fI_non (t := r + 3) (by rw [kd_sF', ka, if_pos ⟨rfl, rfl⟩]; show (ts.set k (r + 3))[k]? = _; rw [List.getElem?_set_self hl]) (by omega)]
  · exact fI_sF_o q
/-- a row made and put into a field -/
theorem mkA {a c k m : Nat} {ts : List Nat} (ka : kd h a = (4, c, ts)) (hk : ts[k]? = some 2) (hm : m ≤ 100000) (h64 : 64 ≤ a) : okN (ii m) ∧ okP (nA h .int (ii m)) a c k ∧ (sF (nA h .int (ii m)) a k (.ref h.length)).length = h.length + 1 ∧ mSlots (sF (nA h .int (ii m)) a k (.ref h.length)) = mSlots h + m ∧ (∀ b, kd (sF (nA h .int (ii m)) a k (.ref h.length)) b = if b = a then (4, c, ts.set k (h.length + 3)) else if b = h.length then (1, 1, [m]) else kd h b) ∧ (∀ b j, fI (sF (nA h .int (ii m)) a k (.ref h.length)) b j = fI h b j) ∧ (∀ b, xA (sF (nA h .int (ii m)) a k (.ref h.length)) b = xA h b) ∧ (∀ b, xR (sF (nA h .int (ii m)) a k (.ref h.length)) b = xR h b) ∧ ∀ b, ¬ b = a → b < h.length → (sF (nA h .int (ii m)) a k (.ref h.length))[b]? = h[b]? := by
  have hal : a < h.length := kd_lt (by rw [ka]; show ¬ (4 : Nat) = 0; decide)
  have hx := ix_n hm
  have ka' : kd (nA h .int (ii m)) a = (4, c, ts) := by rw [kd_nA, if_neg (by omega), ka]
  refine ⟨okN_ii hm, ?_, by rw [len_sF, len_nA], by rw [sl_sF, sl_nA, hx], fun b => ?_, fun b j => ?_, fun b => by rw [xA_sF, xA_nA], fun b => by rw [xR_sF, xR_nA], fun b hb hl => ?_⟩
  · rw [okP_kd, ka']
    exact ⟨h64, rfl, rfl, (List.getElem?_eq_some_iff.mp hk).1⟩
  · rw [kd_sF', ka']
    by_cases q : b = a
    · rw [if_pos ⟨q.symm, rfl⟩, if_pos q]; rfl
    · rw [if_neg (fun g => q g.1.symm), if_neg q, kd_nA, hx]; rfl
  · rw [fI_sFr ka' hk (by decide), fI_nA]
  · rw [sF_get, if_neg (fun g => hb g.symm)]
    show (h ++ [_])[b]? = _
    rw [get_app, if_neg (by omega)]
def ld0 : Ld := (0, 0, [], [], [], [])
theorem new_La (h64 : 64 ≤ h.length) (hK : ∀ h2, h2.length = h.length + 8 → mSlots h2 = mSlots h + 90 → (∀ a, a < h.length → h2[a]? = h[a]?) → LaR h2 h.length ld0 → K h2) : GoCv (d + 1) 29 [.ref h.length] (nO h 2) K := by
  rw [e29, b29_0]
  have k0 : kd (nO h 2) h.length = (4, 2, [0, 0, 0, 0, 2, 2, 2, 0, 2, 0, 2, 0, 2, 2]) := by rw [kd_nO, if_pos rfl]; rfl
  have l0 : (nO h 2).length = h.length + 1 := len_nO
  have s0 : mSlots (nO h 2) = mSlots h + 14 := sl_nO
  have z0 : ∀ k, fI (nO h 2) h.length k = 0 := fun k => by rw [fI_nO]; exact (zero_at (Nat.le_refl _)).1 k
  have c0 : ∀ a, a < h.length → (nO h 2)[a]? = h[a]? := fun a ha => by
    show (h ++ [_])[a]? = _
    rw [get_app, if_neg (by omega)]
  have y0 : ∀ b i, h.length ≤ b → xA (nO h 2) b i = 0 := fun b i hb => by rw [xA_nO]; exact (zero_at hb).2.1 i
  generalize ha : h.length = a at *
  generalize nO h 2 = H0 at *
  obtain ⟨n1, p1, l1, s1, q1, f1, x1, r1, g1⟩ := mkA (k := 4) (m := 6) k0 rfl (by decide) h64
  refine ⟨h64, n1, nA H0 .int (ii ((6 : Nat) : Int)), rfl, p1, ?_⟩
  generalize sF (nA H0 .int (ii ((6 : Nat) : Int))) a 4 (.ref H0.length) = H1 at *
  have k1 : kd H1 a = (4, 2, [0, 0, 0, 0, a + 4, 2, 2, 0, 2, 0, 2, 0, 2, 2]) := by rw [q1, if_pos rfl, l0]; rfl
  rw [l0] at l1 q1
  obtain ⟨n2, p2, l2, s2, q2, f2, x2, r2, g2⟩ := mkA (k := 5) (m := 6) k1 rfl (by decide) h64
  refine ⟨n2, nA H1 .int (ii ((6 : Nat) : Int)), rfl, p2, ?_⟩
  generalize sF (nA H1 .int (ii ((6 : Nat) : Int))) a 5 (.ref H1.length) = H2 at *
  have k2 : kd H2 a = (4, 2, [0, 0, 0, 0, a + 4, a + 5, 2, 0, 2, 0, 2, 0, 2, 2]) := by rw [q2, if_pos rfl, l1]; rfl
  rw [l1] at l2 q2
  obtain ⟨n3, p3, l3, s3, q3, f3, x3, r3, g3⟩ := mkA (k := 6) (m := 6) k2 rfl (by decide) h64
  refine ⟨n3, nA H2 .int (ii ((6 : Nat) : Int)), rfl, p3, ?_⟩
  generalize sF (nA H2 .int (ii ((6 : Nat) : Int))) a 6 (.ref H2.length) = H3 at *
  have k3 : kd H3 a = (4, 2, [0, 0, 0, 0, a + 4, a + 5, a + 6, 0, 2, 0, 2, 0, 2, 2]) := by rw [q3, if_pos rfl, l2]; rfl
  rw [l2] at l3 q3
  obtain ⟨n4, p4, l4, s4, q4, f4, x4, r4, g4⟩ := mkA (k := 8) (m := 6) k3 rfl (by decide) h64
  refine ⟨n4, nA H3 .int (ii ((6 : Nat) : Int)), rfl, p4, ?_⟩
  generalize sF (nA H3 .int (ii ((6 : Nat) : Int))) a 8 (.ref H3.length) = H4 at *
  have k4 : kd H4 a = (4, 2, [0, 0, 0, 0, a + 4, a + 5, a + 6, 0, a + 7, 0, 2, 0, 2, 2]) := by rw [q4, if_pos rfl, l3]; rfl
  rw [l3] at l4 q4
  obtain ⟨n5, p5, l5, s5, q5, f5, x5, r5, g5⟩ := mkA (k := 10) (m := 36) k4 rfl (by decide) h64
  refine ⟨n5, nA H4 .int (ii ((36 : Nat) : Int)), rfl, p5, ?_⟩
  generalize sF (nA H4 .int (ii ((36 : Nat) : Int))) a 10 (.ref H4.length) = H5 at *
  have k5 : kd H5 a = (4, 2, [0, 0, 0, 0, a + 4, a + 5, a + 6, 0, a + 7, 0, a + 8, 0, 2, 2]) := by rw [q5, if_pos rfl, l4]; rfl
  rw [l4] at l5 q5
  obtain ⟨n6, p6, l6, s6, q6, f6, x6, r6, g6⟩ := mkA (k := 12) (m := 8) k5 rfl (by decide) h64
  refine ⟨n6, nA H5 .int (ii ((8 : Nat) : Int)), rfl, p6, ?_⟩
  generalize sF (nA H5 .int (ii ((8 : Nat) : Int))) a 12 (.ref H5.length) = H6 at *
  have k6 : kd H6 a = (4, 2, [0, 0, 0, 0, a + 4, a + 5, a + 6, 0, a + 7, 0, a + 8, 0, a + 9, 2]) := by rw [q6, if_pos rfl, l5]; rfl
  rw [l5] at l6 q6
  obtain ⟨n7, p7, l7, s7, q7, f7, x7, r7, g7⟩ := mkA (k := 13) (m := 8) k6 rfl (by decide) h64
  refine ⟨n7, nA H6 .int (ii ((8 : Nat) : Int)), rfl, p7, ?_⟩
  generalize sF (nA H6 .int (ii ((8 : Nat) : Int))) a 13 (.ref H6.length) = H7 at *
  have k7 : kd H7 a = (4, 2, [0, 0, 0, 0, a + 4, a + 5, a + 6, 0, a + 7, 0, a + 8, 0, a + 9, a + 10]) := by rw [q7, if_pos rfl, l6]; rfl
  rw [l6] at l7 q7
  rw [rV_s]
  have sk : ∀ c k : Nat, ¬ a + (c + 1) = a := fun c k => by omega
  refine hK H7 (by omega) (by omega) (fun c hc => ?_) ⟨⟨h64, k7, ?_, ?_, ?_, ?_, ?_, ?_, ?_⟩, ?_⟩
  · rw [g7 c (by omega) (by omega), g6 c (by omega) (by omega), g5 c (by omega) (by omega), g4 c (by omega) (by omega), g3 c (by omega) (by omega), g2 c (by omega) (by omega), g1 c (by omega) (by omega), c0 c hc]
  · rw [q7, if_neg (by omega), if_neg (by omega), q6, if_neg (by omega), if_neg (by omega), q5, if_neg (by omega), if_neg (by omega), q4, if_neg (by omega), if_neg (by omega), q3, if_neg (by omega), if_neg (by omega), q2, if_neg (by omega), if_neg (by omega), q1, if_neg (by omega), if_pos (by omega)]
  · rw [q7, if_neg (by omega), if_neg (by omega), q6, if_neg (by omega), if_neg (by omega), q5, if_neg (by omega), if_neg (by omega), q4, if_neg (by omega), if_neg (by omega), q3, if_neg (by omega), if_neg (by omega), q2, if_neg (by omega), if_pos (by omega)]
  · rw [q7, if_neg (by omega), if_neg (by omega), q6, if_neg (by omega), if_neg (by omega), q5, if_neg (by omega), if_neg (by omega), q4, if_neg (by omega), if_neg (by omega), q3, if_neg (by omega), if_pos (by omega)]
  · rw [q7, if_neg (by omega), if_neg (by omega), q6, if_neg (by omega), if_neg (by omega), q5, if_neg (by omega), if_neg (by omega), q4, if_neg (by omega), if_pos (by omega)]
  · rw [q7, if_neg (by omega), if_neg (by omega), q6, if_neg (by omega), if_neg (by omega), q5, if_neg (by omega), if_pos (by omega)]
  · rw [q7, if_neg (by omega), if_neg (by omega), q6, if_neg (by omega), if_pos (by omega)]
  · rw [q7, if_neg (by omega), if_pos (by omega)]
  · have z : ∀ k, fI H7 a k = 0 := fun k => by rw [f7, f6, f5, f4, f3, f2, f1, z0]
    have e0 : (0 : Int32) = ii ((0 : Nat) : Int) := by decide
    refine ⟨by rw [z]; exact e0, by rw [z]; exact e0, by rw [z]; exact e0, by rw [z]; decide, by rw [z]; exact e0, by rw [z]; exact e0, by rw [z]; exact e0, fun q hq => absurd hq (Nat.not_lt_zero _), fun q hq => absurd hq (Nat.not_lt_zero _), fun hq => absurd hq (by decide), fun q hq => absurd hq (Nat.not_lt_zero _)⟩
end NewP
