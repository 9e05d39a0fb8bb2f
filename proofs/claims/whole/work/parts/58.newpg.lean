/-! A NEW PAGE -/
section NPg
variable {d b : Nat} {h : mHeap} {K : mHeap → Prop}
theorem LdOk0 : LdOk ld0 := ⟨by decide, by decide, by decide, by decide, by decide, by decide, fun q hq => (by cases hq), fun q hq => (by cases hq), fun q hq => (by cases hq), fun q hq => (by cases hq)⟩
theorem nO_old {c a : Nat} (ha : a < h.length) : (nO h c)[a]? = h[a]? := by
  show (h ++ [_])[a]? = _
  rw [get_app, if_neg (by omega)]
theorem new_Pg (h64 : 64 ≤ h.length) (hK : ∀ h2, h2.length = h.length + 21 → mSlots h2 = mSlots h + 175 → (∀ a, a < h.length → h2[a]? = h[a]?) → PgR h2 h.length pg0 → (∀ j, j < 20 → xR h2 (h.length + 19) j = none) → fR h2 h.length 0 = h.length + 1 → K h2) : GoCv (d + 3) 53 [.ref h.length] (nO h 4) K := by
  rw [e53, b53_0]
  have l0 : (nO h 4).length = h.length + 1 := len_nO
  have s0 : mSlots (nO h 4) = mSlots h + 8 := sl_nO
  have k0 : kd (nO h 4) h.length = (4, 4, [2, 2, 2, 0, 0, 2, 0, 0]) := by rw [kd_nO, if_pos rfl]; rfl
  have c0 : ∀ a, a < h.length → (nO h 4)[a]? = h[a]? := fun a ha => nO_old ha
  have z0 : ∀ k, fI (nO h 4) h.length k = 0 := fun k => by rw [fI_nO]; exact (zero_at (Nat.le_refl _)).1 k
  generalize hp : h.length = p at *
  generalize nO h 4 = H0 at *
  refine ⟨h64, nO H0 2, rfl, by omega, ?_⟩
  refine new_La (by omega) (fun H1 l1 s1 c1 L1 => ?_)
  rw [l0] at L1 ⊢
  have k1 : kd H1 p = (4, 4, [2, 2, 2, 0, 0, 2, 0, 0]) := by rw [same_kd (c1 p (by omega))]; exact k0
  have z1 : ∀ k, fI H1 p k = 0 := fun k => by rw [same_fI (c1 p (by omega))]; exact z0 k
  refine ⟨by rw [okP_kd, k1]; exact ⟨h64, rfl, rfl, by decide⟩, ?_⟩
  have k2 : kd (sF H1 p 0 (.ref (p + 1))) p = (4, 4, [p + 4, 2, 2, 0, 0, 2, 0, 0]) := by rw [kd_sF', k1, if_pos ⟨rfl, rfl⟩]; rfl
  have z2 : ∀ k, fI (sF H1 p 0 (.ref (p + 1))) p k = 0 := fun k => by rw [fI_sFr k1 (k := 0) rfl (by decide)]; exact z1 k
  have g2 : ∀ a, ¬ a = p → (sF H1 p 0 (.ref (p + 1)))[a]? = H1[a]? := fun a ha => by rw [sF_get, if_neg (fun g => ha g.symm)]
  have l2 : (sF H1 p 0 (.ref (p + 1))).length = p + 9 := by rw [len_sF]; omega
  have s2 : mSlots (sF H1 p 0 (.ref (p + 1))) = mSlots H1 := sl_sF
  generalize sF H1 p 0 (.ref (p + 1)) = H2 at *
  refine ⟨nO H2 3, rfl, by omega, ?_⟩
  refine new_Mo (by omega) (fun H3 l3 s3 c3 m3 => ?_)
  rw [l2] at m3 ⊢
  have k3 : kd H3 p = (4, 4, [p + 4, 2, 2, 0, 0, 2, 0, 0]) := by rw [same_kd (c3 p (by omega))]; exact k2
  have z3 : ∀ k, fI H3 p k = 0 := fun k => by rw [same_fI (c3 p (by omega))]; exact z2 k
  refine ⟨by rw [okP_kd, k3]; exact ⟨h64, rfl, rfl, by show 1 < 8; omega⟩, okN_ii (n := 20) (by decide), ?_⟩
  have k4 : kd (sF H3 p 1 (.ref (p + 9))) p = (4, 4, [p + 4, p + 12, 2, 0, 0, 2, 0, 0]) := by rw [kd_sF', k3, if_pos ⟨rfl, rfl⟩]; rfl
  have z4 : ∀ k, fI (sF H3 p 1 (.ref (p + 9))) p k = 0 := fun k => by rw [fI_sFr k3 (k := 1) rfl (by decide)]; exact z3 k
  have g4 : ∀ a, ¬ a = p → (sF H3 p 1 (.ref (p + 9)))[a]? = H3[a]? := fun a ha => by rw [sF_get, if_neg (fun g => ha g.symm)]
  have l4 : (sF H3 p 1 (.ref (p + 9))).length = p + 19 := by rw [len_sF]; omega
  have s4 : mSlots (sF H3 p 1 (.ref (p + 9))) = mSlots H3 := sl_sF
  generalize sF H3 p 1 (.ref (p + 9)) = H4 at *
  refine ⟨nR H4 3 (ii 20), rfl, ?_⟩
  have e20 : (ii 20).toNatClampNeg = 20 := ix_n (n := 20) (by decide)
  have k5 : kd (nR H4 3 (ii 20)) p = (4, 4, [p + 4, p + 12, 2, 0, 0, 2, 0, 0]) := by rw [kd_nR, if_neg (by omega)]; exact k4
  have k519 : kd (nR H4 3 (ii 20)) (p + 19) = (3, 3, [20]) := by rw [kd_nR, if_pos l4.symm, e20]
  have z5 : ∀ k, fI (nR H4 3 (ii 20)) p k = 0 := fun k => by rw [fI_nR]; exact z4 k
  have g5 : ∀ a, a < p + 19 → (nR H4 3 (ii 20))[a]? = H4[a]? := fun a ha => by
    show (H4 ++ [_])[a]? = _
    rw [get_app, if_neg (by omega)]
  have x5 : ∀ i, xR (nR H4 3 (ii 20)) (p + 19) i = none := fun i => by
    rw [xR_nR]
    unfold xR
    rw [(non_at (List.getElem?_eq_none (by omega))).2.2.2]; rfl
  have l5 : (nR H4 3 (ii 20)).length = p + 20 := by rw [len_nR]; omega
  have s5 : mSlots (nR H4 3 (ii 20)) = mSlots H4 + 20 := by rw [sl_nR, e20]
  rw [l4]
  generalize nR H4 3 (ii 20) = H5 at *
  refine ⟨by rw [okP_kd, k5]; exact ⟨h64, rfl, rfl, by show 2 < 8; omega⟩, okN_ii (n := 10) (by decide), ?_⟩
  have k6 : kd (sF H5 p 2 (.ref (p + 19))) p = (4, 4, [p + 4, p + 12, p + 22, 0, 0, 2, 0, 0]) := by rw [kd_sF', k5, if_pos ⟨rfl, rfl⟩]; rfl
  have z6 : ∀ k, fI (sF H5 p 2 (.ref (p + 19))) p k = 0 := fun k => by rw [fI_sFr k5 (k := 2) rfl (by decide)]; exact z5 k
  have g6 : ∀ a, ¬ a = p → (sF H5 p 2 (.ref (p + 19)))[a]? = H5[a]? := fun a ha => by rw [sF_get, if_neg (fun g => ha g.symm)]
  have l6 : (sF H5 p 2 (.ref (p + 19))).length = p + 20 := by rw [len_sF]; omega
  have s6 : mSlots (sF H5 p 2 (.ref (p + 19))) = mSlots H5 := sl_sF
  generalize sF H5 p 2 (.ref (p + 19)) = H6 at *
  obtain ⟨-, p7, l7, s7, q7, f7, a7, r7, g7⟩ := mkA (k := 5) (m := 10) k6 rfl (by decide) h64
  refine ⟨nA H6 .int (ii ((10 : Nat) : Int)), rfl, p7, ?_⟩
  rw [rV_s]
  have k7 : kd (sF (nA H6 .int (ii ((10 : Nat) : Int))) p 5 (.ref H6.length)) p = (4, 4, [p + 4, p + 12, p + 22, 0, 0, p + 23, 0, 0]) := by rw [q7, if_pos rfl, l6]; rfl
  have kx : ∀ a, a < p + 20 → ¬ a = p → kd (sF (nA H6 .int (ii ((10 : Nat) : Int))) p 5 (.ref H6.length)) a = kd H5 a := fun a h1 h2 => by rw [q7, if_neg h2, if_neg (by omega), same_kd (g6 a h2)]
  have k720 : kd (sF (nA H6 .int (ii ((10 : Nat) : Int))) p 5 (.ref H6.length)) (p + 20) = (1, 1, [10]) := by rw [q7, if_neg (by omega), if_pos (by omega)]
  have gx : ∀ a, a < p + 20 → ¬ a = p → (sF (nA H6 .int (ii ((10 : Nat) : Int))) p 5 (.ref H6.length))[a]? = H5[a]? := fun a h1 h2 => by rw [g7 a h2 (by omega), g6 a h2]
  have z7 : ∀ k, fI (sF (nA H6 .int (ii ((10 : Nat) : Int))) p 5 (.ref H6.length)) p k = 0 := fun k => by rw [f7]; exact z6 k
  generalize sF (nA H6 .int (ii ((10 : Nat) : Int))) p 5 (.ref H6.length) = H7 at *
  have f0 : fR H7 p 0 = p + 1 := by rw [fR_kd, k7]; show p + 4 - 3 = p + 1; omega
  have x7 : ∀ i, xR H7 (p + 19) i = none := fun i => by rw [same_xR (gx (p + 19) (by omega) (by omega))]; exact x5 i
  have m7 : MoR H7 (p + 9) mo0 := MoR_eq m3 (fun a h1 h2 => by rw [gx a (by omega) (by omega), g5 a (by omega), g4 a (by omega)])
  have L7 : LaR H7 (p + 1) ld0 := LaR_eq L1 (fun a h1 h2 => by rw [gx a (by omega) (by omega), g5 a (by omega), g4 a (by omega), c3 a (by omega), g2 a (by omega)])
  have e0 : (0 : Int32) = ii ((0 : Nat) : Int) := by decide
  refine hK H7 (by omega) (by omega) (fun a ha => by rw [gx a (by omega) (by omega), g5 a (by omega), g4 a (by omega), c3 a (by omega), g2 a (by omega), c1 a (by omega), c0 a ha]) ⟨⟨h64, by rw [f0]; exact k7, by rw [kx _ (by omega) (by omega)]; exact k519, k720, m7.1, fun i b hi hb => ?_, fun i j b hi hj hb => ?_⟩, by rw [f0]; exact L7, LdOk0, m7, by rw [z7]; exact e0, Nat.zero_le _, fun i hi => absurd hi (Nat.not_lt_zero _), by rw [z7]; exact e0, Nat.zero_le _, fun i hi => absurd hi (Nat.not_lt_zero _), ⟨0, by decide, by rw [z7]; exact e0, fun i hi => absurd hi (Nat.not_lt_zero _)⟩, by rw [z7]; exact e0, by decide⟩ (fun j _ => x7 j) f0
  · rw [x7] at hb; cases hb
  · rw [x7] at hb; cases hb
end NPg
