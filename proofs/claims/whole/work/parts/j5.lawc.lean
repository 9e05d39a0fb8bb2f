/-! THE LAW, AND ALL OF IT -/
def szA (c : aCell) : Nat := match c with
  | .inl (_, n) => n
  | .inr (.inl n) => n
  | .inr (.inr (.inl (_, xs))) => xs.length
  | .inr (.inr (.inr (_, fs))) => fs.length
section Ll
variable {n0 : Nat} {X : List Int32} {Q : Option Value → mHeap → Prop}
theorem szA_ok (c : aCell) : mSz (cnc c) = szA c := by
  match c with
  | .inl (ty, n) => exact List.length_replicate
  | .inr (.inl n) => exact List.length_replicate
  | .inr (.inr (.inl (c, xs))) => rfl
  | .inr (.inr (.inr (c, fs))) => rfl
theorem sl_two (a b : mHeap) : mSlots (a ++ b) = mSlots a + mSlots b := by
  unfold mSlots
  rw [List.map_append, List.sum_append]
theorem sl_T : ∀ T : List aCell, mSlots (T.map cnc) = (T.map szA).sum
  | [] => rfl
  | c :: T => by
    have ih := sl_T T
    unfold mSlots at ih ⊢
    rw [List.map_cons, List.map_cons, List.map_cons, List.sum_cons, List.sum_cons, ih, szA_ok]
theorem TT_sum : (TT.map szA).sum ≤ 30000 := by decide +kernel
theorem LW.up {h : mHeap} {s : Cs} {i : Nat} (hL : LW X n0 h s i) : LW X n0 h s (i + 1) := ⟨hL.1, hL.2.1, hL.2.2.1, lw_1 (Nat.le_add_right _ _) hL.2.2.2.1, lw_2 (Nat.le_add_right _ _) hL.2.2.2.2⟩
theorem sub6 {a b : Nat} (ha : a ≤ 3072) (hb : b ≤ 3072) : ii (a : Nat) - ii 6 < ii (b : Nat) ↔ (a : Int) - 6 < b := by
  rw [show ii (a : Nat) - ii 6 = ii ((a : Int) - 6) from ii_sub _ _, ii_lt (by omega) (by omega) (by omega) (by omega)]
theorem law_loop (hX : X.length ≤ 3072) (fin : ∀ h s i, i ≤ 512 → LW X n0 h s i → Q (some (.int (ii 1))) h) : ∀ k i h s, i + k = X.length / 6 → LW X n0 h s i → Go (40 + 60) 328 18 [some (.ref 0), some (.ref 64), some (.ref 148), some (.int (ii ((6 * i : Nat) : Int)))] [] h Q := by
  intro k
  induction k with
  | zero =>
    intro i h s hk hL
    have k0 : kd h 0 = (1, 1, [X.length]) := kd_some hL.2.2.1
    have nl : nL h 0 = X.length := by rw [nL_kd, k0]; rfl
    have ol : okL h 0 := by rw [okL_kd, k0]; exact Or.inl ⟨rfl, (show 1 ≤ 3 by decide)⟩
    rw [b328_18, nl]
    refine ⟨ol, ?_⟩
    rw [if_pos ((sub6 hX (by omega)).mpr (by omega))]
    exact ⟨Or.inr rfl, fin h s i (by omega) hL⟩
  | succ k ih =>
    intro i h s hk hL
    have hi : 6 * i + 6 ≤ X.length := by omega
    have k0 : kd h 0 = (1, 1, [X.length]) := kd_some hL.2.2.1
    have nl : nL h 0 = X.length := by rw [nL_kd, k0]; rfl
    have ol : okL h 0 := by rw [okL_kd, k0]; exact Or.inl ⟨rfl, (show 1 ≤ 3 by decide)⟩
    have nx : ∀ h2 s', LW X n0 h2 s' (i + 1) → Go (40 + 60) 328 1263 [some (.ref 0), some (.ref 64), some (.ref 148), some (.int (ii ((6 * i : Nat) : Int)))] [] h2 Q := fun h2 s' L2 => by
      rw [b328_1263, show ii ((6 * i : Nat) : Int) + ii 6 = ii ((6 * (i + 1) : Nat) : Int) by rw [show ii 6 = ii ((6 : Nat) : Int) from rfl, ii_add]; exact congrArg ii (by omega)]
      exact ih (i + 1) h2 s' (by omega) L2
    rw [b328_18, nl]
    refine ⟨ol, ?_⟩
    rw [if_neg (fun g => by have := (sub6 hX (by omega)).mp g; omega)]
    refine ⟨(scr (j := 6 * i) hL.2.2.1 (by omega) hX).1, ?_⟩
    by_cases c0 : eI h 0 (ii ((6 * i : Nat) : Int)) &&& ii 63 = ii 0
    · rw [if_pos c0]; exact law_196 hL hi hX nx
    rw [if_neg c0]
    by_cases c1 : eI h 0 (ii ((6 * i : Nat) : Int)) &&& ii 63 = ii 1
    · rw [if_pos c1]; exact law_259 hL hi hX nx
    rw [if_neg c1]
    by_cases c2 : eI h 0 (ii ((6 * i : Nat) : Int)) &&& ii 63 = ii 2
    · rw [if_pos c2]; exact law_282 hL hi hX nx
    rw [if_neg c2]
    by_cases c3 : eI h 0 (ii ((6 * i : Nat) : Int)) &&& ii 63 = ii 3
    · rw [if_pos c3]; exact law_295 hL hi hX nx
    rw [if_neg c3]
    by_cases c4 : eI h 0 (ii ((6 * i : Nat) : Int)) &&& ii 63 = ii 4
    · rw [if_pos c4]; exact law_308 hL hi hX nx
    rw [if_neg c4]
    by_cases c5 : eI h 0 (ii ((6 * i : Nat) : Int)) &&& ii 63 = ii 5
    · rw [if_pos c5]; exact law_321 hL hi hX nx
    rw [if_neg c5]
    by_cases c6 : eI h 0 (ii ((6 * i : Nat) : Int)) &&& ii 63 = ii 6
    · rw [if_pos c6]; exact law_354 hL hi hX nx
    rw [if_neg c6]
    by_cases c7 : eI h 0 (ii ((6 * i : Nat) : Int)) &&& ii 63 = ii 7
    · rw [if_pos c7]; exact law_377 hL hi hX nx
    rw [if_neg c7]
    by_cases c8 : eI h 0 (ii ((6 * i : Nat) : Int)) &&& ii 63 = ii 8
    · rw [if_pos c8]; exact law_400 hL hi hX nx
    rw [if_neg c8]
    by_cases c9 : eI h 0 (ii ((6 * i : Nat) : Int)) &&& ii 63 = ii 9
    · rw [if_pos c9]; exact law_433 hL hi hX nx
    rw [if_neg c9]
    by_cases c10 : eI h 0 (ii ((6 * i : Nat) : Int)) &&& ii 63 = ii 10
    · rw [if_pos c10]; exact law_466 hL hi hX nx
    rw [if_neg c10]
    by_cases c11 : eI h 0 (ii ((6 * i : Nat) : Int)) &&& ii 63 = ii 11
    · rw [if_pos c11]; exact law_489 hL hi hX nx
    rw [if_neg c11]
    by_cases c12 : eI h 0 (ii ((6 * i : Nat) : Int)) &&& ii 63 = ii 12
    · rw [if_pos c12]; exact law_522 hL hi hX nx
    rw [if_neg c12]
    by_cases c13 : eI h 0 (ii ((6 * i : Nat) : Int)) &&& ii 63 = ii 13
    · rw [if_pos c13]; exact law_555 hL hi hX nx
    rw [if_neg c13]
    by_cases c14 : eI h 0 (ii ((6 * i : Nat) : Int)) &&& ii 63 = ii 14
    · rw [if_pos c14]; exact law_578 hL hi hX nx
    rw [if_neg c14]
    by_cases c15 : eI h 0 (ii ((6 * i : Nat) : Int)) &&& ii 63 = ii 15
    · rw [if_pos c15]; exact law_601 hL hi hX nx
    rw [if_neg c15]
    by_cases c16 : eI h 0 (ii ((6 * i : Nat) : Int)) &&& ii 63 = ii 16
    · rw [if_pos c16]; exact law_634 hL hi hX nx
    rw [if_neg c16]
    by_cases c17 : eI h 0 (ii ((6 * i : Nat) : Int)) &&& ii 63 = ii 17
    · rw [if_pos c17]; exact law_677 hL hi hX nx
    rw [if_neg c17]
    by_cases c18 : eI h 0 (ii ((6 * i : Nat) : Int)) &&& ii 63 = ii 18
    · rw [if_pos c18]; exact law_710 hL hi hX nx
    rw [if_neg c18]
    by_cases c19 : eI h 0 (ii ((6 * i : Nat) : Int)) &&& ii 63 = ii 19
    · rw [if_pos c19]; exact law_723 hL hi hX nx
    rw [if_neg c19]
    by_cases c20 : eI h 0 (ii ((6 * i : Nat) : Int)) &&& ii 63 = ii 20
    · rw [if_pos c20]; exact law_736 hL hi hX nx
    rw [if_neg c20]
    by_cases c21 : eI h 0 (ii ((6 * i : Nat) : Int)) &&& ii 63 = ii 21
    · rw [if_pos c21]; exact law_769 hL hi hX nx
    rw [if_neg c21]
    by_cases c22 : eI h 0 (ii ((6 * i : Nat) : Int)) &&& ii 63 = ii 22
    · rw [if_pos c22]; exact law_802 hL hi hX nx
    rw [if_neg c22]
    by_cases c23 : eI h 0 (ii ((6 * i : Nat) : Int)) &&& ii 63 = ii 23
    · rw [if_pos c23]; exact law_835 hL hi hX nx
    rw [if_neg c23]
    by_cases c24 : eI h 0 (ii ((6 * i : Nat) : Int)) &&& ii 63 = ii 24
    · rw [if_pos c24]; exact law_868 hL hi hX nx
    rw [if_neg c24]
    by_cases c25 : eI h 0 (ii ((6 * i : Nat) : Int)) &&& ii 63 = ii 25
    · rw [if_pos c25]; exact law_901 hL hi hX nx
    rw [if_neg c25]
    by_cases c26 : eI h 0 (ii ((6 * i : Nat) : Int)) &&& ii 63 = ii 26
    · rw [if_pos c26]; exact law_934 hL hi hX nx
    rw [if_neg c26]
    by_cases c27 : eI h 0 (ii ((6 * i : Nat) : Int)) &&& ii 63 = ii 27
    · rw [if_pos c27]; exact law_967 hL hi hX nx
    rw [if_neg c27]
    by_cases c28 : eI h 0 (ii ((6 * i : Nat) : Int)) &&& ii 63 = ii 28
    · rw [if_pos c28]; exact law_1000 hL hi hX nx
    rw [if_neg c28]
    by_cases c29 : eI h 0 (ii ((6 * i : Nat) : Int)) &&& ii 63 = ii 29
    · rw [if_pos c29]; exact law_1033 hL hi hX nx
    rw [if_neg c29]
    by_cases c30 : eI h 0 (ii ((6 * i : Nat) : Int)) &&& ii 63 = ii 30
    · rw [if_pos c30]; exact law_1082 hL hi hX nx
    rw [if_neg c30]
    by_cases c31 : eI h 0 (ii ((6 * i : Nat) : Int)) &&& ii 63 = ii 31
    · rw [if_pos c31]; exact law_1105 hL hi hX nx
    rw [if_neg c31]
    by_cases c32 : eI h 0 (ii ((6 * i : Nat) : Int)) &&& ii 63 = ii 32
    · rw [if_pos c32]; exact law_1128 hL hi hX nx
    rw [if_neg c32]
    by_cases c33 : eI h 0 (ii ((6 * i : Nat) : Int)) &&& ii 63 = ii 33
    · rw [if_pos c33]; exact law_1151 hL hi hX nx
    rw [if_neg c33]
    by_cases c34 : eI h 0 (ii ((6 * i : Nat) : Int)) &&& ii 63 = ii 34
    · rw [if_pos c34]; exact law_1194 hL hi hX nx
    rw [if_neg c34]
    by_cases c35 : eI h 0 (ii ((6 * i : Nat) : Int)) &&& ii 63 = ii 35
    · rw [if_pos c35]; exact law_1217 hL hi hX nx
    rw [if_neg c35]
    by_cases c36 : eI h 0 (ii ((6 * i : Nat) : Int)) &&& ii 63 = ii 36
    · rw [if_pos c36]; exact law_1240 hL hi hX nx
    rw [if_neg c36]
    exact nx h s hL.up
theorem mGoal_ok : mGoal := by
  intro X hX
  have G : Go 100 328 0 [some (.ref 0), none, none, none] [] (mS0 X) (fun r h1 => r = some (.int (ii 1)) ∧ h1.length ≤ 560064 ∧ mSlots h1 ≤ mSlots (mS0 X) + 6500000) := by
    have l0 : (mS0 X).length = 64 := mS0_len X
    have e1 : nO (mS0 X) 11 = cH X [aN 11] := by rw [cH_0, nO_cH]; rfl
    have l1 : (cH X T134).length = 148 := by rw [cH_len]; decide +kernel
    rw [b328_0, l0]
    refine ⟨_, rfl, Nat.le_refl _, ?_⟩
    rw [e1]
    refine cons134 ?_
    rw [l1]
    refine ⟨_, rfl, by decide, ?_⟩
    rw [nO_cH]
    refine cons182 ?_
    have h0 : (cH X TT)[0]? = some (mI .int X) := by
      unfold cH
      rw [List.getElem?_append_left (by rw [mS0_len]; decide)]
      rfl
    obtain ⟨n0, e0⟩ : ∃ n0, n0 = mSlots (cH X TT) := ⟨_, rfl⟩
    have L0 : LW X n0 (cH X TT) cs0 0 := ⟨CI_0, RI_0, h0, by rw [len_0]; exact Nat.le_add_right _ _, by rw [e0]; exact Nat.le_add_right _ _⟩
    refine law_loop (n0 := n0) hX (fun h s i i5 L => ⟨rfl, ?_, ?_⟩) (X.length / 6) 0 (cH X TT) cs0 (by omega) L0
    · have a := L.2.2.2.1
      generalize h.length = z at *
      omega
    · have a := L.2.2.2.2
      have b : mSlots (cH X TT) = mSlots (mS0 X) + (TT.map szA).sum := by
        unfold cH
        rw [sl_two, sl_T]
      have c := TT_sum
      rw [e0, b] at a
      generalize mSlots h = z at *
      generalize mSlots (mS0 X) = y at *
      generalize (TT.map szA).sum = w at *
      have e : 12000 * i ≤ 6144000 := Nat.mul_le_mul_left 12000 i5
      generalize 12000 * i = u at *
      clear L L0 h0 l1 l0
      omega
  obtain ⟨n, r, h1, e, er, q1, q2⟩ := G
  subst er
  exact ⟨n, h1, tExec_mExec _ _ _ _ _ _ _ _ e, q1, q2⟩
end Ll
