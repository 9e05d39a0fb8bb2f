/-! BLOCKS BY THEIR KINDS; A NEW MOMENT -/
section Dis
variable {h h1 : mHeap} {a b p : Nat} {l : Ld} {m : Mo}
/-- a moment's cells -/
theorem MoS_kd (hM : MoS h b) {c : Nat} (h1 : b ≤ c) (h2 : c < b + 10) : (c = b ∧ kd h c = (4, 3, [0, 0, 0, 0, b + 4, b + 5])) ∨ (c = b + 1 ∧ kd h c = (1, 1, [6])) ∨ (c = b + 2 ∧ kd h c = (3, 10, [7])) ∨ (b + 3 ≤ c ∧ kd h c = (4, 10, [1, 1, 1, 1])) := by
  by_cases q0 : c = b
  · exact Or.inl ⟨q0, by rw [q0]; exact hM.2.1⟩
  · by_cases q1 : c = b + 1
    · exact Or.inr (Or.inl ⟨q1, by rw [q1]; exact hM.2.2.1⟩)
    · by_cases q2 : c = b + 2
      · exact Or.inr (Or.inr (Or.inl ⟨q2, by rw [q2]; exact hM.2.2.2.1⟩))
      · have := (hM.2.2.2.2.2 (c - (b + 3)) (by omega)).2
        rw [show b + 3 + (c - (b + 3)) = c by omega] at this
        exact Or.inr (Or.inr (Or.inr ⟨by omega, this⟩))
theorem LaS_kd (hL : LaS h a) {c : Nat} (h1 : a ≤ c) (h2 : c < a + 8) : (c = a ∧ (kd h c).1 = 4 ∧ (kd h c).2.1 = 2) ∨ (a < c ∧ ∃ n, kd h c = (1, 1, [n]) ∧ (n = 6 ∨ n = 36 ∨ n = 8)) := by
  obtain ⟨-, k0, k1, k2, k3, k4, k5, k6, k7⟩ := hL
  by_cases q0 : c = a
  · exact Or.inl ⟨q0, by rw [q0, k0], by rw [q0, k0]⟩
  · refine Or.inr ⟨by omega, ?_⟩
    obtain q | q | q | q | q | q | q : c = a + 1 ∨ c = a + 2 ∨ c = a + 3 ∨ c = a + 4 ∨ c = a + 5 ∨ c = a + 6 ∨ c = a + 7 := by omega
    · exact ⟨6, by rw [q, k1], Or.inl rfl⟩
    · exact ⟨6, by rw [q, k2], Or.inl rfl⟩
    · exact ⟨6, by rw [q, k3], Or.inl rfl⟩
    · exact ⟨6, by rw [q, k4], Or.inl rfl⟩
    · exact ⟨36, by rw [q, k5], Or.inr (Or.inl rfl)⟩
    · exact ⟨8, by rw [q, k6], Or.inr (Or.inr rfl)⟩
    · exact ⟨8, by rw [q, k7], Or.inr (Or.inr rfl)⟩
/-- a cell of class Moment in a moment's block is its base -/
theorem MoS_base (hM : MoS h b) {c : Nat} (h1 : b ≤ c) (h2 : c < b + 10) (e : (kd h c).1 = 4 ∧ (kd h c).2.1 = 3) : c = b := by
  rcases MoS_kd hM h1 h2 with ⟨q, k⟩ | ⟨q, k⟩ | ⟨q, k⟩ | ⟨q, k⟩
  · exact q
  · rw [k] at e; cases e.1
  · rw [k] at e; cases e.1
  · rw [k] at e; cases e.2
theorem MoS_is (hM : MoS h b) : (kd h b).1 = 4 ∧ (kd h b).2.1 = 3 := by rw [hM.2.1]; exact ⟨rfl, rfl⟩
theorem LaS_is (hL : LaS h a) : (kd h a).1 = 4 ∧ (kd h a).2.1 = 2 := by rw [hL.2.1]; exact ⟨rfl, rfl⟩
theorem MoS_dis {b2 : Nat} (hM : MoS h b) (hB : MoS h b2) (ne : ¬ b = b2) : b2 + 10 ≤ b ∨ b + 10 ≤ b2 := by
  by_cases c1 : b ≤ b2
  · by_cases c2 : b2 < b + 10
    · exact absurd (MoS_base hM c1 c2 (MoS_is hB)).symm ne
    · omega
  · by_cases c2 : b < b2 + 10
    · exact absurd (MoS_base hB (by omega) c2 (MoS_is hM)) ne
    · omega
theorem MoS_LaS (hM : MoS h b) (hL : LaS h a) : a + 8 ≤ b ∨ b + 10 ≤ a := by
  by_cases c1 : b ≤ a
  · by_cases c2 : a < b + 10
    · exfalso
      have e := LaS_is hL
      rcases MoS_kd hM c1 c2 with ⟨q, k⟩ | ⟨q, k⟩ | ⟨q, k⟩ | ⟨q, k⟩ <;> rw [k] at e
      · cases e.2
      · cases e.1
      · cases e.1
      · cases e.2
    · omega
  · by_cases c2 : b < a + 8
    · exfalso
      have e := MoS_is hM
      rcases LaS_kd hL (show a ≤ b by omega) c2 with ⟨q, k1, k2⟩ | ⟨q, n, k, -⟩
      · omega
      · rw [k] at e; cases e.1
    · omega
theorem MoR_eq (hM : MoR h b m) (e : ∀ a, b ≤ a → a < b + 10 → h1[a]? = h[a]?) : MoR h1 b m := by
  obtain ⟨⟨g0, g1, g2, g3, g4, g5⟩, hC⟩ := hM
  refine ⟨⟨g0, by rw [same_kd (e b (by omega) (by omega))]; exact g1, by rw [same_kd (e (b + 1) (by omega) (by omega))]; exact g2, by rw [same_kd (e (b + 2) (by omega) (by omega))]; exact g3, fun i hi => by rw [same_xR (e (b + 2) (by omega) (by omega))]; exact g4 i hi, fun i hi => ⟨(g5 i hi).1, by rw [same_kd (e _ (by omega) (by omega))]; exact (g5 i hi).2⟩⟩, MoC_same hC e⟩
theorem LaR_eq (hL : LaR h a l) (e : ∀ c, a ≤ c → c < a + 8 → h1[c]? = h[c]?) : LaR h1 a l := by
  have s : ∀ k, k < 8 → h1[a + k]? = h[a + k]? := fun k hk => e _ (by omega) (by omega)
  have s0 := s 0 (by omega)
  rw [Nat.add_zero] at s0
  obtain ⟨hS, g⟩ := hL
  unfold LaR LaS LaC
  simp only [same_fI s0, same_kd s0, same_kd (s 1 (by omega)), same_kd (s 2 (by omega)), same_kd (s 3 (by omega)), same_kd (s 4 (by omega)), same_kd (s 5 (by omega)), same_kd (s 6 (by omega)), same_kd (s 7 (by omega)), same_xA (s 1 (by omega)), same_xA (s 2 (by omega)), same_xA (s 3 (by omega)), same_xA (s 4 (by omega)), same_xA (s 5 (by omega)), same_xA (s 6 (by omega)), same_xA (s 7 (by omega))]
  exact ⟨hS, g⟩
theorem MoS_lt (hM : MoS h b) : b + 9 < h.length := by
  have := kd_lt (h := h) (a := b + 3 + 6) (by rw [(hM.2.2.2.2.2 6 (by decide)).2]; decide)
  omega
theorem LaS_lt (hL : LaS h a) : a + 7 < h.length := kd_lt (by rw [hL.2.2.2.2.2.2.2.2]; decide)
end Dis
/-! what grows -/
def Gr (n s : Nat) (h h1 : mHeap) : Prop := h.length ≤ h1.length ∧ h1.length ≤ h.length + n ∧ mSlots h ≤ mSlots h1 ∧ mSlots h1 ≤ mSlots h + s
theorem Gr.rf {n s : Nat} {h : mHeap} : Gr n s h h := ⟨Nat.le_refl _, by omega, Nat.le_refl _, by omega⟩
theorem Gr.tr {n s n' s' : Nat} {h h1 h2 : mHeap} (x : Gr n s h h1) (y : Gr n' s' h1 h2) : Gr (n + n') (s + s') h h2 := by
  obtain ⟨a1, a2, a3, a4⟩ := x
  obtain ⟨b1, b2, b3, b4⟩ := y
  exact ⟨by omega, by omega, by omega, by omega⟩
theorem Gr.wide {n s n' s' : Nat} {h h1 : mHeap} (x : Gr n s h h1) (hn : n ≤ n') (hs : s ≤ s') : Gr n' s' h h1 := by
  obtain ⟨a1, a2, a3, a4⟩ := x
  exact ⟨a1, by omega, a3, by omega⟩
theorem Fr.gr {lo n : Nat} {h h1 : mHeap} (x : Fr lo n h h1) : Gr 0 0 h h1 := ⟨by rw [x.2.1]; omega, by rw [x.2.1]; omega, by rw [x.2.2.1]; omega, by rw [x.2.2.1]; omega⟩
def mo0 : Mo := (0, 0, fun _ => false, fun _ => false, fun _ => 0, fun _ _ => false)
section New
variable {d b : Nat} {h : mHeap} {K : mHeap → Prop}
theorem okN_ii {n : Nat} (hn : n ≤ 100000) : okN (ii n) := by
  refine ⟨?_, ?_⟩
  · rw [ii_lt0 (by omega) (by omega)]; omega
  · rw [ix_ii (by omega) (by omega)]; omega
theorem ix_n {n : Nat} (hn : n ≤ 100000) : (ii (n : Nat)).toNatClampNeg = n := by rw [ix_ii (by omega) (by omega)]; rfl
theorem zero_at (e : h.length ≤ b) : (∀ k, fI h b k = 0) ∧ (∀ i, xA h b i = 0) ∧ ∀ i, wo h b i = false := by
  have hn := non_at (h := h) (b := b) (List.getElem?_eq_none e)
  have hj : ∀ k, fJ h b k = 0 := fun k => by unfold fJ; rw [hn.1]; rfl
  refine ⟨fun k => by unfold fI; rw [hn.1]; rfl, fun i => by unfold xA; rw [hn.2.1]; rfl, fun i => ?_⟩
  unfold wo
  rw [hj, hj, hj, hj]
  unfold w4
  have z : ∀ j, (0 : Int64).toBitVec.getLsbD j = false := fun j => BitVec.getLsbD_zero
  rw [z, z, z, z]
  simp
theorem new_Mo (h64 : 64 ≤ h.length) (hK : ∀ h2, h2.length = h.length + 10 → mSlots h2 = mSlots h + 47 → (∀ a, a < h.length → h2[a]? = h[a]?) → MoR h2 h.length mo0 → K h2) : GoCv (d + 2) 43 [.ref h.length] (nO h 3) K := by
  rw [e43, b43_0]
  have e6 : (ii 6).toNatClampNeg = 6 := ix_n (n := 6) (by decide)
  have e7 : (ii 7).toNatClampNeg = 7 := ix_n (n := 7) (by decide)
  generalize ha : h.length = a at *
  refine ⟨h64, okN_ii (n := 6) (by decide), nA (nO h 3) .int (ii 6), rfl, ?_, okN_ii (n := 7) (by decide), nR (sF (nA (nO h 3) .int (ii 6)) a 4 (.ref (nO h 3).length)) 10 (ii 7), rfl, ?_⟩
  · rw [okP_kd, kd_nA, if_neg (by rw [len_nO, ha]; omega), kd_nO, if_pos ha.symm]
    exact ⟨h64, rfl, rfl, by decide⟩
  have l0 : (nO h 3).length = a + 1 := by rw [len_nO, ha]
  have l1 : (sF (nA (nO h 3) .int (ii 6)) a 4 (.ref (nO h 3).length)).length = a + 2 := by rw [len_sF, len_nA, l0]
  rw [l0] at l1 ⊢
  have q0 : kd (nA (nO h 3) .int (ii 6)) a = (4, 3, [0, 0, 0, 0, 2, 2]) := by rw [kd_nA, if_neg (by rw [l0]; omega), kd_nO, if_pos ha.symm]; rfl
  have q1 : kd (nA (nO h 3) .int (ii 6)) (a + 1) = (1, 1, [6]) := by rw [kd_nA, if_pos l0.symm, e6]; rfl
  have r0 : kd (nR (sF (nA (nO h 3) .int (ii 6)) a 4 (.ref (a + 1))) 10 (ii 7)) a = (4, 3, [0, 0, 0, 0, a + 4, 2]) := by
    rw [kd_nR, if_neg (by rw [l1]; omega), kd_sF', q0, if_pos ⟨rfl, rfl⟩]; rfl
  have r1 : kd (nR (sF (nA (nO h 3) .int (ii 6)) a 4 (.ref (a + 1))) 10 (ii 7)) (a + 1) = (1, 1, [6]) := by
    rw [kd_nR, if_neg (by rw [l1]; omega), kd_sF', if_neg (by omega), q1]
  have r2 : kd (nR (sF (nA (nO h 3) .int (ii 6)) a 4 (.ref (a + 1))) 10 (ii 7)) (a + 2) = (3, 10, [7]) := by
    rw [kd_nR, if_pos l1.symm, e7]
  refine ⟨by rw [okP_kd, r0]; exact ⟨h64, rfl, rfl, by show 5 < 6; omega⟩, ?_⟩
  rw [l1]
  refine Go_loop (fun k L' h' => L' = [some (.ref a), some (.int (ii k))] ∧ h'.length = a + 3 + k ∧ mSlots h' = mSlots h + 19 + 4 * k ∧ (∀ c, c < a → h'[c]? = h[c]?) ∧ kd h' a = (4, 3, [0, 0, 0, 0, a + 4, a + 5]) ∧ kd h' (a + 1) = (1, 1, [6]) ∧ kd h' (a + 2) = (3, 10, [7]) ∧ (∀ j, j < 4 → fI h' a j = 0) ∧ (∀ i, xA h' (a + 1) i = 0) ∧ ∀ i, i < k → xR h' (a + 2) i = some (a + 3 + i) ∧ kd h' (a + 3 + i) = (4, 10, [1, 1, 1, 1]) ∧ ∀ j, wo h' (a + 3 + i) j = false) 7 ?_ ?_ 0 _ _ (Nat.zero_le _) ⟨rfl, ?_, ?_, ?_, ?_, ?_, ?_, ?_, ?_, fun i hi => absurd hi (Nat.not_lt_zero _)⟩
  · rintro k L' h' hk ⟨rfl, g1, g2, g3, g4, g5, g6, g7, g8, g9⟩ next
    have ek : ii (k : Int) + ii 1 = ii ((k + 1 : Nat) : Int) := by rw [ii_add]; rfl
    have f5 : fR h' a 5 = a + 2 := by rw [fR_kd, g4]; rfl
    have o5 : okF h' a 3 5 2 := by rw [okF_kd, g4]; exact ⟨rfl, rfl, rfl⟩
    rw [b43_23, f5]
    refine ⟨o5, by rw [okL_kd, g6]; exact Or.inr (Or.inr ⟨rfl, rfl⟩), ?_⟩
    rw [nL_kd, g6]
    show if ii ((7 : Nat) : Int) ≤ ii k then _ else _
    rw [if_neg (by rw [ii_le (by omega) (by omega) (by omega) (by omega)]; omega)]
    refine ⟨o5, nO h' 10, rfl, by omega, ?_⟩
    rw [c115]
    have kn : ∀ c, kd (nO h' 10) c = if c = a + 3 + k then (4, 10, [1, 1, 1, 1]) else kd h' c := fun c => by rw [kd_nO, g1]; rfl
    have n6 : kd (nO h' 10) (a + 2) = (3, 10, [7]) := by rw [kn, if_neg (by omega), g6]
    have n4 : fR (nO h' 10) a 5 = a + 2 := by rw [fR_kd, kn, if_neg (by omega), g4]; rfl
    refine ⟨by omega, ?_⟩
    have hx : (ii (k : Nat)).toNatClampNeg = k := ix_n (by omega)
    rw [g1]
    refine ⟨?_, ?_⟩
    · rw [okS_kd, n6, oC_kd', kn, if_pos rfl, hx]
      refine ⟨by omega, by omega, rfl, rfl, rfl, ?_, hk⟩
      rw [ii_lt0 (by omega) (by omega)]; omega
    · rw [ek]
      have xr : ∀ c, xR (sR (nO h' 10) (a + 2) (ii k) (a + 3 + k)) c = if a + 2 = c then upf (xR h' (a + 2)) k (some (a + 3 + k)) else xR h' c := fun c => by
        rw [xR_sR (by rw [n6]) (by rw [n6, hx]; exact hk), hx, xR_nO, xR_nO]
      refine next _ _ ⟨rfl, ?_, ?_, ?_, ?_, ?_, ?_, ?_, ?_, ?_⟩
      · rw [len_sR, len_nO, g1]; omega
      · rw [sl_sR, sl_nO, g2]; show _ + 4 = _; omega
      · intro c hc
        rw [sR_get, if_neg (by omega)]
        show (h' ++ [_])[c]? = _
        rw [get_app, if_neg (by omega)]
        exact g3 c hc
      · rw [kd_sR, kn, if_neg (by omega), g4]
      · rw [kd_sR, kn, if_neg (by omega), g5]
      · rw [kd_sR, n6]
      · intro j hj
        rw [fI_sR, fI_nO]; exact g7 j hj
      · intro i
        rw [xA_sR, xA_nO]; exact g8 i
      · intro i hi
        rw [xr, if_pos rfl, kd_sR, kn, wo_sR, wo_nO]
        unfold upf
        by_cases q : i = k
        · subst q
          rw [if_pos rfl, if_pos rfl]
          exact ⟨rfl, rfl, (zero_at (by omega)).2.2⟩
        · rw [if_neg q, if_neg (by omega)]
          exact g9 i (by omega)
  · rintro L' h' ⟨rfl, g1, g2, g3, g4, g5, g6, g7, g8, g9⟩
    have f5 : fR h' a 5 = a + 2 := by rw [fR_kd, g4]; rfl
    have o5 : okF h' a 3 5 2 := by rw [okF_kd, g4]; exact ⟨rfl, rfl, rfl⟩
    rw [b43_23, f5]
    refine ⟨o5, by rw [okL_kd, g6]; exact Or.inr (Or.inr ⟨rfl, rfl⟩), ?_⟩
    rw [nL_kd, g6]
    show if ii ((7 : Nat) : Int) ≤ ii ((7 : Nat) : Int) then _ else _
    rw [if_pos (Int32.le_refl _), rV_s]
    refine hK h' (by omega) (by omega) g3 ⟨⟨h64, g4, g5, g6, fun i hi => (g9 i hi).1, fun i hi => ⟨by omega, (g9 i hi).2.1⟩⟩, g7 0 (by decide), g7 1 (by decide), ?_, ?_, fun p _ => g8 p, fun i hi => funext (g9 i hi).2.2⟩
    · rw [g7 2 (by decide)]; decide
    · rw [g7 3 (by decide)]; decide
  · rw [len_sF, len_nR, l1]
  · rw [sl_sF, sl_nR, e7, sl_sF, sl_nA, e6, sl_nO]; show _ + 6 + 6 + 7 = _; omega
  · intro c hc
    rw [sF_get, if_neg (by omega)]
    show (_ ++ [_])[c]? = _
    rw [get_app, if_neg (by rw [l1]; omega), sF_get, if_neg (by omega)]
    show (_ ++ [_])[c]? = _
    rw [get_app, if_neg (by rw [l0]; omega)]
    show (_ ++ [_])[c]? = _
    rw [get_app, if_neg (by omega)]
  · rw [kd_sF', r0, if_pos ⟨rfl, rfl⟩]; rfl
  · rw [kd_sF', if_neg (by omega), r1]
  · rw [kd_sF', if_neg (by omega), r2]
  · intro j hj
    rw [fI_sF_o (by omega), fI_nR, fI_sF_o (by omega), fI_nA, fI_nO]
    exact (zero_at (by omega)).1 j
  · intro i
    rw [xA_sF, xA_nR, xA_sF, xA_nA, xA_nO]
    exact (zero_at (by omega)).2.1 i
end New
