/-! WHAT ONE CALLS: rule -/
section Rul1
variable {d : Nat} {h h1 h2 : mHeap} {s s1 s2 : Cs} {B : Bt} {n : Nat} {C : List Ru}
theorem c139 {K : Int32 → mHeap → Prop} (hC : CI h s) (hK : ∀ h1 r s', Nx h h1 s' → aRul s r s' → K (ii r) h1) : GoCi (d + 43) 139 [.ref 64] h K := by
  obtain ⟨⟨a1, hT, a3, a4, a5, a6, a7⟩, ⟨hS, hR⟩, _⟩ := id hC
  have g0 := hC.2.2.2.2.2
  have r6 := hR.2.2.1
  rw [e139, b139_0]
  simp only [TbS_ok hT, hR.2.1, true_and, rI_s]
  have lt : ii ((cs_C s).length : Nat) < ii 6 ↔ (cs_C s).length < 6 := by
    rw [show ii 6 = ii ((6 : Nat) : Int) from rfl, ii_lt (by omega) (by omega) (by omega) (by omega)]
    omega
  by_cases c : (cs_C s).length < 6
  rotate_left
  · rw [if_neg (fun g => c (lt.1 g))]
    refine hK h (-1) s (Nx.rf hC) ?_
    unfold aRul
    rw [if_neg c]
    exact ⟨rfl, rfl⟩
  rw [if_pos (lt.2 c)]
  refine ⟨oC_kd a6.1, ?_⟩
  refine c69 a1 a3 a4 a6 a7 (fun h1 r F1 f1 x1 ru o1 => ?_)
  have N1 := hC.rd (h1 := h1) (c := 0) (d := 0) ⟨by rw [F1.2.1]; omega, by rw [F1.2.1]; omega, by rw [F1.2.2.1]; omega, by rw [F1.2.2.1]; omega⟩ (fun c _ => F1.1.1 c) (fun c q1 q2 q3 q4 q5 => F1.2.2.2 c (by unfold rsT; omega)) f1 x1
  obtain ⟨⟨_, hT1, b3, b4, _⟩, _⟩ := id N1.1
  have N2 := N1.1.em
  have t1 : tgK (kd h1 65) 1 = some 0 := by rw [b3.1]; rfl
  have F2 := Fr.sF (x := ii 0) t1
  have f22 : fI (sF h1 65 1 (.int (ii 0))) 65 2 = fI h1 65 2 := by rw [fI_sF t1, if_neg (by simp)]
  simp only [TbS_ok hT1, true_and]
  refine ⟨TxS_okP b3 (by decide), ?_⟩
  generalize sF h1 65 1 (.int (ii 0)) = H2 at *
  obtain ⟨⟨v1, hT2, g3, g4, g5, g6, g7⟩, ⟨hS2, hR2⟩, _, _, _, v202⟩ := id N2.1
  have hR2 : CiR H2 (cs_C s) := hR2
  simp only [TbS_ok hT2, oC_kd g3.1, true_and]
  rw [e113, b113_0]
  simp only [TxS_ok g3, f22, true_and, true_or, or_true]
  cases r with
  | inl f =>
    obtain ⟨w1, w2, w3⟩ := o1
    have f0 : ¬ ii (f : Nat) = ii 0 := by
      rw [show ii 0 = ii ((0 : Nat) : Int) from rfl, ii_eq (by omega) (by omega) (by omega) (by omega)]
      omega
    rw [w3, if_neg f0, rI_s, if_neg (by decide)]
    simp only [TbS_ok hT2, TxS_ok g3, f22, w3, true_and]
    rw [show ii (-2) - ii (f : Nat) = ii (-2 - (f : Int)) from ii_sub _ _]
    refine hK H2 _ _ ((N1.tr N2).nx (by decide) (by decide)) ?_
    unfold aRul
    rw [if_pos c]
    exact Or.inl ⟨f, ru, rfl, rfl⟩
  | inr R =>
    obtain ⟨w1, w2, w3⟩ := o1
    rw [w1, if_pos (show ii ((0 : Nat) : Int) = ii 0 from rfl), rI_s, if_pos (show ii 0 = ii 0 from rfl)]
    have k64 := TbS_ok hT2
    have f5 : fI H2 64 5 = ii ((cs_C s).length : Nat) := hR2.2.1
    simp only [k64, f5, oC_kd g6.1, true_and]
    have O2 : RrO H2 (flC R) := ⟨by rw [same_fI (F2.2.2.2 119 (by omega))]; exact w2.1, w2.2.1, fun k hk => by rw [same_xA (F2.2.2.2 120 (by omega))]; exact w2.2.2 k hk⟩
    have M2 : RrM H2 R := ⟨by rw [same_fI (F2.2.2.2 119 (by omega))]; exact w3.1, w3.2.1, fun k hk => by rw [same_xA (F2.2.2.2 121 (by omega))]; exact w3.2.2.1 k hk, fun k hk => by rw [same_xA (F2.2.2.2 122 (by omega))]; exact w3.2.2.2 k hk⟩
    refine c70 v1 g6 O2 M2 (ruL_ok (lex_tk (fun i hi => (a4.2.2 i hi).2)) _ _ _ _ _ RuOk_nil ru) (fun h3 l3 s3 s3' e3 R3 => ?_)
    have N3 := N2.1.gr (h1 := h3) (n := 5) (m := 500) ⟨by omega, by omega, by omega, by omega⟩ e3 (by decide) (by decide)
    have N3a : NxG 5 500 H2 h3 _ := ⟨N3.1, ⟨by omega, by omega, by omega, by omega⟩, N3.2.2⟩
    obtain ⟨⟨_, hT3, _⟩, ⟨_, hR3⟩, _⟩ := id N3.1
    have hR3 : CiR h3 (cs_C s) := hR3
    have hT3' := hT3
    unfold TbS at hT3
    have ix : (ii ((cs_C s).length : Nat)).toNatClampNeg = (cs_C s).length := by rw [ix_ii (by omega) (by omega)]; rfl
    have nn : ¬ ii ((cs_C s).length : Nat) < 0 := by rw [ii_lt0 (by omega) (by omega)]; omega
    have xr : ∀ b, xR (sR h3 123 (ii ((cs_C s).length : Nat)) H2.length) b = if 123 = b then upf (xR h3 123) (cs_C s).length (some H2.length) else xR h3 b := fun b => by
      rw [xR_sR (by rw [hR3.1]) (by rw [ix, hR3.1]; exact c), ix]
    have kt : ∀ b, kd (sR h3 123 (ii ((cs_C s).length : Nat)) H2.length) b = kd h3 b := fun b => kd_sR
    have fi4 : ∀ b k, fI (sR h3 123 (ii ((cs_C s).length : Nat)) H2.length) b k = fI h3 b k := fun b k => fI_sR
    have g4' : ∀ a, ¬ a = 123 → (sR h3 123 (ii ((cs_C s).length : Nat)) H2.length)[a]? = h3[a]? := fun a g => by rw [sR_get, if_neg (fun q => g q.symm)]
    have l4 : (sR h3 123 (ii ((cs_C s).length : Nat)) H2.length).length = h3.length := len_sR
    have s4 : mSlots (sR h3 123 (ii ((cs_C s).length : Nat)) H2.length) = mSlots h3 := sl_sR
    have oS : okS h3 123 (ii ((cs_C s).length : Nat)) H2.length := by
      rw [okS_kd, hR3.1, ix]
      obtain ⟨n, sr, _⟩ := R3
      exact ⟨by omega, by omega, rfl, rfl, oC_kd sr.2.1, nn, c⟩
    refine ⟨oS, ?_⟩
    generalize sR h3 123 (ii ((cs_C s).length : Nat)) H2.length = H4 at *
    have T4 : TbS H4 := by unfold TbS; rw [kt]; exact hT3
    have t5 : tgK (kd H4 64) 5 = some 0 := by rw [kt, hT3]; rfl
    have e45 : fI H4 64 5 = ii ((cs_C s).length : Nat) := by rw [fi4]; exact hR3.2.1
    have add1 : ii ((cs_C s).length : Nat) + ii 1 = ii (((cs_C s).length + 1 : Nat) : Int) := by rw [ii_add]; rfl
    have sub1 : ii (((cs_C s).length + 1 : Nat) : Int) - ii 1 = ii ((cs_C s).length : Nat) := by
      rw [ii_sub]
      congr 1
      omega
    simp only [TbS_ok T4, e45, add1, true_and]
    have F5 := Fr.sF (x := ii (((cs_C s).length + 1 : Nat) : Int)) t5
    have f55 : fI (sF H4 64 5 (.int (ii (((cs_C s).length + 1 : Nat) : Int)))) 64 5 = ii (((cs_C s).length + 1 : Nat) : Int) := by rw [fI_sF t5, if_pos ⟨rfl, rfl⟩]
    have oP : okP H4 64 11 5 := by rw [okP_kd, kt, hT3]; exact ⟨by decide, rfl, rfl, by decide⟩
    refine ⟨oP, ?_⟩
    generalize sF H4 64 5 (.int (ii (((cs_C s).length + 1 : Nat) : Int))) = H5 at *
    have T5 : TbS H5 := by unfold TbS; rw [F5.1.1, kt]; exact hT3
    simp only [TbS_ok T5, f55, sub1, true_and]
    have e5 : ∀ a, ¬ a = 64 → ¬ a = 123 → H5[a]? = h3[a]? := fun a q1 q2 => by rw [F5.2.2.2 a (by omega), g4' a q2]
    have CR : CiR H5 (cs_C s ++ [R]) := by
      refine ⟨by rw [F5.1.1, kt]; exact hR3.1, by rw [f55, List.length_append]; rfl, by rw [List.length_append, List.length_singleton]; omega, fun k hk => ?_⟩
      rw [List.length_append, List.length_singleton] at hk
      by_cases ck : k < (cs_C s).length
      · obtain ⟨r, r1, r2, r3⟩ := hR3.2.2.2 k ck
        refine ⟨r, ?_, r2, ?_⟩
        · rw [F5.1.2, xr, if_pos rfl]
          unfold upf
          rw [if_neg (by omega)]
          exact r1
        · rw [List.getD_eq_getElem?_getD, List.getElem?_append_left ck, ← List.getD_eq_getElem?_getD]
          exact RuR_eq r3 (fun a g g' => e5 a (by omega) (by omega))
      · have hk2 : k = (cs_C s).length := by omega
        refine ⟨H2.length, ?_, v202, ?_⟩
        · rw [F5.1.2, xr, if_pos rfl]
          unfold upf
          rw [if_pos hk2]
        · rw [List.getD_eq_getElem?_getD, List.getElem?_append_right (by omega), show k - (cs_C s).length = 0 by omega]
          exact RuR_eq R3 (fun a g g' => e5 a (by omega) (by omega))
    have N5 := N3.1.rl e5 (by rw [F5.2.1, l4]) (by rw [F5.2.2.1, s4]) (by rw [F5.1.1, kt]) CR
    refine hK H5 _ _ ((((N1.tr N2).tr N3a).tr N5).nx (by decide) (by decide)) ?_
    unfold aRul
    rw [if_pos c]
    exact Or.inr ⟨R, ru, rfl, rfl⟩
end Rul1
