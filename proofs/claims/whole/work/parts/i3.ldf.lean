/-! THE REFERENCE: land -/
section Tx2
variable {d : Nat} {h h1 h2 h3 : mHeap} {B : Bt} {n p q t i k f c a b : Nat} {F R : List Nat} {l : Ld} {s : Cs} {x : Nat → Int32}
theorem c226_21 {K : Int32 → mHeap → Prop} {l2 : Option Value} (hR : RS h) (hG : ∀ h1 x1, RF [] [149, 150, 151, 152, 155, 156, 157, 158, 159, 160] h h1 → (∀ i, i < 6 → xA h1 149 i = xA h 164 i) → xA h1 149 6 = ii 0 → xA h1 149 7 = ii 0 → xA h1 149 8 = xA h 149 8 → (∀ i, i < 6 → xA h1 150 i = xA h 165 i ∧ xA h1 151 i = xA h 166 i ∧ xA h1 152 i = xA h 168 i ∧ xA h1 155 i = xA h 169 i) → (∀ i, i < 10 → xA h1 156 i = xA h 170 i ∧ xA h1 157 i = xA h 171 i ∧ xA h1 158 i = xA h 172 i) → (∀ i, i < 8 → xA h1 159 i = xA h 173 i ∧ xA h1 160 i = xA h 174 i) → Go (d + 1) 226 156 [some (.ref 148), some (.int (ii 0)), x1] [] h1 (rI K)) : Go (d + 1) 226 21 [some (.ref 148), some (.int (ii 0)), l2] [] h (rI K) := by
  refine Go_loop (fun k L h' => L = [some (.ref 148), some (.int (ii (k : Nat))), l2] ∧ RF [] [149] h h' ∧ (∀ i, i < k → xA h' 149 i = if i < 6 then xA h 164 i else ii 0) ∧ xA h' 149 8 = xA h 149 8) 8 ?_ ?_ 0 _ h (Nat.zero_le _) ⟨rfl, RF.rf, fun i hi => absurd hi (Nat.not_lt_zero i), rfl⟩
  · rintro k L h' hk ⟨rfl, z, y1, y2⟩ nx
    have R1 : RS h' := z.rs hR (by decide)
    have fin : ∀ v : Int32, v = (if k < 6 then xA h 164 k else ii 0) → Go (d + 1) 226 48 [some (.ref 148), some (.int (ii (k : Nat))), l2] [.int v, .int (ii (k : Nat)), .ref 149] h' (rI K) := fun v ev => by
      rw [b226_48]
      simp only [R1.x149 (show k < 9 by omega)]
      refine ⟨by decide, ?_⟩
      rw [show ii (k : Nat) + ii 1 = ii ((k + 1 : Nat) : Int) from ii_add _ _]
      refine nx _ _ ⟨rfl, z.tr RF.sI, fun i hi => ?_, ?_⟩
      · rw [R1.s149 (show k < 9 by omega), if_pos rfl]
        unfold upf
        by_cases c : i = k
        · rw [if_pos c, c, ev]
        · rw [if_neg c]; exact y1 i (by omega)
      · rw [R1.s149 (show k < 9 by omega), if_pos rfl]
        unfold upf
        rw [if_neg (by omega)]
        exact y2
    rw [b226_21, if_neg (le8 hk)]
    (try simp only [(RS.ok R1), (RS.fr R1), true_and, and_true, true_or, or_true])
    by_cases c : k < 6
    · rw [if_neg (by rw [show ii 6 = ii (6 : Int) from rfl, ii_le (by omega) (by omega) (by omega) (by omega)]; omega)]
      simp only [R1.x164 c, true_and]
      exact fin _ (by rw [if_pos c, z.ae (by decide) (by decide)])
    · rw [if_pos (by rw [show ii 6 = ii (6 : Int) from rfl, ii_le (by omega) (by omega) (by omega) (by omega)]; omega)]
      exact fin _ (by rw [if_neg c])
  · rintro L h0 ⟨rfl, z0, y1, y2⟩
    have R0 : RS h0 := z0.rs hR (by decide)
    rw [b226_21, if_pos (show ii 8 ≤ ii ((8 : Nat) : Int) by decide)]
    (try simp only [(RS.ok R0), (RS.fr R0), true_and, and_true, true_or, or_true])
    refine c222g R0.k165 R0.k150 (by decide) (by decide) (by decide) (by decide) (fun g1 z1 w1 => ?_)
    have R1 : RS g1 := z1.rs R0 (by decide)
    (try simp only [(RS.ok R1), (RS.fr R1), true_and, and_true, true_or, or_true])
    refine c222g R1.k166 R1.k151 (by decide) (by decide) (by decide) (by decide) (fun g2 z2 w2 => ?_)
    have R2 : RS g2 := z2.rs R1 (by decide)
    (try simp only [(RS.ok R2), (RS.fr R2), true_and, and_true, true_or, or_true])
    refine c222g R2.k168 R2.k152 (by decide) (by decide) (by decide) (by decide) (fun g3 z3 w3 => ?_)
    have R3 : RS g3 := z3.rs R2 (by decide)
    (try simp only [(RS.ok R3), (RS.fr R3), true_and, and_true, true_or, or_true])
    refine c222g R3.k169 R3.k155 (by decide) (by decide) (by decide) (by decide) (fun g4 z4 w4 => ?_)
    have R4 : RS g4 := z4.rs R3 (by decide)
    (try simp only [(RS.ok R4), (RS.fr R4), true_and, and_true, true_or, or_true])
    refine c222g R4.k170 R4.k156 (by decide) (by decide) (by decide) (by decide) (fun g5 z5 w5 => ?_)
    have R5 : RS g5 := z5.rs R4 (by decide)
    (try simp only [(RS.ok R5), (RS.fr R5), true_and, and_true, true_or, or_true])
    refine c222g R5.k171 R5.k157 (by decide) (by decide) (by decide) (by decide) (fun g6 z6 w6 => ?_)
    have R6 : RS g6 := z6.rs R5 (by decide)
    (try simp only [(RS.ok R6), (RS.fr R6), true_and, and_true, true_or, or_true])
    refine c222g R6.k172 R6.k158 (by decide) (by decide) (by decide) (by decide) (fun g7 z7 w7 => ?_)
    have R7 : RS g7 := z7.rs R6 (by decide)
    (try simp only [(RS.ok R7), (RS.fr R7), true_and, and_true, true_or, or_true])
    refine c222g R7.k173 R7.k159 (by decide) (by decide) (by decide) (by decide) (fun g8 z8 w8 => ?_)
    have R8 : RS g8 := z8.rs R7 (by decide)
    (try simp only [(RS.ok R8), (RS.fr R8), true_and, and_true, true_or, or_true])
    refine c222g R8.k174 R8.k160 (by decide) (by decide) (by decide) (by decide) (fun g9 z9 w9 => ?_)
    have q1 : RF [] [149, 150] h g1 := (z0.wd (by decide) (by decide)).tr (z1.wd (by decide) (by decide))
    have q2 : RF [] [149, 150, 151] h g2 := (q1.wd (by decide) (by decide)).tr (z2.wd (by decide) (by decide))
    have q3 : RF [] [149, 150, 151, 152] h g3 := (q2.wd (by decide) (by decide)).tr (z3.wd (by decide) (by decide))
    have q4 : RF [] [149, 150, 151, 152, 155] h g4 := (q3.wd (by decide) (by decide)).tr (z4.wd (by decide) (by decide))
    have q5 : RF [] [149, 150, 151, 152, 155, 156] h g5 := (q4.wd (by decide) (by decide)).tr (z5.wd (by decide) (by decide))
    have q6 : RF [] [149, 150, 151, 152, 155, 156, 157] h g6 := (q5.wd (by decide) (by decide)).tr (z6.wd (by decide) (by decide))
    have q7 : RF [] [149, 150, 151, 152, 155, 156, 157, 158] h g7 := (q6.wd (by decide) (by decide)).tr (z7.wd (by decide) (by decide))
    have q8 : RF [] [149, 150, 151, 152, 155, 156, 157, 158, 159] h g8 := (q7.wd (by decide) (by decide)).tr (z8.wd (by decide) (by decide))
    have q9 : RF [] [149, 150, 151, 152, 155, 156, 157, 158, 159, 160] h g9 := (q8.wd (by decide) (by decide)).tr (z9.wd (by decide) (by decide))
    have v9 : ∀ a, ¬ a = 148 → ¬ a = 160 → xA g9 a = xA g8 a := fun a h1 h2 => z9.ae h1 (fun y => h2 (List.mem_singleton.mp y))
    have v8 : ∀ a, ¬ a = 148 → ¬ a = 159 → xA g8 a = xA g7 a := fun a h1 h2 => z8.ae h1 (fun y => h2 (List.mem_singleton.mp y))
    have v7 : ∀ a, ¬ a = 148 → ¬ a = 158 → xA g7 a = xA g6 a := fun a h1 h2 => z7.ae h1 (fun y => h2 (List.mem_singleton.mp y))
    have v6 : ∀ a, ¬ a = 148 → ¬ a = 157 → xA g6 a = xA g5 a := fun a h1 h2 => z6.ae h1 (fun y => h2 (List.mem_singleton.mp y))
    have v5 : ∀ a, ¬ a = 148 → ¬ a = 156 → xA g5 a = xA g4 a := fun a h1 h2 => z5.ae h1 (fun y => h2 (List.mem_singleton.mp y))
    have v4 : ∀ a, ¬ a = 148 → ¬ a = 155 → xA g4 a = xA g3 a := fun a h1 h2 => z4.ae h1 (fun y => h2 (List.mem_singleton.mp y))
    have v3 : ∀ a, ¬ a = 148 → ¬ a = 152 → xA g3 a = xA g2 a := fun a h1 h2 => z3.ae h1 (fun y => h2 (List.mem_singleton.mp y))
    have v2 : ∀ a, ¬ a = 148 → ¬ a = 151 → xA g2 a = xA g1 a := fun a h1 h2 => z2.ae h1 (fun y => h2 (List.mem_singleton.mp y))
    have v1 : ∀ a, ¬ a = 148 → ¬ a = 150 → xA g1 a = xA h0 a := fun a h1 h2 => z1.ae h1 (fun y => h2 (List.mem_singleton.mp y))
    have v0 : ∀ a, ¬ a = 148 → ¬ a = 149 → xA h0 a = xA h a := fun a h1 h2 => z0.ae h1 (fun y => h2 (List.mem_singleton.mp y))
    have e149 : xA g9 149 = xA h0 149 := by rw [v9 149 (by decide) (by decide), v8 149 (by decide) (by decide), v7 149 (by decide) (by decide), v6 149 (by decide) (by decide), v5 149 (by decide) (by decide), v4 149 (by decide) (by decide), v3 149 (by decide) (by decide), v2 149 (by decide) (by decide), v1 149 (by decide) (by decide)]
    refine hG g9 _ q9 (fun i hi => ?_) ?_ ?_ ?_ (fun i hi => ⟨?_, ?_, ?_, ?_⟩) (fun i hi => ⟨?_, ?_, ?_⟩) (fun i hi => ⟨?_, ?_⟩)
    · rw [e149, y1 i (by omega), if_pos hi]
    · rw [e149, y1 6 (by decide), if_neg (by decide)]
    · rw [e149, y1 7 (by decide), if_neg (by decide)]
    · rw [e149, y2]
    · rw [v9 150 (by decide) (by decide), v8 150 (by decide) (by decide), v7 150 (by decide) (by decide), v6 150 (by decide) (by decide), v5 150 (by decide) (by decide), v4 150 (by decide) (by decide), v3 150 (by decide) (by decide), v2 150 (by decide) (by decide), w1 i hi, v0 165 (by decide) (by decide)]
    · rw [v9 151 (by decide) (by decide), v8 151 (by decide) (by decide), v7 151 (by decide) (by decide), v6 151 (by decide) (by decide), v5 151 (by decide) (by decide), v4 151 (by decide) (by decide), v3 151 (by decide) (by decide), w2 i hi, v1 166 (by decide) (by decide), v0 166 (by decide) (by decide)]
    · rw [v9 152 (by decide) (by decide), v8 152 (by decide) (by decide), v7 152 (by decide) (by decide), v6 152 (by decide) (by decide), v5 152 (by decide) (by decide), v4 152 (by decide) (by decide), w3 i hi, v2 168 (by decide) (by decide), v1 168 (by decide) (by decide), v0 168 (by decide) (by decide)]
    · rw [v9 155 (by decide) (by decide), v8 155 (by decide) (by decide), v7 155 (by decide) (by decide), v6 155 (by decide) (by decide), v5 155 (by decide) (by decide), w4 i hi, v3 169 (by decide) (by decide), v2 169 (by decide) (by decide), v1 169 (by decide) (by decide), v0 169 (by decide) (by decide)]
    · rw [v9 156 (by decide) (by decide), v8 156 (by decide) (by decide), v7 156 (by decide) (by decide), v6 156 (by decide) (by decide), w5 i hi, q4.ae (by decide) (by decide)]
    · rw [v9 157 (by decide) (by decide), v8 157 (by decide) (by decide), v7 157 (by decide) (by decide), w6 i hi, q5.ae (by decide) (by decide)]
    · rw [v9 158 (by decide) (by decide), v8 158 (by decide) (by decide), w7 i hi, q6.ae (by decide) (by decide)]
    · rw [v9 159 (by decide) (by decide), w8 i hi, q7.ae (by decide) (by decide)]
    · rw [w9 i hi, q8.ae (by decide) (by decide)]
theorem c226_156 {K : Int32 → mHeap → Prop} {l2 : Option Value} (hR : RS h) (hG : ∀ h1, RF [] [163] h h1 → (∀ i, i < 56 → xA h1 163 i = ii 0) → Go (d + 1) 226 180 [some (.ref 148), some (.int (ii 0)), l2] [] h1 (rI K)) : Go (d + 1) 226 156 [some (.ref 148), some (.int (ii 0)), l2] [] h (rI K) := by
  refine Go_loop (fun k L h' => L = [some (.ref 148), some (.int (ii (k : Nat))), l2] ∧ RF [] [163] h h' ∧ ∀ i, i < k → xA h' 163 i = ii 0) 56 ?_ ?_ 0 _ h (Nat.zero_le _) ⟨rfl, RF.rf, fun i hi => absurd hi (Nat.not_lt_zero i)⟩
  · rintro k L h' hk ⟨rfl, z, y1⟩ nx
    have R1 : RS h' := z.rs hR (by decide)
    rw [b226_156]
    simp only [(RS.ok R1), (RS.fr R1), true_and, and_true, true_or, or_true, okL_kd, nL_kd, R1.k163, lnK, List.headD_cons, R1.x163 hk]
    refine ⟨by decide, ?_⟩
    rw [if_neg (show ¬ (1 : Nat) = 4 by decide), if_neg (by rw [ii_le (by omega) (by omega) (by omega) (by omega)]; omega)]
    refine ⟨by decide, ?_⟩
    rw [show ii (k : Nat) + ii 1 = ii ((k + 1 : Nat) : Int) from ii_add _ _]
    refine nx _ _ ⟨rfl, z.tr RF.sI, fun i hi => ?_⟩
    rw [R1.s163 hk, if_pos rfl]
    unfold upf
    by_cases c : i = k
    · rw [if_pos c]
    · rw [if_neg c]; exact y1 i (by omega)
  · rintro L h' ⟨rfl, z, y1⟩
    have R1 : RS h' := z.rs hR (by decide)
    rw [b226_156]
    simp only [(RS.ok R1), (RS.fr R1), true_and, and_true, true_or, or_true, okL_kd, nL_kd, R1.k163, lnK, List.headD_cons]
    refine ⟨by decide, ?_⟩
    rw [if_neg (show ¬ (1 : Nat) = 4 by decide), if_pos (Int32.le_refl _)]
    exact hG h' z y1
theorem c226_280 {K : Int32 → mHeap → Prop} {l2 : Option Value} (hR : RS h) (hG : ∀ h1, RF [59] [153, 154] h h1 → fI h1 148 59 = ii 0 → (∀ i, i < 6 → xA h1 153 i = ii 0 ∧ xA h1 154 i = ii 0) → K (xA h 149 2) h1) : Go (d + 1) 226 280 [some (.ref 148), some (.int (ii 0)), l2] [] h (rI K) := by
  refine Go_loop (fun k L h' => L = [some (.ref 148), some (.int (ii (k : Nat))), l2] ∧ RF [] [153, 154] h h' ∧ ∀ i, i < k → xA h' 153 i = ii 0 ∧ xA h' 154 i = ii 0) 6 ?_ ?_ 0 _ h (Nat.zero_le _) ⟨rfl, RF.rf, fun i hi => absurd hi (Nat.not_lt_zero i)⟩
  · rintro k L h' hk ⟨rfl, z, y1⟩ nx
    have R1 : RS h' := z.rs hR (by decide)
    have R2 : RS (sI h' 153 (ii (k : Nat)) (ii 0)) := R1.si (by decide)
    rw [b226_280, if_neg (by rw [show ii 6 = ii (6 : Int) from rfl, ii_le (by omega) (by omega) (by omega) (by omega)]; omega)]
    simp only [(RS.ok R1), (RS.fr R1), true_and, and_true, true_or, or_true, R1.x153 hk, (RS.ok R2), (RS.fr R2), true_and, and_true, true_or, or_true, R2.x154 hk]
    refine ⟨by decide, by decide, ?_⟩
    rw [show ii (k : Nat) + ii 1 = ii ((k + 1 : Nat) : Int) from ii_add _ _]
    refine nx _ _ ⟨rfl, z.tr ((RF.sI.wd (by decide) (by decide)).tr (RF.sI.wd (by decide) (by decide))), fun i hi => ?_⟩
    rw [R2.s154 hk, R2.s154 hk, if_neg (by decide), if_pos rfl, R1.s153 hk, R1.s153 hk, if_pos rfl, if_neg (by decide)]
    unfold upf
    by_cases c : i = k
    · rw [if_pos c, if_pos c]; exact ⟨rfl, rfl⟩
    · rw [if_neg c, if_neg c]; exact y1 i (by omega)
  · rintro L h' ⟨rfl, z, y1⟩
    have R1 : RS h' := z.rs hR (by decide)
    have t59 : tgK (kd h' 148) 59 = some 0 := R1.tg.2.2.2.2.2.2.2.2.2.2.2.2.2.2.1
    have z2 := RF.sF (x := ii 0) t59
    have R2 : RS (sF h' 148 59 (.int (ii 0))) := R1.sf t59
    have a2 : ∀ a, xA (sF h' 148 59 (.int (ii 0))) a = xA h' a := fun a => xA_sF
    have e2 : xA (sF h' 148 59 (.int (ii 0))) 149 2 = xA h 149 2 := by rw [a2, z.ae (by decide) (by decide)]
    rw [b226_280, if_pos (show ii 6 ≤ ii ((6 : Nat) : Int) by decide)]
    simp only [(RS.ok R1), (RS.fr R1), true_and, and_true, true_or, or_true, R1.op]
    generalize sF h' 148 59 (.int (ii 0)) = H at *
    simp only [(RS.ok R2), (RS.fr R2), true_and, and_true, true_or, or_true, R2.l149, e2, rI_s]
    exact hG H ((z.wd (by decide) (by decide)).tr (z2.1.wd (by decide) (by decide))) z2.2 (fun i hi => by rw [a2, a2]; exact y1 i hi)
theorem c226 {K : Int32 → mHeap → Prop} (hI : RI h s) (hC : CsI s) (hK : ∀ h1, RI h1 (sTx (sPg s (aLand s).2) (cs_B s) 0) → K (ii (aLand s).1) h1) : GoCi (d + 9) 226 [.ref 148] h K := by
  have hR := hI.1.1
  have hT := hI.2.1
  have hb : Byt (cs_B s) (cs_n s) := hC.2.2.2.1.1
  have eN : laN (cs_B s) (cs_n s) = laL (lex (cs_B s) (cs_n s)) (lex (cs_B s) (cs_n s)).length 0 0 ld0 := rfl
  rw [e226, b226_0]
  (try simp only [(RS.ok hR), (RS.fr hR), true_and, and_true, true_or, or_true])
  refine c225 ⟨hR, hT, hb⟩ (fun h1 z1 e27 r1 => ?_)
  rw [← eN] at r1
  have R1 : RS h1 := z1.rs hR (by decide)
  have I1 : RI h1 (sTx s (cs_B s) 0) := hI.tx hC (z1.wd (by decide) (by decide)) ⟨e27, Nat.zero_le _, fun j hj => absurd hj (Nat.not_lt_zero j)⟩
  have C1 : CsI (sTx s (cs_B s) 0) := hC.tx
  simp only [(RS.ok R1), (RS.fr R1), true_and, and_true, true_or, or_true, rI_s]
  unfold aLand at hK
  cases e : laN (cs_B s) (cs_n s) with
  | inl f =>
    rw [e] at r1 hK
    obtain ⟨f1, f0, f5⟩ : fI h1 148 29 = ii (f : Nat) ∧ 0 < f ∧ f < 100000 := r1
    rw [f1, if_neg (by rw [show ii 0 = ii (0 : Int) from rfl, ii_le (by omega) (by omega) (by omega) (by omega)]; omega)]
    rw [show ii (-2) - ii (f : Nat) = ii (-2 - (f : Int)) from ii_sub _ _]
    exact hK h1 I1
  | inr l =>
    rw [e] at r1 hK
    obtain ⟨f1, L1, ok, n1⟩ : fI h1 148 29 = ii 0 ∧ RLn h1 l ∧ LdOk l ∧ 1 ≤ ld_n l := r1
    obtain ⟨o1, o2, o3, o4, o5, o6, o7, _⟩ := id ok
    obtain ⟨⟨a0, a1, a2, a3, a4, a5⟩, b1, b2, b3, b4⟩ := L1
    rw [f1, if_pos (by decide)]
    refine c226_21 (d := d + 7) R1 (fun h2 x1 z2 y1 y2 y3 y4 y5 y6 y7 => ?_)
    have R2 : RS h2 := z2.rs R1 (by decide)
    refine c226_156 R2 (fun h3 z3 w3 => ?_)
    have R3 : RS h3 := z3.rs R2 (by decide)
    have g149 : xA h3 149 = xA h2 149 := z3.ae (by decide) (by decide)
    refine c226_180 (l := l) R3 ok (by rw [g149, y1 0 (by decide)]; exact a0) (by rw [g149, y1 1 (by decide)]; exact a1) (by rw [g149, y1 2 (by decide)]; exact a2) (fun q hq => by rw [z3.ae (by decide) (by decide), z2.ae (by decide) (by decide)]; exact (b1 q hq).2.2.1) w3 (fun h4 l4 z4 w4 v4 => ?_)
    have R4 : RS h4 := z4.rs R3 (by decide)
    refine c226_280 R4 (fun h5 z5 w5 v5 => ?_)
    have i149 : xA h5 149 = xA h2 149 := by rw [z5.ae (by decide) (by decide), z4.ae (by decide) (by decide), g149]
    have er : xA h4 149 2 = ii ((ld_q l).length : Nat) := by rw [z4.ae (by decide) (by decide), g149, y1 2 (by decide)]; exact a2
    rw [er]
    have zz : RF [59] [149, 150, 151, 152, 153, 154, 155, 156, 157, 158, 159, 160, 163] h1 h5 := (z2.wd (by decide) (by decide)).tr ((z3.wd (by decide) (by decide)).tr ((z4.wd (by decide) (by decide)).tr (z5.wd (by decide) (by decide))))
    have row : ∀ r, r ∈ [150, 151, 152, 155, 156, 157, 158, 159, 160] → xA h5 r = xA h2 r := fun r hr => by
      have : ¬ r = 148 ∧ ¬ r = 153 ∧ ¬ r = 154 ∧ ¬ r = 163 := by revert hr; revert r; decide
      rw [z5.ae this.1 (fun y => by
        rcases List.mem_cons.mp y with g | g
        · omega
        · have := List.mem_singleton.mp g; omega), z4.ae this.1 (fun y => by have := List.mem_singleton.mp y; omega), z3.ae this.1 (fun y => by have := List.mem_singleton.mp y; omega)]
    have o : ∀ {r i : Nat}, 149 ≤ r → lv h5 r i = xA h5 r i := fun hr => by rw [lv_x hr]
    have e163 : xA h5 163 = xA h4 163 := z5.ae (by decide) (by decide)
    have P5 : RPg (lv h5) (l, sta l, [], [], pg_x (cs_P s)) := by
      refine ⟨⟨⟨?_, ?_, ?_, ?_, ?_⟩, fun q hq => ⟨?_, ?_⟩, fun k hk => ?_, fun k hk => ⟨?_, ?_, ?_⟩, fun t ht => ⟨?_, ?_⟩⟩, ⟨⟨?_, ?_⟩, fun q hq => ⟨?_, ?_, ?_, ?_⟩, ?_⟩, ⟨?_, Nat.zero_le _, fun i hi => absurd hi (Nat.not_lt_zero i)⟩, ⟨?_, Nat.zero_le _, fun i hi => absurd hi (Nat.not_lt_zero i)⟩, ?_⟩
      · rw [o (by decide), i149, y1 0 (by decide)]; exact a0
      · rw [o (by decide), i149, y1 2 (by decide)]; exact a2
      · rw [o (by decide), i149, y1 3 (by decide)]; exact a3
      · rw [o (by decide), i149, y1 4 (by decide)]; exact a4
      · rw [o (by decide), i149, y1 5 (by decide)]; exact a5
      · have hq : q < (ld_q l).length := hq
        rw [o (by decide), row 151 (by decide), (y5 q (by omega)).2.1]; exact (b1 q hq).2.1
      · have hq : q < (ld_q l).length := hq
        rw [o (by decide), row 152 (by decide), (y5 q (by omega)).2.2.1]; exact (b1 q hq).2.2.2
      · have hk : k < (ld_p l).length := hk
        rw [o (by decide), row 155 (by decide), (y5 k (by omega)).2.2.2]; exact b2 k hk
      · have hk : k < (ld_w l).length := hk
        rw [o (by decide), row 156 (by decide), (y6 k (by omega)).1]; exact (b3 k hk).1
      · have hk : k < (ld_w l).length := hk
        rw [o (by decide), row 157 (by decide), (y6 k (by omega)).2.1]; exact (b3 k hk).2.1
      · have hk : k < (ld_w l).length := hk
        rw [o (by decide), row 158 (by decide), (y6 k (by omega)).2.2]; exact (b3 k hk).2.2
      · have ht : t < (ld_t l).length := ht
        rw [o (by decide), row 159 (by decide), (y7 t (by omega)).1]; exact (b4 t ht).1
      · have ht : t < (ld_t l).length := ht
        rw [o (by decide), row 160 (by decide), (y7 t (by omega)).2]; exact (b4 t ht).2
      · rw [o (by decide), i149, y2]; rfl
      · rw [o (by decide), i149, y1 1 (by decide)]; exact a1
      · have hq : q < (ld_q l).length := hq
        rw [o (by decide), row 150 (by decide), (y5 q (by omega)).1, (b1 q hq).1]
        have s1 : (la_q l q).1 ≤ 1 := (o7 _ (la_q_mem hq)).1
        show ii ((la_q l q).1 : Nat) = ii (bt (decide ((la_q l q).1 = 1)))
        have : (la_q l q).1 = 0 ∨ (la_q l q).1 = 1 := by omega
        rcases this with g | g <;> (rw [g]; decide)
      · have hq : q < (ld_q l).length := hq
        rw [o (by decide), (v5 q (by omega)).1]; rfl
      · have hq : q < (ld_q l).length := hq
        rw [o (by decide), (v5 q (by omega)).2]; rfl
      · have hq : q < (ld_q l).length := hq
        rw [show lv h5 163 = xA h5 163 from lv_x (by decide), e163, v4 q hq]
        show _ = if 1 ≤ q + 1 ∧ q + 1 < (ld_q l).length + 1 then _ else _
        rw [if_pos (by omega)]
        rfl
      · rw [show lv h5 163 = xA h5 163 from lv_x (by decide), e163, w4]
        rfl
      · show fI h5 148 59 = _
        exact w5
      · rw [o (by decide), i149, y3]; rfl
      · rw [o (by decide), i149, y4]
        exact I1.2.2.2.2.1.2.2.2.2
    have I5 := I1.pg C1 (zz.wd (by decide) (by decide)) (fun i _ => by rw [zz.ae (by decide) (by decide)]) P5
    exact hK h5 I5
end Tx2
