/-! WHAT ONE CALLS: land -/
noncomputable def laN (B : Bt) (n : Nat) : Nat ⊕ Ld := laL (lex B n) (lex B n).length 0 0 ld0
noncomputable def aLand (s : Cs) : Int × Pg := match laN (cs_B s) (cs_n s) with
  | .inl f => (-2 - (f : Int), cs_P s)
  | .inr l => (((ld_q l).length : Int), (l, sta l, [], [], pg_x (cs_P s)))
section Lnd
variable {d : Nat} {h h1 h2 : mHeap} {s s1 s2 : Cs}
/-- land -/
theorem c137 {K : Int32 → mHeap → Prop} (hC : CI h s) (hK : ∀ h1, Nx h h1 (sTx (sPg s (aLand s).2) (cs_B s) 0) → K (ii (aLand s).1) h1) : GoCi (d + 11) 137 [.ref 64] h K := by
  obtain ⟨⟨a1, hT, a3, a4, a5, a6, a7⟩, ⟨hS, _⟩, _⟩ := id hC
  have g0 := hC.2.2.2.2.2
  rw [e137, b137_0]
  refine ⟨_, rfl, by omega, ?_⟩
  refine new_La (by omega) (fun h2 l2 s2 e2 L2 => ?_)
  have N2 := hC.gr (h1 := h2) (n := 8) (m := 90) ⟨by omega, by omega, by omega, by omega⟩ e2 (by decide) (by decide)
  obtain ⟨⟨b1, hT2, b3, b4, b5, b6, b7⟩, _⟩ := id N2.1
  simp only [TbS_ok hT2, oC_kd L2.1.2.1, true_and]
  refine c30 b1 b3 b4 L2 (by omega) (fun h3 F3 f1 o3 => ?_)
  have same3 : ∀ c, c < h.length → ¬ c = 65 → ¬ c = 67 → ¬ c = 68 → h3[c]? = h[c]? := fun c q1 q2 q3 q4 => by
    rw [F3.2.2.2 c (by unfold lrT; omega), e2 c q1]
  have N3 := hC.rd (h1 := h3) (c := 8) (d := 90) ⟨by rw [F3.2.1]; omega, by rw [F3.2.1]; omega, by rw [F3.2.2.1]; omega, by rw [F3.2.2.1]; omega⟩ (fun c hc => by rw [F3.1.1, same_kd (e2 c hc)]) (fun c q1 q2 q3 q4 _ => same3 c q1 q2 q3 q4) (by rw [f1, same_fI (e2 65 (by omega))]) (by rw [same_xA (same3 121 (by omega) (by omega) (by omega) (by omega))]; exact a7)
  obtain ⟨⟨_, hT3, u3, u4, _⟩, _⟩ := id N3.1
  have N4 := N3.1.em
  have t1 : tgK (kd h3 65) 1 = some 0 := by rw [u3.1]; rfl
  have F4 := Fr.sF (x := ii 0) t1
  have f22 : fI (sF h3 65 1 (.int (ii 0))) 65 2 = fI h3 65 2 := by rw [fI_sF t1, if_neg (by simp)]
  simp only [TbS_ok hT3, true_and]
  refine ⟨TxS_okP u3 (by decide), ?_⟩
  generalize sF h3 65 1 (.int (ii 0)) = H4 at *
  obtain ⟨⟨v1, hT4, v3, v4, _⟩, _, ⟨hP4, hI4, _⟩, _⟩ := id N4.1
  simp only [TbS_ok hT4, oC_kd v3.1, true_and]
  rw [e113, b113_0]
  simp only [TxS_ok v3, f22, true_and, true_or, or_true]
  have ev : aLand s = match laN (cs_B s) (cs_n s) with
    | .inl f => (-2 - (f : Int), cs_P s)
    | .inr l => (((ld_q l).length : Int), (l, sta l, [], [], pg_x (cs_P s))) := rfl
  have o3 : lrO h3 h.length (laN (cs_B s) (cs_n s)) := o3
  cases o : laN (cs_B s) (cs_n s) with
  | inl f =>
    rw [o] at o3 ev
    rw [ev] at hK
    obtain ⟨w1, w2, w3⟩ := o3
    have f0 : ¬ ii (f : Nat) = ii 0 := by
      rw [show ii 0 = ii ((0 : Nat) : Int) from rfl, ii_eq (by omega) (by omega) (by omega) (by omega)]
      omega
    rw [w3, if_neg f0, rI_s, if_neg (by decide)]
    simp only [TbS_ok hT4, TxS_ok v3, f22, w3, true_and, rI_s]
    rw [show ii (-2) - ii (f : Nat) = ii (-2 - (f : Int)) from ii_sub _ _]
    exact hK H4 ((N3.tr N4).nx (by decide) (by decide))
  | inr l =>
    rw [o] at o3 ev
    rw [ev] at hK
    obtain ⟨w1, w2, w3, w4⟩ := o3
    rw [w1, if_pos (show ii ((0 : Nat) : Int) = ii 0 from rfl), rI_s, if_pos (show ii 0 = ii 0 from rfl)]
    simp only [TbS_ok hT4, PgS_okF hP4.1, true_and]
    have L4 : LaR H4 h.length l := w2.fr F4 (by omega)
    refine c55 v1 hP4 L4 w3 (fun h5 y1 y2 y3 y4 => ?_)
    have N5 := N4.1.pgG y2 (PgN_of y3) y1 ⟨MoI_sta w3, (fun t ht => absurd ht (Nat.not_lt_zero _)), (fun m hm => by have hm : m ∈ ([] : List Mo) := hm; cases hm), Or.inl w4⟩ (by rw [y4]; omega)
    have L5 : LaR h5 h.length l := by rw [← y4]; exact y1.2.1
    simp only [LaS_ok L5.1, L5.2.2.2.1, true_and, rI_s]
    exact hK h5 (((N3.tr N4).tr N5).nx (by decide) (by decide))
end Lnd
