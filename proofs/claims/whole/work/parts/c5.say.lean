/-! WHAT ONE CALLS: saying -/
def sSy (s : Cs) (S : List Wd) : Cs := (s.1, S, s.2.2)
def aSay (s : Cs) (r : Int) (s' : Cs) : Prop := if (cs_S s).length < 24 then (∃ f : Nat, sgR (lex (cs_B s) (cs_n s)) sgO (.inr (.inl f)) ∧ r = -2 - f ∧ s' = sTx s (cs_B s) 0) ∨ (∃ w, sgR (lex (cs_B s) (cs_n s)) sgO (.inr (.inr w)) ∧ r = (cs_S s).length ∧ s' = sTx (sSy s (cs_S s ++ [w])) (cs_B s) 0) else r = -1 ∧ s' = s
section Say
variable {d : Nat} {h h1 h2 : mHeap} {s s1 s2 : Cs} {x y z : Int} {S : List Wd} {T : Nat → Prop}
theorem CI.sy (hC : CI h s) (x : Fr 69 28 h h1) (hS : SyR h1 S) (hl : (cs_S s).length ≤ S.length) : NxG 0 0 h h1 (sSy s S) := by
  obtain ⟨⟨a1, a2, a3, a4, a5, a6, a7⟩, ⟨b1, b2⟩, ⟨c1, c2, c3⟩, ⟨d1, d2, d3, d4, d5⟩, f, g1⟩ := hC
  have e : ∀ a, a < 69 ∨ 97 ≤ a → h1[a]? = h[a]? := fun a g => x.2.2.2 a (by omega)
  refine ⟨⟨⟨St_get a1 (fun b hb => e b (by omega)), by unfold TbS; rw [x.1.1]; exact a2, a3.sk x.1, ⟨by rw [same_fI (e 65 (by omega))]; exact a4.1, a4.2.1, fun i hi => by rw [same_xA (e 66 (by omega))]; exact a4.2.2 i hi⟩, by rw [x.1.1]; exact a5, a6.sk x.1, by rw [same_xA (e 121 (by omega))]; exact a7⟩, ⟨hS, CiR_eq (T := fun a => 69 ≤ a ∧ a < 97) b2 g1 (fun a _ ht => e a (by omega)) (fun a ht => Or.inl (by omega))⟩, ⟨PgR_eq c1 (fun a ha => e a ?_), c2.mono hl, c3.sk x.1⟩, ⟨d1.fr x.1, d2.fr x.1, by rw [x.1.1]; exact d3, by rw [x.1.1]; exact d4, ?_⟩, CiI_eq (T := fun a => 69 ≤ a ∧ a < 97) f c1.1 g1 (fun a _ ht => e a (by omega)) (fun a ht => Or.inl (by omega)) (PgN_of (x.1.2 _)) hl, by rw [x.2.1]; exact g1⟩, x.gr, fun a g g' => e a (by omega)⟩
  · rcases ha with g | g
    · have := hiP_T c3 g
      omega
    · rcases c3.1 with u | u <;> omega
  · obtain ⟨m, hm⟩ := d5
    exact ⟨m, MoR_eq hm (fun a g g' => e a (by omega))⟩
/-- the tape is emptied -/
theorem CI.em (hC : CI h s) : NxG 0 0 h (sF h 65 1 (.int (ii 0))) (sTx s (cs_B s) 0) := by
  obtain ⟨⟨a1, a2, a3, a4, a5, a6, a7⟩, _⟩ := id hC
  have t1 : tgK (kd h 65) 1 = some 0 := by rw [a3.1]; rfl
  have F := Fr.sF (x := ii 0) t1
  exact hC.txN F (by decide) ⟨by rw [fI_sF t1, if_pos ⟨rfl, rfl⟩]; rfl, by decide, fun i hi => absurd hi (Nat.not_lt_zero _)⟩
theorem CI.rd {c d : Nat} (hC : CI h s) (hG : Gr c d h h1) (hk : ∀ c, c < h.length → kd h1 c = kd h c) (e : ∀ c, c < h.length → ¬ c = 65 → ¬ c = 67 → ¬ c = 68 → ¬ (118 ≤ c ∧ c < 123) → h1[c]? = h[c]?) (f1 : fI h1 65 1 = fI h 65 1) (r0 : xA h1 121 0 = ii ((0 : Nat) : Int)) : NxG c d h h1 s := by
  obtain ⟨⟨a1, a2, a3, a4, a5, a6, a7⟩, _⟩ := id hC
  have g1 := hC.2.2.2.2.2
  refine ⟨hC.tx (T := fun c => c = 65 ∨ c = 67 ∨ c = 68 ∨ (118 ≤ c ∧ c < 123)) (B := cs_B s) (n := cs_n s) (fun a ha ht => e a ha (fun g => ht (by omega)) (fun g => ht (by omega)) (fun g => ht (by omega)) (fun g => ht (by omega))) (fun a ht => by omega) hG.1 ⟨by rw [hk 65 (by omega)]; exact a3.1, by rw [hk 66 (by omega)]; exact a3.2.1, by rw [hk 67 (by omega)]; exact a3.2.2.1, by rw [hk 68 (by omega)]; exact a3.2.2.2⟩ ⟨by rw [f1]; exact a4.1, a4.2.1, fun i hi => by rw [same_xA (e 66 (by omega) (by omega) (by omega) (by omega) (by omega))]; exact a4.2.2 i hi⟩ (by rw [hk 118 (by omega)]; exact a5) ⟨by rw [hk 119 (by omega)]; exact a6.1, by rw [hk 120 (by omega)]; exact a6.2.1, by rw [hk 121 (by omega)]; exact a6.2.2.1, by rw [hk 122 (by omega)]; exact a6.2.2.2⟩ r0, hG, fun a g g' => e a (by omega) (by omega) (by omega) (by omega) (by omega)⟩
/-- saying -/
theorem c138 {K : Int32 → mHeap → Prop} (hC : CI h s) (hK : ∀ h1 r s', Nx h h1 s' → aSay s r s' → K (ii r) h1) : GoCi (d + 29) 138 [.ref 64] h K := by
  obtain ⟨⟨a1, hT, a3, a4, a5, a6, a7⟩, ⟨hS, _⟩, _⟩ := id hC
  have l24 := ci_S24 hC
  rw [e138, b138_0]
  simp only [TbS_ok hT, SyS_ok hS.1, hS.2.1, true_and, rI_s]
  have lt : ii ((cs_S s).length : Nat) < ii 24 ↔ (cs_S s).length < 24 := by
    rw [show ii 24 = ii ((24 : Nat) : Int) from rfl, ii_lt (by omega) (by omega) (by omega) (by omega)]
    omega
  by_cases c : (cs_S s).length < 24
  rotate_left
  · rw [if_neg (fun g => c (lt.1 g))]
    refine hK h (-1) s (Nx.rf hC) ?_
    unfold aSay
    rw [if_neg c]
    exact ⟨rfl, rfl⟩
  rw [if_pos (lt.2 c)]
  refine ⟨oC_kd a5, ?_⟩
  refine c80 a1 a3 a4 a5 (fun v h1 f G1 k1 e1 f1 f2 lf w0 w1 => ?_)
  have g0 := hC.2.2.2.2.2
  have N1 := hC.rd G1 k1 (fun c q1 q2 q3 q4 q5 => e1 c q1 q2 q3 q4 (fun g => q5 (by omega))) f1 (by rw [same_xA (e1 121 (by omega) (by omega) (by omega) (by omega) (by omega))]; exact a7)
  obtain ⟨⟨_, hT1, b3, b4, _⟩, _⟩ := id N1.1
  have N2 := N1.1.em
  have t1 : tgK (kd h1 65) 1 = some 0 := by rw [b3.1]; rfl
  have F2 := Fr.sF (x := ii 0) t1
  have f22 : fI (sF h1 65 1 (.int (ii 0))) 65 2 = ii (f : Nat) := by rw [fI_sF t1, if_neg (by simp)]; exact f2
  simp only [TbS_ok hT1, true_and]
  refine ⟨TxS_okP b3 (by decide), ?_⟩
  generalize sF h1 65 1 (.int (ii 0)) = H2 at *
  obtain ⟨⟨_, hT2, g3, g4, _⟩, ⟨hS2, _⟩, _⟩ := id N2.1
  have hS2 : SyR H2 (cs_S s) := hS2
  simp only [TbS_ok hT2, oC_kd g3.1, true_and]
  rw [e113, b113_0]
  simp only [TxS_ok g3, f22, true_and, true_or, or_true, rI_s]
  have f0 : ii (f : Nat) = ii 0 ↔ f = 0 := by
    rw [show ii 0 = ii ((0 : Nat) : Int) from rfl, ii_eq (by omega) (by omega) (by omega) (by omega)]
    omega
  by_cases c0 : f = 0
  · rw [if_pos (f0.2 c0), if_pos (by trivial)]
    obtain ⟨w2, w3, w4⟩ := w0 c0
    simp only [TbS_ok hT2, SyS_ok hS2.1, true_and]
    have wv : WS H2 v := F2.1.WS w2
    refine c85 hS2 c wv (fun h3 F3 S3 => ?_)
    have wo2 : wo H2 v = wo h1 v := same_wo (F2.2.2.2 v (by omega))
    rw [wo2] at S3
    have N3 := N2.1.sy F3 S3 (by rw [List.length_append]; exact Nat.le_add_right _ _)
    refine hK h3 _ _ (((N1.tr N2).tr N3).nx (by decide) (by decide)) ?_
    unfold aSay
    rw [if_pos c]
    exact Or.inr ⟨_, w4, rfl, rfl⟩
  · rw [if_neg (fun g => c0 (f0.1 g)), if_neg (by decide)]
    simp only [TbS_ok hT2, TxS_ok g3, f22, true_and]
    rw [show ii (-2) - ii (f : Nat) = ii (-2 - (f : Int)) from ii_sub _ _]
    refine hK H2 _ _ ((N1.tr N2).nx (by decide) (by decide)) ?_
    unfold aSay
    rw [if_pos c]
    exact Or.inl ⟨f, w1 c0, rfl, rfl⟩
end Say
