/-! THE REFERENCE: a rule -/
section Tn
variable {d : Nat} {h h1 h2 h3 : mHeap} {B : Bt} {n sl p q t i k f c : Nat} {T : List (Nat × Nat)} {O V W W0 st : List Nat} {C D : Ru} {F R F1 R1 : List Nat} {s s2 : Cs}
theorem c239 {K : Int32 → mHeap → Prop} {r : Int} (hI : RI h s) (hC : CsI s) (hA : aRul s r s2) (hK : ∀ h1, RI h1 s2 → K (ii r) h1) : GoCi (d + 14) 239 [.ref 148] h K := by
  have hR := hI.1.1
  obtain ⟨f31, l6, rr⟩ := hI.2.2.2.1
  have hT := hI.2.1
  have hb : Byt (cs_B s) (cs_n s) := hC.2.2.2.1.1
  unfold aRul at hA
  rw [e239, b239_0]
  simp only [(RS.ok hR), (RS.fr hR), true_and, and_true, true_or, or_true, hR.op, f31, rI_s]
  by_cases c6 : (cs_C s).length < 6
  rotate_left
  · rw [if_neg c6] at hA
    rw [if_neg (by rw [show (cs_C s).length = 6 by omega]; exact fun y => y rfl)]
    rw [← hA.1, ]
    exact hK h (by rw [hA.2]; exact hI)
  rw [if_pos c6] at hA
  rw [if_pos (by rw [show ii 6 = ii (6 : Int) from rfl, ii_eq (by omega) (by omega) (by omega) (by omega)]; omega)]
  have t30 : tgK (kd h 148) 30 = some 0 := hR.tg.2.2.2.1
  have z0 := RF.sF (x := ii ((cs_C s).length : Nat)) t30
  have R0 : RS (sF h 148 30 (.int (ii ((cs_C s).length : Nat)))) := hR.sf t30
  have a0 : ∀ a, xA (sF h 148 30 (.int (ii ((cs_C s).length : Nat)))) a = xA h a := fun a => xA_sF
  generalize sF h 148 30 (.int (ii ((cs_C s).length : Nat))) = H0 at *
  (try simp only [(RS.ok R0), (RS.fr R0), true_and, and_true, true_or, or_true])
  refine c224 R0 (fun h1 z1 p1 f1 e1 d1 k1 => ?_)
  have R1 := z1.rs R0 (by decide)
  have zz1 : RF [28, 29, 30, 33, 34, 35] [] h h1 := (z0.1.wd (by decide) (by decide)).tr (z1.wd (by decide) (by decide))
  have x1 : Cx h1 (cs_B s) (cs_n s) (cs_C s).length := ⟨R1, hT.z zz1 (by decide) (by decide), hb, by rw [zz1.fe (by decide)]; exact hI.1.2, by rw [z1.fe (by decide)]; exact z0.2, c6⟩
  refine c239_L (i := 0) (p := 0) (k := 0) (C := []) (lex_b hb) (plc_lex hb) (lex (cs_B s) (cs_n s)).length (by omega) x1 ⟨p1, f1, k1, Nat.zero_le _, e1, fun j hj => absurd hj (Nat.not_lt_zero j)⟩ AtT.st d1 (fun c hc => absurd hc (Nat.not_lt_zero c)) (Nat.zero_le _) (show 3 * 0 ≤ _ by omega) (fun h2 c rs z2 c13 hr hF => ?_)
  have x2 := x1.qq z2
  have t27 : tgK (kd h2 148) 27 = some 0 := x2.1.tg.1
  have z3 := RF.sF (x := ii 0) t27
  have R3 : RS (sF h2 148 27 (.int (ii 0))) := x2.1.sf t27
  have a3 : ∀ a, xA (sF h2 148 27 (.int (ii 0))) a = xA h2 a := fun a => xA_sF
  have h30 : fI (sF h2 148 27 (.int (ii 0))) 148 30 = ii ((cs_C s).length : Nat) := by rw [z3.1.fe (by decide)]; exact x2.2.2.2.2.1
  rw [b239_27, if_pos rfl]
  simp only [x2.1.op, true_and]
  generalize sF h2 148 27 (.int (ii 0)) = H3 at *
  simp only [(RS.ok R3), (RS.fr R3), true_and, and_true, true_or, or_true, h30, R3.x178 c6]
  refine ⟨by decide, ?_⟩
  have z4 : RF [] [178] H3 (sI H3 178 (ii ((cs_C s).length : Nat)) (ii (c : Nat))) := RF.sI
  have a4 : ∀ b, xA (sI H3 178 (ii ((cs_C s).length : Nat)) (ii (c : Nat))) b = if 178 = b then upf (xA H3 178) (cs_C s).length (ii (c : Nat)) else xA H3 b := fun b => R3.s178 c6
  generalize sI H3 178 (ii ((cs_C s).length : Nat)) (ii (c : Nat)) = H4 at *
  have R4 := z4.rs R3 (by decide)
  have g31 : fI H4 148 31 = ii ((cs_C s).length : Nat) := by rw [z4.fe (by decide), z3.1.fe (by decide), z2.1.1.fe (by decide), zz1.fe (by decide)]; exact f31
  have t31 : tgK (kd H4 148) 31 = some 0 := R4.tg.2.2.2.2.1
  -- the last of it
  have last : ∀ (m : Nat) (s3 : Cs) (v : Int), (∀ h5, RF [31] [] H4 h5 → fI h5 148 31 = ii (((cs_C s).length + m : Nat) : Int) → RI h5 s3) → (fI H4 148 29 = ii 0 ∧ v = ((cs_C s).length + m : Nat) - 1 ∨ ∃ f : Nat, fI H4 148 29 = ii (f : Nat) ∧ 0 < f ∧ f < 100000 ∧ v = -2 - (f : Int)) → (∀ h1, RI h1 s3 → K (ii v) h1) → ∀ l1 l2, Go (d + 13) 239 79 [some (.ref 148), l1, l2] [.int (ii (m : Nat)), .int (ii ((cs_C s).length : Nat)), .ref 148] H4 (rI K) := fun m s3 v g1 g2 g3 l1 l2 => by
    have z5 := RF.sF (x := ii (((cs_C s).length + m : Nat) : Int)) t31
    have R5 : RS (sF H4 148 31 (.int (ii (((cs_C s).length + m : Nat) : Int)))) := R4.sf t31
    have G := g3 _ (g1 _ z5.1 z5.2)
    have e29 : fI (sF H4 148 31 (.int (ii (((cs_C s).length + m : Nat) : Int)))) 148 29 = fI H4 148 29 := z5.1.fe (by decide)
    rw [b239_79]
    simp only [R4.op, true_and]
    rw [show ii ((cs_C s).length : Nat) + ii (m : Nat) = ii (((cs_C s).length + m : Nat) : Int) from ii_add _ _]
    generalize sF H4 148 31 (.int (ii (((cs_C s).length + m : Nat) : Int))) = H5 at *
    simp only [(RS.ok R5), (RS.fr R5), true_and, and_true, true_or, or_true, e29, z5.2, rI_s]
    rcases g2 with ⟨e, ev⟩ | ⟨f, e, f0, f5, ev⟩
    · rw [e, if_pos (by decide), show ii (((cs_C s).length + m : Nat) : Int) - ii 1 = ii v by rw [ii_sub, ev]]
      exact G
    · rw [e, if_neg (by rw [show ii 0 = ii (0 : Int) from rfl, ii_le (by omega) (by omega) (by omega) (by omega)]; omega), show ii (-2) - ii (f : Nat) = ii v by rw [ii_sub, ev]]
      exact G
  -- what holds of the state then
  have frame : ∀ h5, RF [31] [] H4 h5 → RF (27 :: 31 :: 32 :: scF) (175 :: 176 :: 177 :: 178 :: 179 :: 180 :: 181 :: 183 :: scR) h h5 := fun h5 z5 => (zz1.wd (by decide) (by decide)).tr ((z2.1.1.wd (by decide) (by decide)).tr ((z3.1.wd (by decide) (by decide)).tr ((z4.wd (by decide) (by decide)).tr (z5.wd (by decide) (by decide)))))
  have f27 : ∀ h5, RF [31] [] H4 h5 → RTx h5 (cs_B s) 0 := fun h5 z5 => ⟨by rw [z5.fe (by decide), z4.fe (by decide)]; exact z3.2, Nat.zero_le _, fun j hj => absurd hj (Nat.not_lt_zero j)⟩
  have sy5 : ∀ h5, RF [31] [] H4 h5 → RSy h5 (cs_S s) := fun h5 z5 => ((((hI.2.2.1.sc zz1 (by decide) (by decide)).sc z2.1.1 (by decide) (by decide)).sc z3.1 (by decide) (by decide)).sc z4 (by decide) (by decide)).sc z5 (by decide) (by decide)
  have old : ∀ h5, RF [31] [] H4 h5 → ∀ k, k < (cs_C s).length → RRr h5 k ((cs_C s).getD k []) := fun h5 z5 k hk => by
    have e : ∀ a, ¬ a = 148 → ¬ a = 178 → xA h5 a = xA h2 a := fun a a1 a2 => by rw [z5.ae a1 (fun y => by cases y), a4, if_neg (fun y => a2 y.symm), a3]
    have e1 : ∀ a, ¬ a = 148 → xA h1 a = xA h a := fun a a1 => zz1.ae a1 (fun y => by cases y)
    refine (rr k hk).keep hk (fun j hj => ?_) ?_ (fun j hj => ?_)
    · rw [e 176 (by decide) (by decide), e 177 (by decide) (by decide), (z2.1.2 j hj).1, (z2.1.2 j hj).2, e1 176 (by decide), e1 177 (by decide)]
      exact ⟨rfl, rfl⟩
    · rw [z5.ae (by decide) (by decide), a4, if_pos rfl, a3, z2.1.1.ae (by decide) (by decide), e1 178 (by decide)]
      unfold upf
      rw [if_neg (by omega)]
    · have w := z2.2 j (by omega)
      rw [e 179 (by decide) (by decide), e 180 (by decide) (by decide), e 181 (by decide) (by decide), w.1, w.2.1, w.2.2, e1 179 (by decide), e1 180 (by decide), e1 181 (by decide)]
      exact ⟨rfl, rfl, rfl⟩
  have f29 : fI H4 148 29 = fI h2 148 29 := by rw [z4.fe (by decide), z3.1.fe (by decide)]
  simp only [(RS.ok R4), (RS.fr R4), true_and, and_true, true_or, or_true, g31]
  cases rs with
  | inl f =>
    obtain ⟨hf, f0, f5⟩ : fI h2 148 29 = ii (f : Nat) ∧ 0 < f ∧ f < 100000 := hF
    rw [f29, hf, if_pos (by rw [show ii 0 = ii (0 : Int) from rfl, ii_eq (by omega) (by omega) (by omega) (by omega)]; omega)]
    rcases hA with ⟨f', hr', er, es⟩ | ⟨D, hr', _, _⟩
    · have := ruL_u _ _ _ _ _ _ hr hr'
      cases this
      refine last 0 (sTx s (cs_B s) 0) r (fun h5 z5 y5 => ?_) (Or.inr ⟨f, by rw [f29]; exact hf, f0, f5, er⟩) (fun h1 hI1 => hK h1 (by rw [es]; exact hI1)) _ _
      exact hI.txt hC (frame h5 z5) (f27 h5 z5) (sy5 h5 z5) ⟨y5, l6, old h5 z5⟩
    · have := ruL_u _ _ _ _ _ _ hr hr'
      cases this
  | inr D =>
    obtain ⟨hf, hO, hM, cd, c12, l3⟩ : fI h2 148 29 = ii 0 ∧ RO h2 (cs_C s).length (flC D) ∧ RcC h2 (cs_C s).length D ∧ c = D.length ∧ D.length ≤ 12 ∧ (flC D).length ≤ 300 := hF
    rw [f29, hf, if_neg (fun y => y rfl)]
    rcases hA with ⟨f', hr', _, _⟩ | ⟨D', hr', er, es⟩
    · have := ruL_u _ _ _ _ _ _ hr hr'
      cases this
    · have := ruL_u _ _ _ _ _ _ hr hr'
      cases this
      refine last 1 (sTx (sRu s (cs_C s ++ [D])) (cs_B s) 0) r (fun h5 z5 y5 => ?_) (Or.inl ⟨by rw [f29]; exact hf, by rw [er]; omega⟩) (fun h1 hI1 => hK h1 (by rw [es]; exact hI1)) _ _
      refine hI.txt hC (frame h5 z5) (f27 h5 z5) (sy5 h5 z5) ⟨by rw [y5, List.length_append]; rfl, by rw [List.length_append, List.length_singleton]; omega, fun k hk => ?_⟩
      rw [List.length_append, List.length_singleton] at hk
      rw [getD_app]
      by_cases g : k = (cs_C s).length
      · rw [if_pos g, g]
        refine RRr.mk (((hO.z z3.1 (by decide) (by decide) (by decide)).z z4 (by decide) (by decide) (by decide)).z z5 (by decide) (by decide) (by decide)) (((hM.z z3.1 (by decide)).z z4 (by decide)).z z5 (by decide)) l3 c12 ?_
        rw [z5.ae (by decide) (by decide), a4, if_pos rfl]
        unfold upf
        rw [if_pos rfl, cd]
      · rw [if_neg g, if_pos (by omega)]
        exact old h5 z5 k (by omega)
end Tn
