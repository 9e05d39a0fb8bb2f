/-! THE REFERENCE: what a saying reads next -/
abbrev saF : List Nat := [28, 29, 51, 52, 53]
abbrev saR : List Nat := [184, 185, 186, 187]
def SgV (h : mHeap) (B : Bt) (n : Nat) (T : List (Nat × Nat)) (i : Nat) (fr : List Fm) (e b : Wd) (k : Nat) (nd : Bool) : Prop := (∃ p, fI h 148 28 = ii (p : Nat) ∧ AtT B n T p i) ∧ fI h 148 29 = ii 0 ∧ SgH h fr e b k ∧ fr.length ≤ 10 ∧ (nd = false → noN fr)
section Tq
variable {d : Nat} {h h1 h2 h3 : mHeap} {B : Bt} {n p q t i k f c L : Nat} {T : List (Nat × Nat)} {e b w : Wd} {x y : Nat → Int32} {fr : List Fm} {F R : List Nat}
theorem SgH.z (hs : SgH h fr e b k) (z : RF F R h h1) (f1 : ∀ a ∈ [51, 52, 53], ¬ a ∈ F) (r : ∀ a ∈ [184, 185, 187], ¬ a ∈ R) : SgH h1 fr e b k := by
  obtain ⟨⟨e51, e52, sv, row⟩, he, hb, h53, k24⟩ := hs
  have a184 : xA h1 184 = xA h 184 := z.ae (by decide) (r 184 (by decide))
  have a185 : xA h1 185 = xA h 185 := z.ae (by decide) (r 185 (by decide))
  refine ⟨⟨by rw [z.fe (f1 51 (by decide))]; exact e51, by rw [z.fe (f1 52 (by decide))]; exact e52, sv.keep (fun M _ => ⟨by rw [a184], by rw [a185]⟩), fun j hj => by rw [z.ae (by decide) (r 187 (by decide))]; exact row j hj⟩, by rw [a184]; exact he, by rw [a185]; exact hb, by rw [z.fe (f1 53 (by decide))]; exact h53, k24⟩
theorem c234 {K : Int32 → mHeap → Prop} (hR : RS h) (hT : RTx h B n) (hby : Byt B n) (hp : fI h 148 28 = ii ((tk T i).2 : Nat)) (ha : AtT B n T (tk T i).2 i) (hf : fI h 148 29 = ii 0) (hs : SgH h fr e b k) (l : fr.length ≤ 10) (hY : ∀ h1 i' fr' e' b' k' nd, sgN T i fr e b k = .inl (i', fr', e', b', k', nd) → RF saF saR h h1 → SgV h1 B n T i' fr' e' b' k' nd → i' = i + 1 → K (if nd = true then ii 0 else ii 1) h1) (hN : ∀ h1 f, sgN T i fr e b k = .inr (.inl f) → RF saF saR h h1 → Pd h1 n f → K (ii 0) h1) : GoCi (d + 9) 234 [.ref 148] h K := by
  have n4 := hT.2.1
  obtain ⟨bl, pl, le⟩ := ha.bl
  have k24 := hs.2.2.2.2
  have esg : sgN T i fr e b k = if (tk T i).1 = 92 then (if fr.length = 10 then .inr (.inl (flt T i 2)) else .inl (i + 1, (true, e, b) :: fr, zeW, onW, k, true)) else if (tk T i).1 = 315 then (if fr.length = 10 then .inr (.inl (flt T i 2)) else .inl (i + 1, (false, zeW, zeW) :: fr, e, b, k, true)) else if 261 ≤ (tk T i).1 ∧ (tk T i).1 < 269 then (if k = 24 then .inr (.inl (flt T i 3)) else .inl (opE (i + 1) fr e b (k + 1) (fcW ((tk T i).1 - 261)))) else .inr (.inl (flt T i 0)) := rfl
  have fe : ∀ c, flt T i c = 1 + 8 * (tk T i).2 + c := fun c => rfl
  have fail : ∀ c : Nat, c < 8 → sgN T i fr e b k = .inr (.inl (flt T i c)) → ∀ l1, Go (d + 8) 234 76 [some (.ref 148), l1] [.int (ii (c : Nat)), .ref 148] h (rI K) := fun c c8 ec l1 => by
    rw [b234_76]
    simp only [(RS.ok hR), (RS.fr hR), true_and, and_true, true_or, or_true, hp]
    refine c197 (f := 0) hR hf (by decide) (fun h1 z1 y1 => ?_)
    have y1 : fI h1 148 29 = ii ((flt T i c : Nat) : Int) := y1
    simp only [rI_s]
    exact hN h1 _ ec (z1.wd (by decide) (by decide)) ⟨y1, by rw [fe]; omega, by rw [fe]; omega, (tk T i).2, le, by rw [z1.fe (by decide)]; exact hp⟩
  have go28 : ¬ (tk T i).1 = 92 → Go (d + 8) 234 28 [some (.ref 148), none] [] h (rI K) := fun n92 => by
    rw [if_neg n92] at esg
    rw [b234_28]
    (try simp only [(RS.ok hR), (RS.fr hR), true_and, and_true, true_or, or_true])
    refine c201w (k := 14) hR hT hby hp le pl (by decide) (fun w => ?_) (fun w => ?_)
    · rw [if_pos w] at esg
      rw [if_neg (by decide)]
      (try simp only [(RS.ok hR), (RS.fr hR), true_and, and_true, true_or, or_true])
      have nx := ha.nxt (show ¬ (tk T i).1 = 0 by omega)
      have em := (pl_w pl (show 14 < 19 by decide)).2 w
      rw [wrds_14] at em
      refine c230 (kb := 1) (m := 3) hR hs l hp hf (Or.inr ⟨rfl, rfl, rfl⟩) (fun c h1 z1 y1 s1 => ?_) (fun c h1 z1 y1 => ?_)
      · rw [if_neg c] at esg
        simp only [rI_s]
        rw [if_neg (by decide), if_neg (by decide)] at s1
        exact hY h1 _ _ _ _ _ _ esg (z1.wd (by decide) (by decide)) ⟨⟨_, y1, by rw [← em]; exact nx.1⟩, by rw [z1.fe (by decide)]; exact hf, s1, by rw [List.length_cons]; omega, fun y => absurd y (by decide)⟩ rfl
      · rw [if_pos c] at esg
        simp only [rI_s]
        exact hN h1 _ esg (z1.wd (by decide) (by decide)) ⟨y1, by rw [fe]; omega, by rw [fe]; omega, (tk T i).2, le, by rw [z1.fe (by decide)]; exact hp⟩
    · rw [if_neg w] at esg
      rw [if_pos rfl]
      (try simp only [(RS.ok hR), (RS.fr hR), true_and, and_true, true_or, or_true])
      refine c232 hR hT hby hp le pl (fun f hf8 et => ?_) (fun no => ?_)
      · rw [if_pos (by omega)] at esg
        have nx := ha.nxt (show ¬ (tk T i).1 = 0 by omega)
        rw [if_neg (by rw [show ii (-1) = ii (-1 : Int) from rfl, ii_eq (by omega) (by omega) (by omega) (by omega)]; omega)]
        have h53 := hs.2.2.2.1
        simp only [(RS.ok hR), (RS.fr hR), true_and, and_true, true_or, or_true, h53]
        by_cases c : k = 24
        · rw [if_pos c] at esg
          rw [if_neg (by rw [c]; exact fun y => y rfl), b234_65]
          rw [if_pos (by rw [show ii (-1) = ii (-1 : Int) from rfl, ii_eq (by omega) (by omega) (by omega) (by omega)]; omega)]
          exact fail 3 (by decide) esg _
        · rw [if_neg c] at esg
          rw [if_pos (by rw [show ii 24 = ii (24 : Int) from rfl, ii_eq (by omega) (by omega) (by omega) (by omega)]; omega)]
          have t53 : tgK (kd h 148) 53 = some 0 := hR.tg.2.2.2.2.2.2.2.2.2.2.2.2.2.1
          have z1 := RF.sF (x := ii ((k + 1 : Nat) : Int)) t53
          have R1 : RS (sF h 148 53 (.int (ii ((k + 1 : Nat) : Int)))) := hR.sf t53
          have a1 : ∀ a, xA (sF h 148 53 (.int (ii ((k + 1 : Nat) : Int)))) a = xA h a := fun a => xA_sF
          simp only [hR.op, true_and]
          rw [show ii (k : Nat) + ii 1 = ii ((k + 1 : Nat) : Int) from ii_add _ _]
          generalize sF h 148 53 (.int (ii ((k + 1 : Nat) : Int))) = H1 at *
          have t28 : tgK (kd H1 148) 28 = some 0 := R1.tg.2.1
          have z2 := RF.sF (x := ii (((tk T i).2 + 1 : Nat) : Int)) t28
          have R2 : RS (sF H1 148 28 (.int (ii (((tk T i).2 + 1 : Nat) : Int)))) := R1.sf t28
          have a2 : ∀ a, xA (sF H1 148 28 (.int (ii (((tk T i).2 + 1 : Nat) : Int)))) a = xA H1 a := fun a => xA_sF
          simp only [(RS.ok R1), (RS.fr R1), true_and, and_true, true_or, or_true, R1.op, z1.1.fe (show ¬ 28 ∈ [53] by decide), hp]
          rw [show ii ((tk T i).2 : Nat) + ii 1 = ii (((tk T i).2 + 1 : Nat) : Int) from ii_add _ _]
          generalize sF H1 148 28 (.int (ii (((tk T i).2 + 1 : Nat) : Int))) = H2 at *
          (try simp only [(RS.ok R2), (RS.fr R2), true_and, and_true, true_or, or_true])
          have zz : RF [28, 53] [] h H2 := (z1.1.wd (by decide) (by decide)).tr (z2.1.wd (by decide) (by decide))
          have s2 : SgH H2 fr e b (k + 1) := by
            obtain ⟨⟨e51, e52, sv, row⟩, he, hb2, _, _⟩ := hs
            refine ⟨⟨by rw [zz.fe (by decide)]; exact e51, by rw [zz.fe (by decide)]; exact e52, sv.keep (fun M _ => ⟨by rw [a2, a1], by rw [a2, a1]⟩), fun j hj => by rw [a2, a1]; exact row j hj⟩, by rw [a2, a1]; exact he, by rw [a2, a1]; exact hb2, ?_, by omega⟩
            rw [z2.1.fe (by decide)]; exact z1.2
          refine c231 R2 hf8 (fun h3 z3 y3 => ?_)
          have R3 := z3.rs R2 (by decide)
          (try simp only [(RS.ok R3), (RS.fr R3), true_and, and_true, true_or, or_true])
          refine c229 R3 (s2.z z3 (by decide) (by decide)) l y3 (fun h4 z4 s4 => ?_)
          simp only [rI_s]
          have lp := lvl_pop fr (fcW f)
          have em : (tok B n (tk T i).2).2 = (tk T i).2 + 1 := by
            obtain ⟨q1, qe⟩ := pl_ne pl (show ¬ (tk T i).1 = 0 by omega)
            rcases tok_k (B := B) q1 with ⟨g, _, g3⟩ | ⟨_, _, g2, _⟩ | ⟨_, _, ⟨_, _, g, _⟩ | ⟨_, g, _⟩⟩
            · have pe := (pl_l pl hf8).mpr et
              have ry := rnE_y (p := isSm) (B := B) (n := n) q1 g
              have le2 := rnE_le (p := isSm) (B := B) (n := n) ((tk T i).2 + 1) (by omega)
              rw [g3]
              omega
            · omega
            · omega
            · have := hby _ q1
              omega
          have zf : RF saF saR h h4 := (zz.wd (by decide) (by decide)).tr ((z3.wd (by decide) (by decide)).tr (z4.wd (by decide) (by decide)))
          rw [show (tk T i).1 - 261 = f by omega] at esg
          refine hY h4 _ _ _ _ _ _ esg zf ⟨⟨(tk T i).2 + 1, ?_, by rw [← em]; exact nx.1⟩, ?_, s4, by have := lp.2.1; omega, fun _ => lp.2.2⟩ rfl
          · rw [z4.fe (by decide), z3.fe (by decide)]; exact z2.2
          · rw [z4.fe (by decide), z3.fe (by decide), zz.fe (by decide)]; exact hf
      · have : ¬ (261 ≤ (tk T i).1 ∧ (tk T i).1 < 269) := fun y => no ((tk T i).1 - 261) (by omega) (by omega)
        rw [if_neg this] at esg
        rw [if_pos rfl, b234_65, if_neg (fun y => y rfl)]
        exact fail 0 (by decide) esg _
  have sb := sgn_b (B := B) (n := n) (p := (tk T i).2)
  have s91 := pl_sg hby pl (c := 91) (by decide) (by decide) (by decide) (by decide) (by decide) (by decide)
  rw [e234, b234_0]
  simp only [(RS.ok hR), (RS.fr hR), true_and, and_true, true_or, or_true, hT.1, hp]
  by_cases c0 : (tk T i).1 = 0
  · have qn : (tk T i).2 = n := by
      rcases pl with ⟨a, _⟩ | ⟨_, _, ee⟩
      · exact a
      · omega
    rw [if_pos (by rw [ii_le (by omega) (by omega) (by omega) (by omega)]; omega)]
    exact go28 (by omega)
  · have nx := ha.nxt c0
    rw [if_neg (by rw [ii_le (by omega) (by omega) (by omega) (by omega)]; omega), c198 hR hT hby hp (by omega)]
    by_cases c1 : (tk T i).1 = 92
    · rw [if_pos c1] at esg
      rw [if_neg (by rw [s91.mpr (by omega)]; exact fun y => y rfl)]
      (try simp only [(RS.ok hR), (RS.fr hR), true_and, and_true, true_or, or_true])
      have em := pl_one hby pl c0 (by omega)
      refine c230 (kb := 0) (m := 1) hR hs l hp hf (Or.inl ⟨rfl, rfl, rfl⟩) (fun c h1 z1 y1 s1 => ?_) (fun c h1 z1 y1 => ?_)
      · rw [if_neg c] at esg
        simp only [rI_s]
        rw [if_pos rfl, if_pos rfl] at s1
        exact hY h1 _ _ _ _ _ _ esg (z1.wd (by decide) (by decide)) ⟨⟨_, y1, by rw [← em]; exact nx.1⟩, by rw [z1.fe (by decide)]; exact hf, s1, by rw [List.length_cons]; omega, fun y => absurd y (by decide)⟩ rfl
      · rw [if_pos c] at esg
        simp only [rI_s]
        exact hN h1 _ esg (z1.wd (by decide) (by decide)) ⟨y1, by rw [fe]; omega, by rw [fe]; omega, (tk T i).2, le, by rw [z1.fe (by decide)]; exact hp⟩
    · rw [if_pos (by rw [show ii 91 = ii (91 : Int) from rfl, ii_eq (by omega) (by omega) (by omega) (by omega)]; exact fun y => c1 (by have := s91.mp y; omega))]
      exact go28 c1
/-- a bracket is closed -/
theorem c235 {K : mHeap → Prop} {e0 b0 : Wd} (hR : RS h) (hs : SgH h ((true, e0, b0) :: fr) e b k) (l : fr.length < 10) (hK : ∀ h1, RF [51, 52] [184, 185, 186] h h1 → SgH h1 (popN fr (orW e b)).1 e0 (capW b0 (popN fr (orW e b)).2) k → K h1) : GoCv (d + 2) 235 [.ref 148] h K := by
  obtain ⟨⟨e51, e52, sv, row⟩, he, hb, h53, k24⟩ := id hs
  have lv := lvl_le fr
  have el : lvl ((true, e0, b0) :: fr) = lvl fr + 1 := by
    show (if true = true then 1 else 0) + lvl fr = _
    rw [if_pos rfl, Nat.add_comm]
  rw [el] at e52 he hb
  have e51 : fI h 148 51 = ii ((fr.length + 1 : Nat) : Int) := e51
  rw [e235, b235_0]
  (try simp only [(RS.ok hR), (RS.fr hR), true_and, and_true, true_or, or_true])
  refine c228 hR e52 (by omega) (fun h1 z1 y1 y2 => ?_)
  have w1 := W8_or (u := xA h 184) (v := xA h 185) (M := lvl fr + 1) (N := lvl fr + 1) y1 (fun _ _ => rfl)
  rw [he, hb] at w1
  have R1 := z1.rs hR (by decide)
  refine Go_loop (fun k L' h' => L' = [some (.ref 148), some (.int (ii (k : Nat)))] ∧ RF [] [186] h1 h' ∧ ∀ i, xA h' 186 i = if 8 * 0 ≤ i ∧ i < 8 * 0 + k then (fun k => xA h1 184 (8 * (lvl fr + 1) + k)) (i - 8 * 0) else xA h1 186 i) 8 ?_ ?_ 0 _ h1 (Nat.zero_le _) ⟨rfl, RF.rf, fun i => by rw [if_neg (by omega)]⟩
  · rintro j L' h' hj ⟨rfl, z, y3⟩ nx
    have R2 : RS h' := z.rs R1 (by decide)
    have l1 : 8 * (lvl fr + 1) + j < 88 := by omega
    have f52 : fI h' 148 52 = ii ((lvl fr + 1 : Nat) : Int) := by rw [z.fe (by decide), z1.fe (by decide)]; exact e52
    rw [b235_6, if_neg (le8 hj)]
    simp only [(RS.ok R2), (RS.fr R2), true_and, and_true, true_or, or_true, f52, ix8, R2.x184 l1, R2.x186 hj, z.ae (show ¬ 184 = 148 by decide) (show ¬ 184 ∈ [186] by decide)]
    refine ⟨by decide, ?_⟩
    rw [show ii (j : Nat) + ii 1 = ii ((j + 1 : Nat) : Int) from ii_add _ _]
    refine nx _ _ ⟨rfl, z.tr RF.sI, ?_⟩
    rw [R2.s186 hj, if_pos rfl]
    have := W8_s (g := fun k => xA h1 184 (8 * (lvl fr + 1) + k)) hj y3 rfl
    rw [show 8 * 0 + j = j by omega] at this
    exact this
  · rintro L' h' ⟨rfl, z, y3⟩
    have R2 : RS h' := z.rs R1 (by decide)
    have w3 := W8_eq (x := xA h1 186) (y := xA h' 186) (L := 0) (g := fun k => xA h1 184 (8 * (lvl fr + 1) + k)) (u := xA h1 184) (M := lvl fr + 1) y3 (fun _ _ => rfl)
    rw [w1] at w3
    have zz1 : RF [] [184, 185, 186] h h' := (z1.wd (by decide) (by decide)).tr (z.wd (by decide) (by decide))
    have f52 : fI h' 148 52 = ii ((lvl fr + 1 : Nat) : Int) := by rw [zz1.fe (by decide)]; exact e52
    have f51 : fI h' 148 51 = ii ((fr.length + 1 : Nat) : Int) := by rw [zz1.fe (by decide)]; exact e51
    have t52 : tgK (kd h' 148) 52 = some 0 := R2.tg.2.2.2.2.2.2.2.2.2.2.2.2.1
    have z4 := RF.sF (x := ii (lvl fr : Nat)) t52
    have R4 : RS (sF h' 148 52 (.int (ii (lvl fr : Nat)))) := R2.sf t52
    have a4 : ∀ a, xA (sF h' 148 52 (.int (ii (lvl fr : Nat)))) a = xA h' a := fun a => xA_sF
    rw [b235_6, if_pos (show ii 8 ≤ ii ((8 : Nat) : Int) by decide)]
    simp only [(RS.ok R2), (RS.fr R2), true_and, and_true, true_or, or_true, R2.op, f52]
    rw [show ii ((lvl fr + 1 : Nat) : Int) - ii 1 = ii (lvl fr : Nat) by rw [ii_sub]; exact congrArg ii (by omega)]
    generalize sF h' 148 52 (.int (ii (lvl fr : Nat))) = H4 at *
    have t51 : tgK (kd H4 148) 51 = some 0 := R4.tg.2.2.2.2.2.2.2.2.2.2.2.1
    have z5 := RF.sF (x := ii (fr.length : Nat)) t51
    have R5 : RS (sF H4 148 51 (.int (ii (fr.length : Nat)))) := R4.sf t51
    have a5 : ∀ a, xA (sF H4 148 51 (.int (ii (fr.length : Nat)))) a = xA H4 a := fun a => xA_sF
    simp only [(RS.ok R4), (RS.fr R4), true_and, and_true, true_or, or_true, R4.op, z4.1.fe (show ¬ 51 ∈ [52] by decide), f51]
    rw [show ii ((fr.length + 1 : Nat) : Int) - ii 1 = ii (fr.length : Nat) by rw [ii_sub]; exact congrArg ii (by omega)]
    generalize sF H4 148 51 (.int (ii (fr.length : Nat))) = H5 at *
    (try simp only [(RS.ok R5), (RS.fr R5), true_and, and_true, true_or, or_true])
    have sv0 := sv.1 rfl
    have s5 : SgH H5 fr e0 b0 k := by
      refine ⟨⟨z5.2, by rw [z5.1.fe (by decide)]; exact z4.2, sv.2.keep (fun M hM => ⟨?_, ?_⟩), fun j hj => ?_⟩, ?_, ?_, ?_, k24⟩
      · rw [a5, a4, z.ae (by decide) (by decide), y1.o (by omega)]
      · rw [a5, a4, z.ae (by decide) (by decide), y2.o (by omega)]
      · rw [a5, a4, zz1.ae (by decide) (by decide)]
        exact hs.1.row j hj
      · rw [a5, a4, z.ae (by decide) (by decide), y1.o (by omega)]; exact sv0.1
      · rw [a5, a4, z.ae (by decide) (by decide), y2.o (by omega)]; exact sv0.2
      · rw [z5.1.fe (by decide), z4.1.fe (by decide), zz1.fe (by decide)]; exact h53
    refine c229 (w := orW e b) R5 s5 (by omega) (by rw [a5, a4]; exact w3) (fun h6 z6 s6 => ?_)
    rw [rV_s]
    exact hK h6 ((zz1.wd (by decide) (by decide)).tr ((z4.1.wd (by decide) (by decide)).tr ((z5.1.wd (by decide) (by decide)).tr (z6.wd (by decide) (by decide))))) s6
end Tq
