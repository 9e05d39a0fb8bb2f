/-! THE REFERENCE: what is open while a saying is read -/
theorem b229_l {d : Nat} {h : mHeap} {Q : Option Value → mHeap → Prop} {a0 : Nat} {l1 : Option Value} : Go d 229 0 [some (.ref a0), l1] [] h Q ↔ okF h a0 12 51 0 ∧ (if (fI h a0 51) ≤ ii 0 then (Go d 229 63 [some (.ref a0), l1] [] h Q) else (okF h a0 12 50 2 ∧ okF h a0 12 51 0 ∧ okA h (fR h a0 50) .int ((fI h a0 51) - (ii 1)) ∧ (if ¬ (eI h (fR h a0 50) ((fI h a0 51) - (ii 1))) = (ii 1) then (Go d 229 63 [some (.ref a0), l1] [] h Q) else (okF h a0 12 51 0 ∧ okP h a0 12 51 ∧ Go d 229 34 [some (.ref a0), some (.int (ii 0))] [] (sF h a0 51 (.int ((fI h a0 51) - (ii 1)))) Q)))) := by
  refine (G_aload rfl (mF fc229 (by rfl))).trans ?_
  refine (G_getI (c := 12) (k := 51) rfl rfl rfl (mF fc229 (by rfl))).trans (andR ?_)
  refine (G_le (mF fc229 (by rfl))).trans (gi ?_ ?_)
  ·
    exact Iff.rfl
  ·
    refine (G_aload rfl (mF fc229 (by rfl))).trans ?_
    refine (G_getR (c := 12) (k := 50) rfl rfl rfl (mF fc229 (by rfl))).trans (andR ?_)
    refine (G_aload rfl (mF fc229 (by rfl))).trans ?_
    refine (G_getI (c := 12) (k := 51) rfl rfl rfl (mF fc229 (by rfl))).trans (andR ?_)
    refine (G_iconst (mF fc229 (by rfl))).trans ?_
    refine (G_isub (mF fc229 (by rfl))).trans ?_
    refine (G_iaload (mF fc229 (by rfl))).trans (andR ?_)
    refine (G_iconst (mF fc229 (by rfl))).trans ?_
    refine (G_ine (mF fc229 (by rfl))).trans (gi ?_ ?_)
    ·
      exact Iff.rfl
    ·
      refine (G_aload rfl (mF fc229 (by rfl))).trans ?_
      refine (G_dupr (mF fc229 (by rfl))).trans ?_
      refine (G_getI (c := 12) (k := 51) rfl rfl rfl (mF fc229 (by rfl))).trans (andR ?_)
      refine (G_iconst (mF fc229 (by rfl))).trans ?_
      refine (G_isub (mF fc229 (by rfl))).trans ?_
      refine (G_putT (c := 12) (k := 51) rfl rfl rfl (mF fc229 (by rfl))).trans (andR ?_)
      refine (G_iconst (mF fc229 (by rfl))).trans ?_
      refine (G_istore (k := 1) (L' := [some (.ref a0), some (.int (ii 0))]) rfl (ltb rfl) rfl (mF fc229 (by rfl))).trans ?_
      exact Iff.rfl
def lvl : List Fm → Nat
  | [] => 0
  | x :: fr => (if x.1 = true then 1 else 0) + lvl fr
def SvL (h : mHeap) : List Fm → Prop
  | [] => True
  | x :: fr => (x.1 = true → rw8 (xA h 184) (lvl fr) = x.2.1 ∧ rw8 (xA h 185) (lvl fr) = x.2.2) ∧ SvL h fr
def kdF (x : Fm) : Nat := if x.1 = true then 0 else 1
def SgO (h : mHeap) (fr : List Fm) : Prop := fI h 148 51 = ii (fr.length : Nat) ∧ fI h 148 52 = ii (lvl fr : Nat) ∧ SvL h fr ∧ ∀ j, j < fr.length → xA h 187 j = ii (kdF (fr.getD (fr.length - 1 - j) (false, zeW, zeW)) : Nat)
def SgH (h : mHeap) (fr : List Fm) (e b : Wd) (k : Nat) : Prop := SgO h fr ∧ rw8 (xA h 184) (lvl fr) = e ∧ rw8 (xA h 185) (lvl fr) = b ∧ fI h 148 53 = ii (k : Nat) ∧ k ≤ 24
section Tp
variable {d : Nat} {h h1 h2 h3 : mHeap} {B : Bt} {n p q t i k f c L : Nat} {T : List (Nat × Nat)} {e b w : Wd} {x y : Nat → Int32} {fr : List Fm} {F R : List Nat}
theorem lvl_le : ∀ fr : List Fm, lvl fr ≤ fr.length
  | [] => Nat.le_refl _
  | x :: fr => by
    have ih := lvl_le fr
    have e : lvl (x :: fr) = (if x.1 = true then 1 else 0) + lvl fr := rfl
    rw [e, List.length_cons]
    split <;> omega
theorem SvL.keep : ∀ {fr : List Fm}, SvL h fr → (∀ M, M < lvl fr → rw8 (xA h1 184) M = rw8 (xA h 184) M ∧ rw8 (xA h1 185) M = rw8 (xA h 185) M) → SvL h1 fr
  | [], _, _ => trivial
  | x :: fr, hs, g => by
    have e : lvl (x :: fr) = (if x.1 = true then 1 else 0) + lvl fr := rfl
    refine ⟨fun c => ?_, SvL.keep hs.2 (fun M hM => g M (by rw [e]; split <;> omega))⟩
    rw [if_pos c] at e
    have a := g (lvl fr) (by omega)
    rw [a.1, a.2]
    exact hs.1 c
theorem lvl_pop : ∀ (fr : List Fm) (w : Wd), lvl (popN fr w).1 = lvl fr ∧ (popN fr w).1.length ≤ fr.length ∧ noN (popN fr w).1
  | [], w => ⟨rfl, Nat.le_refl _, fun v => rfl⟩
  | (true, e, b) :: fr, w => ⟨rfl, Nat.le_refl _, fun v => rfl⟩
  | (false, e, b) :: fr, w => by
    have ih := lvl_pop fr (ntW w)
    have e1 : popN ((false, e, b) :: fr) w = popN fr (ntW w) := rfl
    have e2 : lvl ((false, e, b) :: fr) = (if false = true then 1 else 0) + lvl fr := rfl
    rw [if_neg Bool.false_ne_true] at e2
    rw [e1, e2, List.length_cons]
    exact ⟨by omega, by omega, ih.2.2⟩
/-- the row of what is open, one less -/
theorem SgO.top {x : Fm} (hs : SgO h (x :: fr)) : xA h 187 fr.length = ii (kdF x : Nat) := by
  have := hs.2.2.2 fr.length (by rw [List.length_cons]; omega)
  rw [List.length_cons, show fr.length + 1 - 1 - fr.length = 0 by omega] at this
  exact this
theorem SgO.row {x : Fm} (hs : SgO h (x :: fr)) : ∀ j, j < fr.length → xA h 187 j = ii (kdF (fr.getD (fr.length - 1 - j) (false, zeW, zeW)) : Nat) := fun j hj => by
  have := hs.2.2.2 j (by rw [List.length_cons]; omega)
  rw [List.length_cons, show fr.length + 1 - 1 - j = (fr.length - 1 - j) + 1 by omega] at this
  exact this
theorem c229_0 {K : mHeap → Prop} : ∀ (fr : List Fm) {w : Wd} {h : mHeap} {l1 : Option Value}, RS h → SgO h fr → fr.length ≤ 10 → rw8 (xA h 186) 0 = w → (∀ h1, RF [51] [185, 186] h h1 → SgO h1 (popN fr w).1 → rw8 (xA h1 185) (lvl fr) = capW (rw8 (xA h 185) (lvl fr)) (popN fr w).2 → K h1) → Go d 229 0 [some (.ref 148), l1] [] h (rV K)
  | [], w, h, l1, hR, hs, l, hw, hK => by
    have e51 : fI h 148 51 = ii 0 := hs.1
    have e52 : fI h 148 52 = ii ((0 : Nat) : Int) := hs.2.1
    rw [b229_l]
    simp only [(RS.ok hR), (RS.fr hR), true_and, and_true, true_or, or_true, e51]
    rw [if_pos (by decide), b229_63]
    refine c229_65 hR e52 (by decide) (fun h1 z1 y1 => ?_)
    refine hK h1 (z1.wd (by decide) (by decide)) ⟨by rw [z1.fe (by decide)]; exact hs.1, by rw [z1.fe (by decide)]; exact hs.2.1, trivial, fun j hj => absurd hj (Nat.not_lt_zero j)⟩ ?_
    have := W8_and (u := xA h 185) (v := xA h 186) (M := 0) (N := 0) y1 (fun k _ => rfl)
    rw [hw] at this
    exact this
  | (true, e, b) :: fr, w, h, l1, hR, hs, l, hw, hK => by
    have e51 : fI h 148 51 = ii ((fr.length + 1 : Nat) : Int) := hs.1
    have e52 := hs.2.1
    have lv := lvl_le ((true, e, b) :: fr)
    rw [List.length_cons] at l lv
    have tp : xA h 187 fr.length = ii 0 := hs.top
    rw [b229_l]
    simp only [(RS.ok hR), (RS.fr hR), true_and, and_true, true_or, or_true, e51]
    rw [if_neg (by rw [show ii 0 = ii (0 : Int) from rfl, ii_le (by omega) (by omega) (by omega) (by omega)]; omega)]
    rw [show ii ((fr.length + 1 : Nat) : Int) - ii 1 = ii (fr.length : Nat) by rw [ii_sub]; exact congrArg ii (by omega)]
    simp only [hR.x187 (show fr.length < 11 by omega), tp]
    refine ⟨trivial, ?_⟩
    rw [if_pos (by decide), b229_63]
    refine c229_65 hR e52 (by omega) (fun h1 z1 y1 => ?_)
    have e1 : popN ((true, e, b) :: fr) w = ((true, e, b) :: fr, w) := rfl
    rw [e1] at hK
    refine hK h1 (z1.wd (by decide) (by decide)) ⟨by rw [z1.fe (by decide)]; exact hs.1, by rw [z1.fe (by decide)]; exact hs.2.1, hs.2.2.1.keep (fun M hM => ⟨by rw [z1.ae (by decide) (by decide)], y1.o (by omega)⟩), fun j hj => by rw [z1.ae (by decide) (by decide)]; exact hs.2.2.2 j hj⟩ ?_
    have := W8_and (u := xA h 185) (v := xA h 186) (M := lvl ((true, e, b) :: fr)) (N := 0) y1 (fun k _ => rfl)
    rw [hw] at this
    exact this
  | (false, e, b) :: fr, w, h, l1, hR, hs, l, hw, hK => by
    have e51 : fI h 148 51 = ii ((fr.length + 1 : Nat) : Int) := hs.1
    have e2 : lvl ((false, e, b) :: fr) = (if false = true then 1 else 0) + lvl fr := rfl
    rw [if_neg Bool.false_ne_true, Nat.zero_add] at e2
    have e52 := hs.2.1
    rw [e2] at e52 hK
    rw [List.length_cons] at l
    have tp : xA h 187 fr.length = ii 1 := hs.top
    have t51 : tgK (kd h 148) 51 = some 0 := hR.tg.2.2.2.2.2.2.2.2.2.2.2.1
    rw [b229_l]
    simp only [(RS.ok hR), (RS.fr hR), true_and, and_true, true_or, or_true, e51]
    rw [if_neg (by rw [show ii 0 = ii (0 : Int) from rfl, ii_le (by omega) (by omega) (by omega) (by omega)]; omega)]
    rw [show ii ((fr.length + 1 : Nat) : Int) - ii 1 = ii (fr.length : Nat) by rw [ii_sub]; exact congrArg ii (by omega)]
    simp only [hR.x187 (show fr.length < 11 by omega), tp]
    refine ⟨trivial, ?_⟩
    rw [if_neg (fun y => y trivial)]
    simp only [hR.op, true_and]
    have z1 := RF.sF (x := ii (fr.length : Nat)) t51
    have R1 : RS (sF h 148 51 (.int (ii (fr.length : Nat)))) := hR.sf t51
    generalize sF h 148 51 (.int (ii (fr.length : Nat))) = H1 at *
    refine c229_34 R1 (fun h2 z2 y2 => ?_)
    have w2 := W8_no (u := xA H1 186) (M := 0) y2 (fun k _ => by rw [show 8 * 0 + k = k by omega])
    rw [z1.1.ae (by decide) (by decide), hw] at w2
    have R2 := z2.rs R1 (by decide)
    have zz : RF [51] [185, 186] h h2 := (z1.1.wd (by decide) (by decide)).tr (z2.wd (by decide) (by decide))
    refine c229_0 fr R2 ⟨by rw [z2.fe (by decide)]; exact z1.2, by rw [z2.fe (by decide), z1.1.fe (by decide)]; exact e52, hs.2.2.1.2.keep (fun M hM => ⟨by rw [zz.ae (by decide) (by decide)], by rw [z2.ae (by decide) (by decide), z1.1.ae (by decide) (by decide)]⟩), fun j hj => by rw [zz.ae (by decide) (by decide)]; exact hs.row j hj⟩ (by omega) w2 (fun h3 z3 a3 b3 => hK h3 (zz.tr (z3.wd (by decide) (by decide))) a3 ?_)
    rw [b3, z2.ae (by decide) (by decide), z1.1.ae (by decide) (by decide)]
    rfl
theorem c229 {K : mHeap → Prop} (hR : RS h) (hs : SgH h fr e b k) (l : fr.length ≤ 10) (hw : rw8 (xA h 186) 0 = w) (hK : ∀ h1, RF [51] [185, 186] h h1 → SgH h1 (popN fr w).1 e (capW b (popN fr w).2) k → K h1) : GoCv (d + 1) 229 [.ref 148] h K := by
  rw [e229]
  have lp := lvl_pop fr w
  refine c229_0 fr hR hs.1 l hw (fun h1 z1 y1 y2 => hK h1 z1 ⟨y1, ?_, ?_, by rw [z1.fe (by decide)]; exact hs.2.2.2.1, hs.2.2.2.2⟩)
  · rw [lp.1, z1.ae (by decide) (by decide)]; exact hs.2.1
  · rw [lp.1, y2, hs.2.2.1]
/-- one opens -/
theorem c230 {K : mHeap → Prop} {kb m : Nat} {u v : Wd} (hR : RS h) (hs : SgH h fr e b k) (l : fr.length ≤ 10) (hp : fI h 148 28 = ii (p : Nat)) (hf : fI h 148 29 = ii 0) (hk : (kb = 0 ∧ u = e ∧ v = b) ∨ (kb = 1 ∧ u = zeW ∧ v = zeW)) (hY : ¬ fr.length = 10 → ∀ h1, RF [28, 51, 52] [184, 185, 187] h h1 → fI h1 148 28 = ii ((p + m : Nat) : Int) → SgH h1 ((decide (kb = 0), u, v) :: fr) (if kb = 0 then zeW else e) (if kb = 0 then onW else b) k → K h1) (hN : fr.length = 10 → ∀ h1, RF [29] [] h h1 → fI h1 148 29 = ii ((1 + 8 * p + 2 : Nat) : Int) → K h1) : GoCv (d + 2) 230 [.ref 148, .int (ii (kb : Nat)), .int (ii (m : Nat))] h K := by
  obtain ⟨⟨e51, e52, sv, row⟩, he, hb, h53, k24⟩ := hs
  have lv := lvl_le fr
  rw [e230, b230_0]
  simp only [(RS.ok hR), (RS.fr hR), true_and, and_true, true_or, or_true, e51]
  by_cases c : fr.length = 10
  · rw [if_neg (by rw [c]; exact fun y => y rfl)]
    simp only [(RS.ok hR), (RS.fr hR), true_and, and_true, true_or, or_true, hp]
    rw [show GoCv (d + 1) 197 [.ref 148, .int (ii 2), .int (ii (p : Nat))] h _ = GoCv (d + 1) 197 [.ref 148, .int (ii ((2 : Nat) : Int)), .int (ii (p : Nat))] h _ from rfl]
    refine c197 (f := 0) hR hf (by decide) (fun h1 z1 y1 => ?_)
    rw [rV_s]
    exact hN c h1 z1 y1
  · rw [if_pos (by rw [show ii 10 = ii (10 : Int) from rfl, ii_eq (by omega) (by omega) (by omega) (by omega)]; omega)]
    have l11 : fr.length < 11 := by omega
    simp only [hR.x187 l11, true_and]
    refine ⟨by decide, ?_⟩
    have z1 : RF [] [187] h (sI h 187 (ii (fr.length : Nat)) (ii (kb : Nat))) := RF.sI
    have s1 : xA (sI h 187 (ii (fr.length : Nat)) (ii (kb : Nat))) 187 = upf (xA h 187) fr.length (ii (kb : Nat)) := (hR.s187 l11).trans (if_pos rfl)
    generalize sI h 187 (ii (fr.length : Nat)) (ii (kb : Nat)) = H1 at *
    have R1 : RS H1 := z1.rs hR (by decide)
    have t51 : tgK (kd H1 148) 51 = some 0 := R1.tg.2.2.2.2.2.2.2.2.2.2.2.1
    have z2 := RF.sF (x := ii ((fr.length + 1 : Nat) : Int)) t51
    have R2 : RS (sF H1 148 51 (.int (ii ((fr.length + 1 : Nat) : Int)))) := R1.sf t51
    have a2 : ∀ a, xA (sF H1 148 51 (.int (ii ((fr.length + 1 : Nat) : Int)))) a = xA H1 a := fun a => xA_sF
    simp only [(RS.ok R1), (RS.fr R1), true_and, and_true, true_or, or_true, R1.op, z1.fe (show ¬ 51 ∈ ([] : List Nat) by decide), e51]
    rw [show ii (fr.length : Nat) + ii 1 = ii ((fr.length + 1 : Nat) : Int) from ii_add _ _]
    generalize sF H1 148 51 (.int (ii ((fr.length + 1 : Nat) : Int))) = H2 at *
    have t28 : tgK (kd H2 148) 28 = some 0 := R2.tg.2.1
    have z3 := RF.sF (x := ii ((p + m : Nat) : Int)) t28
    have R3 : RS (sF H2 148 28 (.int (ii ((p + m : Nat) : Int)))) := R2.sf t28
    have a3 : ∀ a, xA (sF H2 148 28 (.int (ii ((p + m : Nat) : Int)))) a = xA H2 a := fun a => xA_sF
    simp only [(RS.ok R2), (RS.fr R2), true_and, and_true, true_or, or_true, R2.op, z2.1.fe (show ¬ 28 ∈ [51] by decide), z1.fe (show ¬ 28 ∈ ([] : List Nat) by decide), hp]
    rw [show ii (p : Nat) + ii (m : Nat) = ii ((p + m : Nat) : Int) from ii_add _ _]
    generalize sF H2 148 28 (.int (ii ((p + m : Nat) : Int))) = H3 at *
    have zz : RF [28, 51] [187] h H3 := (z1.wd (by decide) (by decide)).tr ((z2.1.wd (by decide) (by decide)).tr (z3.1.wd (by decide) (by decide)))
    have r187 : ∀ H4, xA H4 187 = xA H3 187 → ∀ u v, ∀ j, j < ((decide (kb = 0), u, v) :: fr).length → xA H4 187 j = ii (kdF (((decide (kb = 0), u, v) :: fr).getD (((decide (kb = 0), u, v) :: fr).length - 1 - j) (false, zeW, zeW)) : Nat) := fun H4 e4 u v j hj => by
      rw [List.length_cons] at hj
      rw [e4, a3, a2, s1, List.length_cons]
      unfold upf
      by_cases g : j = fr.length
      · rw [if_pos g, show fr.length + 1 - 1 - j = 0 by omega]
        show ii (kb : Nat) = ii ((if decide (kb = 0) = true then 0 else 1 : Nat) : Int)
        rcases hk with ⟨g2, _⟩ | ⟨g2, _⟩ <;> (rw [g2]; rfl)
      · rw [if_neg g, row j (by omega), show fr.length + 1 - 1 - j = (fr.length - 1 - j) + 1 by omega]
        rfl
    have g51 : fI H3 148 51 = ii ((fr.length + 1 : Nat) : Int) := by rw [z3.1.fe (by decide)]; exact z2.2
    have g52 : fI H3 148 52 = ii (lvl fr : Nat) := by rw [zz.fe (by decide)]; exact e52
    have g53 : fI H3 148 53 = ii (k : Nat) := by rw [zz.fe (by decide)]; exact h53
    have a184 : xA H3 184 = xA h 184 := zz.ae (by decide) (by decide)
    have a185 : xA H3 185 = xA h 185 := zz.ae (by decide) (by decide)
    have el : lvl ((decide (kb = 0), u, v) :: fr) = (if decide (kb = 0) = true then 1 else 0) + lvl fr := rfl
    rcases hk with ⟨g0, gu, gv⟩ | ⟨g0, gu, gv⟩
    · subst g0 gu gv
      rw [if_neg (fun y => y rfl)]
      rw [if_pos rfl, if_pos rfl] at hY
      have el : lvl ((decide (0 = 0), u, v) :: fr) = 1 + lvl fr := el
      have t52 : tgK (kd H3 148) 52 = some 0 := R3.tg.2.2.2.2.2.2.2.2.2.2.2.2.1
      have z4 := RF.sF (x := ii ((lvl fr + 1 : Nat) : Int)) t52
      have R4 : RS (sF H3 148 52 (.int (ii ((lvl fr + 1 : Nat) : Int)))) := R3.sf t52
      have a4 : ∀ a, xA (sF H3 148 52 (.int (ii ((lvl fr + 1 : Nat) : Int)))) a = xA H3 a := fun a => xA_sF
      simp only [(RS.ok R3), (RS.fr R3), true_and, and_true, true_or, or_true, R3.op, g52]
      rw [show ii (lvl fr : Nat) + ii 1 = ii ((lvl fr + 1 : Nat) : Int) from ii_add _ _]
      generalize sF H3 148 52 (.int (ii ((lvl fr + 1 : Nat) : Int))) = H4 at *
      refine ⟨(RS.ok R4).1, ?_⟩
      refine c227 R4 z4.2 (by omega) (fun h5 z5 y1 y2 => ?_)
      rw [rV_s]
      refine hY c h5 ((zz.wd (by decide) (by decide)).tr ((z4.1.wd (by decide) (by decide)).tr (z5.wd (by decide) (by decide)))) ?_ ⟨⟨?_, ?_, ⟨fun _ => ⟨?_, ?_⟩, sv.keep (fun M hM => ⟨?_, ?_⟩)⟩, r187 h5 (by rw [z5.ae (by decide) (by decide), a4]) _ _⟩, ?_, ?_, ?_, k24⟩
      · rw [z5.fe (by decide), z4.1.fe (by decide)]; exact z3.2
      · rw [z5.fe (by decide), z4.1.fe (by decide)]; exact g51
      · rw [z5.fe (by decide), z4.2, el]; exact congrArg ii (by omega)
      · rw [y1.o (by omega), a4, a184]; exact he
      · rw [y2.o (by omega), a4, a185]; exact hb
      · rw [y1.o (by omega), a4, a184]
      · rw [y2.o (by omega), a4, a185]
      · rw [el, Nat.add_comm]; exact W8_zero y1 (fun _ _ => rfl)
      · rw [el, Nat.add_comm]; exact W8_on y2 (fun _ _ => rfl)
      · rw [z5.fe (by decide), z4.1.fe (by decide)]; exact g53
    · subst g0
      rw [if_pos (by decide), rV_s]
      rw [if_neg (by decide), if_neg (by decide)] at hY
      have el : lvl ((decide (1 = 0), u, v) :: fr) = lvl fr := (el.trans (by rw [if_neg (by decide), Nat.zero_add]))
      refine hY c H3 (zz.wd (by decide) (by decide)) z3.2 ⟨⟨g51, by rw [el]; exact g52, ⟨fun y => absurd (show decide (1 = 0) = true from y) (by decide), sv.keep (fun M hM => ⟨by rw [a184], by rw [a185]⟩)⟩, r187 H3 rfl _ _⟩, ?_, ?_, g53, k24⟩
      · rw [el, a184]; exact he
      · rw [el, a185]; exact hb
end Tp
