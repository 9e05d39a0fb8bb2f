/-! THE REFERENCE: what is open, a test -/
def popX (x c : Nat) : List Nat → List Nat → List Nat × List Nat
  | [], W => ([], W)
  | y :: st, W => if y = x then popX x c st (W ++ [c]) else (y :: st, W)
section Ti
variable {d : Nat} {h h1 h2 : mHeap} {B : Bt} {n sl p q t i k f c x : Nat} {T : List (Nat × Nat)} {O V W st : List Nat} {F R F1 R1 : List Nat}
theorem pNot_X : ∀ (st W : List Nat), pNot st W = popX 0 314 st W
  | [], W => rfl
  | 0 :: st, W => (pNot_X st (W ++ [314])).trans (if_pos rfl).symm
  | (y + 1) :: st, W => (if_neg (by omega : ¬ y + 1 = 0)).symm
theorem pAnd_X : ∀ (st W : List Nat), pAnd st W = popX 2 315 st W
  | [], W => rfl
  | 0 :: st, W => (if_neg (by decide : ¬ 0 = 2)).symm
  | 1 :: st, W => (if_neg (by decide : ¬ 1 = 2)).symm
  | 2 :: st, W => (pAnd_X st (W ++ [315])).trans (if_pos rfl).symm
  | (y + 3) :: st, W => (if_neg (by omega : ¬ y + 3 = 2)).symm
theorem orE_X (fl : flat3 st) : orE st W = popX 3 316 st W := by
  rcases fl with (g | ⟨s, g⟩) | ⟨s, g, (g2 | ⟨s2, g2⟩)⟩
  · subst g; rfl
  · subst g; exact (if_neg (by decide : ¬ 1 = 3)).symm
  · subst g; subst g2; exact (if_pos rfl).symm
  · subst g; subst g2
    exact ((if_pos rfl).trans (if_neg (by decide : ¬ 1 = 3))).symm
theorem popX_f (hx : ¬ x = 1) : ∀ (st W : List Nat), (popX x c st W).2.length + frn (popX x c st W).1 = W.length + frn st ∧ (∀ y ∈ (popX x c st W).1, y ∈ st)
  | [], W => ⟨rfl, fun y hy => hy⟩
  | z :: st, W => by
    have e : popX x c (z :: st) W = if z = x then popX x c st (W ++ [c]) else (z :: st, W) := rfl
    by_cases g : z = x
    · rw [e, if_pos g]
      have ih := popX_f hx st (W ++ [c])
      have fc : frn (z :: st) = (if z = 1 then 0 else 1) + frn st := frn_c
      rw [if_neg (by omega)] at fc
      refine ⟨by rw [ih.1, List.length_append, List.length_singleton]; omega, fun y hy => List.mem_cons_of_mem _ (ih.2 y hy)⟩
    · rw [e, if_neg g]
      exact ⟨rfl, fun y hy => hy⟩
theorem okSt_le : ∀ (st : List Nat), okSt st → ∀ y ∈ st, y ≤ 3
  | [], _, y, hy => by cases hy
  | z :: st, ok, y, hy => by
    rcases List.mem_cons.mp hy with g | g
    · rw [g]; exact ok.2.2.2
    · exact okSt_le st ok.1 y g
theorem st_len : ∀ (st : List Nat), st.length ≤ frn st + dpt st
  | [] => Nat.le_refl _
  | z :: st => by
    have ih := st_len st
    have a : frn (z :: st) = (if z = 1 then 0 else 1) + frn st := frn_c
    have b : dpt (z :: st) = (if z = 0 ∨ z = 1 then 1 else 0) + dpt st := dpt_c
    rw [List.length_cons, a, b]
    by_cases g : z = 1
    · rw [if_pos g, if_pos (Or.inr g)]; omega
    · rw [if_neg g]; omega
theorem scd_i {y : Nat} (hy : y ≤ 3) (hx : x ≤ 3) : ii (scd y : Nat) = ii (scd x : Nat) ↔ y = x := by
  have e : ∀ x, x ≤ 3 → ∀ y, y ≤ 3 → (scd y = scd x ↔ y = x) := by decide
  have b : ∀ x, scd x ≤ 12 := fun x => by
    unfold scd
    split
    · decide
    · split
      · decide
      · split <;> decide
  have b1 := b x
  have b2 := b y
  rw [ii_eq (by omega) (by omega) (by omega) (by omega), ← e x hx y hy]
  omega
theorem Sk2.z (hs : Sk2 h st) (z : RF F R h h1) (f1 : ¬ 36 ∈ F) (f2 : ¬ 34 ∈ F) (r : ¬ 182 ∈ R) : Sk2 h1 st := ⟨by rw [z.fe f1]; exact hs.1, by rw [z.fe f2]; exact hs.2.1, fun j hj => by rw [z.ae (by decide) r]; exact hs.2.2 j hj⟩
theorem c210n {K : Int32 → mHeap → Prop} (hR : RS h) (hs : Sk2 h []) : GoCi (d + 1) 210 [.ref 148] h K ↔ K (ii (-1)) h := by
  have e36 : fI h 148 36 = ii 0 := hs.1
  rw [e210, b210_0]
  simp only [(RS.ok hR), (RS.fr hR), true_and, and_true, true_or, or_true, e36, rI_s]
  rw [if_neg (fun y => y trivial)]
theorem c210c {K : Int32 → mHeap → Prop} (hR : RS h) (hs : Sk2 h (x :: st)) (l : st.length < 402) : GoCi (d + 1) 210 [.ref 148] h K ↔ K (ii (scd x : Nat)) h := by
  have e36 : fI h 148 36 = ii ((st.length + 1 : Nat) : Int) := hs.1
  have a := hs.2.2 st.length (by rw [List.length_cons]; omega)
  rw [List.length_cons, show st.length + 1 - 1 - st.length = 0 by omega] at a
  have a : xA h 182 st.length = ii (scd x : Nat) := a
  rw [e210, b210_0]
  simp only [(RS.ok hR), (RS.fr hR), true_and, and_true, true_or, or_true, e36, rI_s]
  rw [if_pos (by rw [show ii 0 = ii (0 : Int) from rfl, ii_eq (by omega) (by omega) (by omega) (by omega)]; omega)]
  rw [show ii ((st.length + 1 : Nat) : Int) - ii 1 = ii (st.length : Nat) by rw [ii_sub]; exact congrArg ii (by omega)]
  simp only [hR.x182 l, a, true_and]
theorem c211_40 {K : mHeap → Prop} {v : Int32} (hR : RS h) (e36 : fI h 148 36 = ii (st.length : Nat)) (l : st.length < 402) (ev : v = ii (scd x : Nat)) (hK : ∀ h1, RF [36] [182] h h1 → fI h1 148 36 = ii ((st.length + 1 : Nat) : Int) → xA h1 182 = upf (xA h 182) st.length (ii (scd x : Nat)) → K h1) : Go d 211 40 [some (.ref 148), some (.int v)] [] h (rV K) := by
  subst ev
  rw [b211_40]
  simp only [(RS.ok hR), (RS.fr hR), true_and, and_true, true_or, or_true, e36, hR.x182 l]
  refine ⟨by decide, ?_⟩
  have z1 : RF [] [182] h (sI h 182 (ii (st.length : Nat)) (ii (scd x : Nat))) := RF.sI
  have s1 : xA (sI h 182 (ii (st.length : Nat)) (ii (scd x : Nat))) 182 = upf (xA h 182) st.length (ii (scd x : Nat)) := (hR.s182 l).trans (if_pos rfl)
  generalize sI h 182 (ii (st.length : Nat)) (ii (scd x : Nat)) = H1 at *
  have R1 : RS H1 := z1.rs hR (by decide)
  have t36 : tgK (kd H1 148) 36 = some 0 := R1.tg.2.2.2.2.2.2.2.2.2.1
  have z2 := RF.sF (x := ii ((st.length + 1 : Nat) : Int)) t36
  simp only [(RS.ok R1), (RS.fr R1), true_and, and_true, true_or, or_true, R1.op, z1.fe (show ¬ 36 ∈ ([] : List Nat) by decide), e36, rV_s]
  rw [show ii (st.length : Nat) + ii 1 = ii ((st.length + 1 : Nat) : Int) from ii_add _ _]
  exact hK _ ((z1.wd (by decide) (by decide)).tr (z2.1.wd (by decide) (by decide))) z2.2 (by rw [xA_sF, s1])
theorem c211 {K : mHeap → Prop} (hx : Cx h B n sl) (hp : fI h 148 28 = ii (p : Nat)) (hf : fI h 148 29 = ii 0) (hs : Sk2 h st) (l : st.length < 402) (x3 : x ≤ 3) (d10 : dpt st ≤ 10) (hY : (x = 0 ∨ x = 1 → ¬ dpt st = 10) → ∀ h1, RF [34, 36] [182] h h1 → Sk2 h1 (x :: st) → K h1) (hN : (x = 0 ∨ x = 1) → dpt st = 10 → ∀ h1, RF [29, 34, 36] [182] h h1 → fI h1 148 29 = ii ((1 + 8 * p + 2 : Nat) : Int) → K h1) : GoCv (d + 2) 211 [.ref 148, .int (ii (scd x : Nat))] h K := by
  obtain ⟨e36, e34, er⟩ := hs
  have sk : ∀ {H H1 : mHeap}, RF [36] [182] H H1 → fI H1 148 36 = ii ((st.length + 1 : Nat) : Int) → xA H1 182 = upf (xA H 182) st.length (ii (scd x : Nat)) → xA H 182 = xA h 182 → fI H 148 34 = ii (dpt (x :: st) : Nat) → Sk2 H1 (x :: st) := fun {H H1} z a b c e => by
    refine ⟨a, by rw [z.fe (by decide)]; exact e, fun j hj => ?_⟩
    rw [List.length_cons] at hj
    rw [b, c]
    unfold upf
    rw [List.length_cons]
    by_cases g : j = st.length
    · rw [if_pos g, show st.length + 1 - 1 - j = 0 by omega]
      rfl
    · rw [if_neg g, er j (by omega), show st.length + 1 - 1 - j = (st.length - 1 - j) + 1 by omega]
      rfl
  have dc : dpt (x :: st) = (if x = 0 ∨ x = 1 then 1 else 0) + dpt st := dpt_c
  have n9 : ii (scd x : Nat) = ii 9 ↔ x = 0 := scd_i (x := 0) x3 (by decide)
  have n12 : ii (scd x : Nat) = ii 12 ↔ x = 1 := scd_i (x := 1) x3 (by decide)
  have deepen : (x = 0 ∨ x = 1) → Go (d + 1) 211 12 [some (.ref 148), some (.int (ii (scd x : Nat)))] [] h (rV K) := fun c1 => by
    rw [if_pos c1] at dc
    have go30 : ∀ H, RF [29] [] h H → (∀ H1, RF [34, 36] [182] H H1 → (∀ e : xA H 182 = xA h 182, Sk2 H1 (x :: st)) → K H1) → Go (d + 1) 211 30 [some (.ref 148), some (.int (ii (scd x : Nat)))] [] H (rV K) := fun H z g => by
      have R1 : RS H := z.rs hx.1 (by decide)
      have t34 : tgK (kd H 148) 34 = some 0 := R1.tg.2.2.2.2.2.2.2.1
      rw [b211_30]
      simp only [(RS.ok R1), (RS.fr R1), true_and, and_true, true_or, or_true, R1.op, z.fe (show ¬ 34 ∈ [29] by decide), e34]
      rw [show ii (dpt st : Nat) + ii 1 = ii (((dpt st) + 1 : Nat) : Int) from ii_add _ _]
      have z2 := RF.sF (x := ii ((dpt st + 1 : Nat) : Int)) t34
      have R2 : RS (sF H 148 34 (.int (ii ((dpt st + 1 : Nat) : Int)))) := z2.1.rs R1 (by decide)
      refine c211_40 R2 (by rw [z2.1.fe (by decide), z.fe (by decide)]; exact e36) l rfl (fun h1 y1 y2 y3 => ?_)
      refine g h1 ((z2.1.wd (by decide) (by decide)).tr (y1.wd (by decide) (by decide))) (fun e => sk y1 y2 y3 (by rw [xA_sF]; exact e) (by rw [z2.2, dc]; exact congrArg ii (by omega)))
    rw [b211_12]
    simp only [(RS.ok hx.1), (RS.fr hx.1), true_and, and_true, true_or, or_true, e34, hp]
    by_cases c2 : dpt st = 10
    · rw [if_neg (by rw [c2]; exact fun y => y rfl), show ii 2 = ii ((2 : Nat) : Int) from rfl]
      refine c197 (f := 0) hx.1 hf (by decide) (fun h1 z1 y1 => ?_)
      refine go30 h1 z1 (fun H1 z2 _ => hN c1 c2 H1 ((z1.wd (by decide) (by decide)).tr (z2.wd (by decide) (by decide))) ?_)
      rw [z2.fe (by decide), y1]
      rfl
    · rw [if_pos (by rw [show ii 10 = ii (10 : Int) from rfl, ii_eq (by omega) (by omega) (by omega) (by omega)]; omega)]
      exact go30 h RF.rf (fun H1 z2 e => hY (fun _ => c2) H1 z2 (e rfl))
  rw [e211, b211_0]
  by_cases c1 : x = 0
  · rw [if_pos (n9.mpr c1)]
    exact deepen (Or.inl c1)
  · rw [if_neg (fun y => c1 (n9.mp y))]
    by_cases c2 : x = 1
    · rw [if_neg (fun y => y (n12.mpr c2))]
      exact deepen (Or.inr c2)
    · rw [if_pos (fun y => c2 (n12.mp y))]
      rw [if_neg (by omega)] at dc
      exact c211_40 hx.1 e36 l rfl (fun h1 y1 y2 y3 => hY (fun y => by omega) h1 (y1.wd (by decide) (by decide)) (sk y1 y2 y3 rfl (by rw [e34, dc]; exact congrArg ii (by omega))))
theorem Zr.tt (z : Zr vvF vvR sl h h1) : Zr tF tR sl h h1 := z.wd (by decide) (by decide)
theorem Cx.tt (hx : Cx h B n sl) (z : Zr tF tR sl h h1) : Cx h1 B n sl := hx.z z.1 (by decide) (by decide) (by decide) (by decide) (by decide)
theorem c212_0 {K : mHeap → Prop} (hxc : (x = 0 ∧ c = 314) ∨ (x = 2 ∧ c = 315) ∨ (x = 3 ∧ c = 316)) : ∀ (st : List Nat) {W : List Nat} {h : mHeap}, Cx h B n sl → Po h sl p k W → Sk2 h st → st.length ≤ 402 → (∀ y ∈ st, y ≤ 3) → W.length + frn st ≤ 299 → (∀ h1, Zr [33, 34, 36] vvR sl h h1 → Po h1 sl p k (popX x c st W).2 → Sk2 h1 (popX x c st W).1 → K h1) → Go (d + 1) 212 0 [some (.ref 148), some (.int (ii (scd x : Nat)))] [] h (rV K)
  | [], W, h, hx, ho, hs, l, hy, room, hK => by
    have sb : 9 ≤ scd x ∧ scd x ≤ 11 := by rcases hxc with ⟨g, _⟩ | ⟨g, _⟩ | ⟨g, _⟩ <;> (rw [g]; decide)
    rw [b212_0]
    (try simp only [(RS.ok hx.1), (RS.fr hx.1), true_and, and_true, true_or, or_true])
    rw [c210n hx.1 hs, if_pos (by rw [ii_eq (by omega) (by omega) (by omega) (by omega)]; omega), rV_s]
    exact hK h Zr.rf ho hs
  | y :: st, W, h, hx, ho, hs, l, hy, room, hK => by
    have l' : st.length < 402 := by rw [List.length_cons] at l; omega
    have y3 := hy y (List.mem_cons_self)
    have x3 : x ≤ 3 := by rcases hxc with ⟨g, _⟩ | ⟨g, _⟩ | ⟨g, _⟩ <;> omega
    have fc : frn (y :: st) = (if y = 1 then 0 else 1) + frn st := frn_c
    have e : popX x c (y :: st) W = if y = x then popX x c st (W ++ [c]) else (y :: st, W) := rfl
    rw [e] at hK
    rw [b212_0]
    (try simp only [(RS.ok hx.1), (RS.fr hx.1), true_and, and_true, true_or, or_true])
    rw [c210c hx.1 hs l']
    by_cases g : y = x
    · rw [if_pos g] at hK
      rw [if_neg (by rw [g]; exact fun n => n rfl)]
      simp only [(RS.ok hx.1), (RS.fr hx.1), true_and, and_true, true_or, or_true, ho.2.1]
      rw [if_neg (fun n => n trivial)]
      have sc : scd x = srt c ∧ nbr c = 0 := by rcases hxc with ⟨g, g2⟩ | ⟨g, g2⟩ | ⟨g, g2⟩ <;> (rw [g, g2]; decide)
      rw [if_neg (by rcases hxc with ⟨g2, _⟩ | ⟨g2, _⟩ | ⟨g2, _⟩ <;> omega)] at fc
      have G := fun (K : mHeap → Prop) hK => c203 (d := d) (t := c) (K := K) hx ho.2.1 ho.2.2.2.2 (show W.length < 300 by omega) hK
      rw [← sc.1, sc.2] at G
      refine G _ (fun h1 z1 o1 => ?_)
      have x1 : Cx h1 B n sl := hx.z z1.1 (by decide) (by decide) (by decide) (by decide) (by decide)
      have s1 := hs.z z1.1 (by decide) (by decide) (by decide)
      have e36 : fI h1 148 36 = ii ((st.length + 1 : Nat) : Int) := s1.1
      have e34 : fI h1 148 34 = ii (dpt (y :: st) : Nat) := s1.2.1
      have dc : dpt (y :: st) = (if y = 0 ∨ y = 1 then 1 else 0) + dpt st := dpt_c
      have t36 : tgK (kd h1 148) 36 = some 0 := x1.1.tg.2.2.2.2.2.2.2.2.2.1
      have z2 := RF.sF (x := ii (st.length : Nat)) t36
      simp only [(RS.ok x1.1), (RS.fr x1.1), true_and, and_true, true_or, or_true, x1.1.op, e36]
      rw [show ii ((st.length + 1 : Nat) : Int) - ii 1 = ii (st.length : Nat) by rw [ii_sub]; exact congrArg ii (by omega)]
      have x2 : Cx (sF h1 148 36 (.int (ii (st.length : Nat)))) B n sl := x1.z z2.1 (by decide) (by decide) (by decide) (by decide) (by decide)
      have r2 : xA (sF h1 148 36 (.int (ii (st.length : Nat)))) 182 = xA h1 182 := by rw [xA_sF]
      generalize sF h1 148 36 (.int (ii (st.length : Nat))) = H at *
      have t34 : tgK (kd H 148) 34 = some 0 := x2.1.tg.2.2.2.2.2.2.2.1
      have fin : ∀ m : Nat, m = (if x = 0 then 1 else 0) → Go (d + 1) 212 47 [some (.ref 148), some (.int (ii (scd x : Nat)))] [.int (ii (m : Nat)), .int (fI H 148 34), .ref 148] H (rV K) := fun m em => by
        rw [b212_47]
        have z3 := RF.sF (x := fI H 148 34 - ii (m : Nat)) t34
        have x3' : Cx (sF H 148 34 (.int (fI H 148 34 - ii (m : Nat)))) B n sl := x2.z z3.1 (by decide) (by decide) (by decide) (by decide) (by decide)
        simp only [x2.1.op, true_and]
        have zz : RF [34, 36] [] h1 (sF H 148 34 (.int (fI H 148 34 - ii (m : Nat)))) := (z2.1.wd (by decide) (by decide)).tr (z3.1.wd (by decide) (by decide))
        refine c212_0 hxc st x3' ⟨by rw [zz.fe (by decide), z1.1.fe (by decide)]; exact ho.1, by rw [zz.fe (by decide), z1.1.fe (by decide)]; exact ho.2.1, by rw [zz.fe (by decide), z1.1.fe (by decide)]; exact ho.2.2.1, ho.2.2.2.1, o1.z zz (by decide) (by decide) (by decide)⟩ ⟨by rw [z3.1.fe (by decide)]; exact z2.2, ?_, fun j hj => ?_⟩ (by omega) (fun w hw => hy w (List.mem_cons_of_mem _ hw)) (by rw [List.length_append, List.length_singleton]; omega) (fun h2 z4 a b => hK h2 ((z1.wd (by decide) (by decide)).tr ((RF.zr (F := [33, 34, 36]) (R := []) (zz.wd (by decide) (by decide)) (by decide) (by decide) |>.wd (by decide) (by decide)).tr z4)) a b)
        · rw [z3.2, z2.1.fe (show ¬ 34 ∈ [36] by decide), e34, ii_sub, dc]
          refine congrArg ii ?_
          rw [em, g]
          by_cases g0 : x = 0
          · rw [if_pos g0, if_pos (Or.inl g0)]; omega
          · have : ¬ (x = 0 ∨ x = 1) := by rcases hxc with ⟨g2, _⟩ | ⟨g2, _⟩ | ⟨g2, _⟩ <;> omega
            rw [if_neg g0, if_neg this]; omega
        · have := s1.2.2 j (by rw [List.length_cons]; omega)
          rw [xA_sF, r2, this, List.length_cons, show st.length + 1 - 1 - j = (st.length - 1 - j) + 1 by omega]
          rfl
      have n9 : ii (scd x : Nat) = ii 9 ↔ x = 0 := scd_i (x := 0) x3 (by decide)
      (try simp only [(RS.ok x2.1), (RS.fr x2.1), true_and, and_true, true_or, or_true])
      by_cases g0 : x = 0
      · rw [if_neg (fun n => n (n9.mpr g0))]
        exact fin 1 (by rw [if_pos g0])
      · rw [if_pos (fun n => g0 (n9.mp n))]
        exact fin 0 (by rw [if_neg g0])
    · rw [if_neg g] at hK
      rw [if_pos (fun n => g ((scd_i y3 x3).mp n)), rV_s]
      exact hK h Zr.rf ho hs
theorem c212 {K : mHeap → Prop} (hxc : (x = 0 ∧ c = 314) ∨ (x = 2 ∧ c = 315) ∨ (x = 3 ∧ c = 316)) (hx : Cx h B n sl) (ho : Po h sl p k W) (hs : Sk2 h st) (l : st.length ≤ 402) (hy : ∀ y ∈ st, y ≤ 3) (room : W.length + frn st ≤ 299) (hK : ∀ h1, Zr [33, 34, 36] vvR sl h h1 → Po h1 sl p k (popX x c st W).2 → Sk2 h1 (popX x c st W).1 → K h1) : GoCv (d + 2) 212 [.ref 148, .int (ii (scd x : Nat))] h K := by
  rw [e212]
  exact c212_0 hxc st hx ho hs l hy room hK
end Ti
