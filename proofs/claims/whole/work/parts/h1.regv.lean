/-! THE REFERENCE: clauses of a rule -/
def RcC (h : mHeap) (sl : Nat) (C : Ru) : Prop := ∀ c, c < C.length → xA h 179 (12 * sl + c) = ii (off C c : Nat) ∧ xA h 180 (12 * sl + c) = ii ((off C c + (ru_c C c).1.length : Nat) : Int) ∧ xA h 181 (12 * sl + c) = ii (off C (c + 1) : Nat)
abbrev qR : List Nat := [176, 177, 179, 180, 181, 182]
def Zq (sl : Nat) (h h1 : mHeap) : Prop := Zr tF qR sl h h1 ∧ ∀ j, ¬ (12 * sl ≤ j) → xA h1 179 j = xA h 179 j ∧ xA h1 180 j = xA h 180 j ∧ xA h1 181 j = xA h 181 j
section Tl
variable {d : Nat} {h h1 h2 h3 : mHeap} {B : Bt} {n sl p q t i k f c x : Nat} {T : List (Nat × Nat)} {O V W W0 st s : List Nat} {C : Ru} {F R F1 R1 : List Nat}
theorem Zq.tr (x : Zq sl h h1) (y : Zq sl h1 h2) : Zq sl h h2 := ⟨x.1.tr y.1, fun j hj => ⟨(y.2 j hj).1.trans (x.2 j hj).1, (y.2 j hj).2.1.trans (x.2 j hj).2.1, (y.2 j hj).2.2.trans (x.2 j hj).2.2⟩⟩
theorem Zr.qq (x : Zr F R sl h h1) (f : ∀ k ∈ F, k ∈ tF) (r : ∀ k ∈ R, k ∈ tR) : Zq sl h h1 := by
  have w : ∀ a ∈ tR, a ∈ qR := by decide
  refine ⟨x.wd f (fun a ha => w a (r a ha)), fun j _ => ?_⟩
  have e : ∀ a, ¬ a ∈ tR → ¬ a ∈ R := fun a na g => na (r a g)
  rw [x.1.ae (by decide) (e 179 (by decide)), x.1.ae (by decide) (e 180 (by decide)), x.1.ae (by decide) (e 181 (by decide))]
  exact ⟨rfl, rfl, rfl⟩
theorem RS.o29 (hR : RS h) : okF h 148 12 29 0 := (RS.ok hR).2.2.2.2.2.2.2.2.2.2.2.2.2.2.2.2.2.2.2.2.2.2.2.2.2.2.2.2.2.2.2.2.2.2.2.2.2.2.2.2.2.2.2.2.2.2.2.2.2.2.2.2.2.2.2.2.1
theorem Cx.qq (hx : Cx h B n sl) (z : Zq sl h h1) : Cx h1 B n sl := hx.z z.1.1 (by decide) (by decide) (by decide) (by decide) (by decide)
theorem RcC.z (hc : RcC h sl C) (z : RF F R h h1) (r : ∀ a ∈ [179, 180, 181], ¬ a ∈ R) : RcC h1 sl C := fun c hc2 => by
  rw [z.ae (by decide) (r 179 (by decide)), z.ae (by decide) (r 180 (by decide)), z.ae (by decide) (r 181 (by decide))]
  exact hc c hc2
theorem c202 {K : Int32 → mHeap → Prop} {k1 : Nat} (hx : Cx h B n sl) (ho : Po h sl p k O) (ha : AtT B n T p i) (hk : k1 < 19) (hY : (tk T i).1 = 301 + k1 → ∀ h1, Zr vvF vvR sl h h1 → Po h1 sl (tok B n (tk T i).2).2 k O → AtT B n T (tok B n (tk T i).2).2 (i + 1) → K (ii 1) h1) (hN : ¬ (tk T i).1 = 301 + k1 → ∀ h1, Zr vvF vvR sl h h1 → Po h1 sl (tk T i).2 k O → AtT B n T (tk T i).2 i → K (ii 0) h1) : GoCi (d + 7) 202 [.ref 148, .ref (2 + wix k1)] h K := by
  have hb := hx.2.2.1
  have hw := wix_ok k1 hk
  obtain ⟨bl, pl, le⟩ := ha.bl
  rw [e202, b202_0]
  (try simp only [(RS.ok hx.1), (RS.fr hx.1), true_and, and_true, true_or, or_true])
  refine c199 hx.1 hx.2.1 hb ho.1 ha.2 (fun h1 z1 y1 => ?_)
  rw [ha.eh] at y1
  have x1 : Cx h1 B n sl := hx.z z1 (by decide) (by decide) (by decide) (by decide) (by decide)
  have zr1 : Zr vvF vvR sl h h1 := RF.zr (F := vvF) (R := []) (z1.wd (by decide) (by decide)) (by decide) (by decide) |>.wd (by decide) (by decide)
  have t28 : tgK (kd h1 148) 28 = some 0 := x1.1.tg.2.1
  have pp : ∀ q : Nat, Po (sF h1 148 28 (.int (ii (q : Nat)))) sl q k O ∧ Zr vvF vvR sl h1 (sF h1 148 28 (.int (ii (q : Nat)))) := fun q => by
    have z := RF.sF (x := ii (q : Nat)) t28
    refine ⟨⟨z.2, ?_, ?_, ho.2.2.2.1, (ho.2.2.2.2.z z1 (by decide) (by decide) (by decide)).z z.1 (by decide) (by decide) (by decide)⟩, RF.zr (F := vvF) (R := []) (z.1.wd (by decide) (by decide)) (by decide) (by decide) |>.wd (by decide) (by decide)⟩
    · rw [z.1.fe (by decide), z1.fe (by decide)]; exact ho.2.1
    · rw [z.1.fe (by decide), z1.fe (by decide)]; exact ho.2.2.1
  (try simp only [(RS.ok x1.1), (RS.fr x1.1), true_and, and_true, true_or, or_true])
  refine c201w x1.1 x1.2.1 hb y1 le pl hk (fun w => ?_) (fun w => ?_)
  · simp only [(RS.ok x1.1), (RS.fr x1.1), true_and, and_true, true_or, or_true, y1]
    rw [if_neg (by decide)]
    refine ⟨oC_kd (St_str x1.1.1 hw.1).1, (c319 x1.1.1 hw.1).mpr ?_⟩
    rw [hw.2, show ii ((tk T i).2 : Nat) + ii ((wrds.getD k1 []).length : Nat) = ii (((tok B n (tk T i).2).2 : Nat) : Int) by rw [ii_add, (pl_w pl hk).2 w]; rfl]
    obtain ⟨o, z⟩ := pp (tok B n (tk T i).2).2
    simp only [x1.1.op, rI_s, true_and]
    exact hY w _ (zr1.tr z) o (ha.nxt (by omega)).1
  · simp only [(RS.ok x1.1), (RS.fr x1.1), true_and, and_true, true_or, or_true, y1]
    rw [if_pos trivial, show ii ((tk T i).2 : Nat) + ii 0 = ii ((tk T i).2 : Nat) by rw [ii_add]; exact congrArg ii (by omega)]
    obtain ⟨o, z⟩ := pp (tk T i).2
    simp only [x1.1.op, rI_s, true_and]
    exact hN w _ (zr1.tr z) o bl
theorem clO_0 (c1 : ¬ (tk T i).1 = 318) : clO T i k c O (.inl (flt T i 0)) := by
  unfold clO
  rw [if_neg c1]
theorem clO_4 (c1 : (tk T i).1 = 318) (c2 : c = 12) : clO T i k c O (.inl (flt T i 4)) := by
  unfold clO
  rw [if_pos c1, if_pos c2]
theorem clO_1 (c1 : (tk T i).1 = 318) (c2 : ¬ c = 12) (e : suS T (i + 1) k = .inl f) : clO T i k c O (.inl f) := by
  unfold clO
  rw [if_pos c1, if_neg c2, e]
theorem clO_2 {i1 k1 : Nat} (c1 : (tk T i).1 = 318) (c2 : ¬ c = 12) (e : suS T (i + 1) k = .inr (i1, k1, V)) (c3 : ¬ (tk T i1).1 = 319) : clO T i k c O (.inr (i1, k1, V, [])) := by
  unfold clO
  rw [if_pos c1, if_neg c2, e]
  show if (tk T i1).1 = 319 then _ else _
  rw [if_neg c3]
theorem clO_3 {i1 k1 : Nat} (c1 : (tk T i).1 = 318) (c2 : ¬ c = 12) (e : suS T (i + 1) k = .inr (i1, k1, V)) (c3 : (tk T i1).1 = 319) (r : rgR T (.inl (i1 + 1, k1, O ++ V, [], true)) (.inr (.inl f))) : clO T i k c O (.inl f) := by
  unfold clO
  rw [if_pos c1, if_neg c2, e]
  show if (tk T i1).1 = 319 then _ else _
  rw [if_pos c3]
  exact ⟨_, r, rfl⟩
theorem clO_5 {i1 k1 i2 k2 : Nat} (c1 : (tk T i).1 = 318) (c2 : ¬ c = 12) (e : suS T (i + 1) k = .inr (i1, k1, V)) (c3 : (tk T i1).1 = 319) (r : rgR T (.inl (i1 + 1, k1, O ++ V, [], true)) (.inr (.inr (i2, k2, O ++ V ++ W)))) : clO T i k c O (.inr (i2, k2, V, W)) := by
  unfold clO
  rw [if_pos c1, if_neg c2, e]
  show if (tk T i1).1 = 319 then _ else _
  rw [if_pos c3]
  exact ⟨_, r, W, rfl, rfl⟩
theorem end238 {K : mHeap → Prop} {m : Nat} (hR : RS h) (hm : m < 72) (hK : ∀ h1, RF [] [181] h h1 → xA h1 181 = upf (xA h 181) m (fI h 148 33) → K h1) : okF h 148 12 44 2 ∧ okF h 148 12 33 0 ∧ (64 ≤ (fR h 148 44) ∧ okA h (fR h 148 44) .int (ii (m : Nat))) ∧ rV K none (sI h (fR h 148 44) (ii (m : Nat)) (fI h 148 33)) := by
  simp only [(RS.ok hR), (RS.fr hR), true_and, and_true, true_or, or_true, hR.x181 hm, rV_s]
  exact ⟨by decide, hK _ RF.sI ((hR.s181 hm).trans (if_pos rfl))⟩
theorem c238 {K : mHeap → Prop} (hb9 : ∀ i, (tk T i).1 ≤ 101001) (hp : plc T) (hx : Cx h B n sl) (ho : Po h sl p k (flC C)) (ha : AtT B n T p i) (h34 : fI h 148 34 = ii 0) (hM : RcC h sl C) (c12 : C.length ≤ 12) (room : 3 * (flC C).length ≤ 6 * k + (tk T i).2) (hY : ∀ h1 i' p' k' V W, Zq sl h h1 → Po h1 sl p' k' (flC (C ++ [(V, W)])) → AtT B n T p' i' → fI h1 148 34 = ii 0 → RcC h1 sl (C ++ [(V, W)]) → clO T i k C.length (flC C) (.inr (i', k', V, W)) → i < i' → C.length < 12 → 3 * (flC (C ++ [(V, W)])).length ≤ 6 * k' + (tk T i').2 → K h1) (hN : ∀ h1 f, Zq sl h h1 → Pe h1 n f → clO T i k C.length (flC C) (.inl f) → K h1) : GoCv (d + 13) 238 [.ref 148, .int (ii (C.length : Nat))] h K := by
  have hb := hx.2.2.1
  have n4 := hx.2.1.2.1
  have s6 := hx.2.2.2.2.2
  have k6 := ho.2.2.2.1
  obtain ⟨bl, pl, le⟩ := ha.bl
  have ol := off_len C.length C rfl
  rw [e238, b238_0]
  (try simp only [(RS.ok hx.1), (RS.fr hx.1), true_and, and_true, true_or, or_true])
  refine c199 hx.1 hx.2.1 hb ho.1 ha.2 (fun h1 z1 y1 => ?_)
  rw [ha.eh] at y1
  have x1 : Cx h1 B n sl := hx.z z1 (by decide) (by decide) (by decide) (by decide) (by decide)
  have zr1 : Zq sl h h1 := (RF.zr (F := tF) (R := []) (z1.wd (by decide) (by decide)) (by decide) (by decide)).qq (by decide) (by decide)
  have f1 : fI h1 148 29 = ii 0 := by rw [z1.fe (by decide)]; exact ho.2.1
  have O1 : RO h1 sl (flC C) := ho.2.2.2.2.z z1 (by decide) (by decide) (by decide)
  have bad : ∀ c : Nat, c < 8 → clO T i k C.length (flC C) (.inl (flt T i c)) → GoCv (d + 12) 197 [.ref 148, .int (ii (c : Nat)), .int (ii ((tk T i).2 : Nat))] h1 (fun h6 => rV K none h6) := fun c hc e => by
    refine c197 (f := 0) x1.1 f1 (by decide) (fun h2 z2 y2 => ?_)
    have y2 : fI h2 148 29 = ii ((flt T i c : Nat) : Int) := y2
    have fe : flt T i c = 1 + 8 * (tk T i).2 + c := rfl
    rw [rV_s]
    exact hN h2 _ (zr1.tr ((RF.zr (F := tF) (R := []) (z2.wd (by decide) (by decide)) (by decide) (by decide)).qq (by decide) (by decide))) ⟨y2, by omega, by omega, (tk T i).2, by omega, by rw [z2.fe (by decide)]; exact y1⟩ e
  simp only [(RS.ok x1.1), (RS.fr x1.1), true_and, and_true, true_or, or_true, y1]
  refine c201w (k := 17) x1.1 x1.2.1 hb y1 le pl (by decide) (fun w => ?_) (fun w => ?_)
  rotate_left
  · rw [if_neg (fun y => y rfl)]
    (try simp only [(RS.ok x1.1), (RS.fr x1.1), true_and, and_true, true_or, or_true])
    exact bad 0 (by decide) (clO_0 w)
  rw [if_pos (by decide)]
  by_cases c2 : C.length = 12
  · rw [if_neg (by rw [c2]; exact fun y => y rfl)]
    (try simp only [(RS.ok x1.1), (RS.fr x1.1), true_and, and_true, true_or, or_true])
    exact bad 4 (by decide) (clO_4 w c2)
  rw [if_pos (by rw [show ii 12 = ii (12 : Int) from rfl, ii_eq (by omega) (by omega) (by omega) (by omega)]; omega)]
  have nx := ha.nxt (show ¬ (tk T i).1 = 0 by omega)
  have em := (pl_w pl (show 17 < 19 by decide)).2 w
  have l3 : (wrds.getD 17 []).length = 3 := by decide +kernel
  rw [l3] at em
  have t28 : tgK (kd h1 148) 28 = some 0 := x1.1.tg.2.1
  have h30 : fI h1 148 30 = ii (sl : Nat) := x1.2.2.2.2.1
  simp only [(RS.ok x1.1), (RS.fr x1.1), true_and, and_true, true_or, or_true, x1.1.op, y1]
  rw [show ii ((tk T i).2 : Nat) + ii 3 = ii (((tok B n (tk T i).2).2 : Nat) : Int) by rw [show ii 3 = ii ((3 : Nat) : Int) from rfl, ii_add, em]; rfl]
  have z2 := RF.sF (x := ii (((tok B n (tk T i).2).2 : Nat) : Int)) t28
  have x2 : Cx (sF h1 148 28 (.int (ii (((tok B n (tk T i).2).2 : Nat) : Int)))) B n sl := x1.z z2.1 (by decide) (by decide) (by decide) (by decide) (by decide)
  have zr2 : Zq sl h (sF h1 148 28 (.int (ii (((tok B n (tk T i).2).2 : Nat) : Int)))) := zr1.tr ((RF.zr (F := tF) (R := []) (z2.1.wd (by decide) (by decide)) (by decide) (by decide)).qq (by decide) (by decide))
  have O2 : RO (sF h1 148 28 (.int (ii (((tok B n (tk T i).2).2 : Nat) : Int)))) sl (flC C) := O1.z z2.1 (by decide) (by decide) (by decide)
  have M2 : RcC (sF h1 148 28 (.int (ii (((tok B n (tk T i).2).2 : Nat) : Int)))) sl C := (hM.z z1 (by decide)).z z2.1 (by decide)
  have f2 : fI (sF h1 148 28 (.int (ii (((tok B n (tk T i).2).2 : Nat) : Int)))) 148 29 = ii 0 ∧ fI (sF h1 148 28 (.int (ii (((tok B n (tk T i).2).2 : Nat) : Int)))) 148 35 = ii (k : Nat) ∧ fI (sF h1 148 28 (.int (ii (((tok B n (tk T i).2).2 : Nat) : Int)))) 148 34 = ii 0 := ⟨by rw [z2.1.fe (by decide)]; exact f1, by rw [z2.1.fe (by decide), z1.fe (by decide)]; exact ho.2.2.1, by rw [z2.1.fe (by decide), z1.fe (by decide)]; exact h34⟩
  have p2 := z2.2
  generalize sF h1 148 28 (.int (ii (((tok B n (tk T i).2).2 : Nat) : Int))) = H2 at *
  have hm : 12 * sl + C.length < 72 := by omega
  have at2 : ii 12 * fI H2 148 30 + ii (C.length : Nat) = ii ((12 * sl + C.length : Nat) : Int) := by
    rw [x2.2.2.2.2.1, ii_mul, ii_add]; exact congrArg ii (by omega)
  simp only [(RS.ok x2.1), (RS.fr x2.1), true_and, and_true, true_or, or_true, at2, O2.1, x2.1.x179 hm]
  refine ⟨by decide, ?_⟩
  have z3 : RF [] [179] H2 (sI H2 179 (ii ((12 * sl + C.length : Nat) : Int)) (ii ((flC C).length : Nat))) := RF.sI
  have a3 : xA (sI H2 179 (ii ((12 * sl + C.length : Nat) : Int)) (ii ((flC C).length : Nat))) 179 = upf (xA H2 179) (12 * sl + C.length) (ii ((flC C).length : Nat)) := (x2.1.s179 hm).trans (if_pos rfl)
  generalize sI H2 179 (ii ((12 * sl + C.length : Nat) : Int)) (ii ((flC C).length : Nat)) = H3 at *
  have x3 : Cx H3 B n sl := x2.z z3 (by decide) (by decide) (by decide) (by decide) (by decide)
  have one : ∀ {a : Nat} {H H1 : mHeap} {v : Int32}, a ∈ [179, 180, 181] → RF [] [a] H H1 → xA H1 a = upf (xA H a) (12 * sl + C.length) v → Zq sl H H1 := fun {a H H1 v} ha z e => by
    have am : a = 179 ∨ a = 180 ∨ a = 181 := by
      rcases List.mem_cons.mp ha with g | g
      · exact Or.inl g
      · rcases List.mem_cons.mp g with g | g
        · exact Or.inr (Or.inl g)
        · exact Or.inr (Or.inr (List.mem_singleton.mp g))
    have row : ∀ b, ¬ b = 148 → ∀ j, ¬ 12 * sl ≤ j → xA H1 b j = xA H b j := fun b hb j hj => by
      by_cases g : b = a
      · rw [g, e]
        unfold upf
        rw [if_neg (by omega)]
      · rw [z.ae hb (fun y => g (List.mem_singleton.mp y))]
    refine ⟨⟨z.wd (fun a ha => by cases ha) (fun b hb => ?_), fun j _ => ?_⟩, fun j hj => ⟨row 179 (by decide) j hj, row 180 (by decide) j hj, row 181 (by decide) j hj⟩⟩
    · rw [List.mem_singleton.mp hb]
      rcases am with g | g | g <;> (rw [g]; decide)
    · rw [z.ae (by decide) (fun y => by have := List.mem_singleton.mp y; omega), z.ae (by decide) (fun y => by have := List.mem_singleton.mp y; omega)]
      exact ⟨rfl, rfl⟩
  have zr3 : Zq sl h H3 := zr2.tr (one (by decide) z3 a3)
  have P3 : Po H3 sl (tok B n (tk T i).2).2 k (flC C) := ⟨by rw [z3.fe (by decide)]; exact p2, by rw [z3.fe (by decide)]; exact f2.1, by rw [z3.fe (by decide)]; exact f2.2.1, k6, O2.z z3 (by decide) (by decide) (by decide)⟩
  have d3 : fI H3 148 34 = ii 0 := by rw [z3.fe (by decide)]; exact f2.2.2
  (try simp only [(RS.ok x3.1), (RS.fr x3.1), true_and, and_true, true_or, or_true])
  -- what the rows of clauses are in the end
  have fin : ∀ (H1 : mHeap) (V W : List Nat), xA H1 179 = upf (xA H2 179) (12 * sl + C.length) (ii ((flC C).length : Nat)) → xA H1 180 = upf (xA H2 180) (12 * sl + C.length) (ii ((flC C ++ V).length : Nat)) → xA H1 181 = upf (xA H2 181) (12 * sl + C.length) (ii ((flC C ++ V ++ W).length : Nat)) → RcC H1 sl (C ++ [(V, W)]) := fun H1 V W g1 g2 g3 c hc => by
    rw [List.length_append, List.length_singleton] at hc
    rw [g1, g2, g3, off_app c (by omega), ru_app]
    unfold upf
    by_cases e : c = C.length
    · rw [if_pos e, if_pos (by rw [e]), if_pos (by rw [e]), if_pos (by rw [e]), e, off_end, ol, List.length_append, List.length_append, List.length_append]
      exact ⟨rfl, rfl, rfl⟩
    · rw [if_neg e, if_pos (show c < C.length by omega), if_neg (by omega), if_neg (by omega), if_neg (by omega), off_app (c + 1) (by omega)]
      exact M2 c (by omega)
  have fl : ∀ V W : List Nat, flC (C ++ [(V, W)]) = flC C ++ V ++ W := fun V W => by rw [flC_app, List.append_assoc]
  have hpl := (hp i (by have := nx.1.lt; omega)).1
  refine c208 x3 P3 nx.1 (by omega) (fun h3 i1 k1 V z4 o4 a4 e4 => ?_) (fun h3 f z4 d4 e4 => ?_)
  · have x4 := x3.v z4
    have zr4 : Zq sl h h3 := zr3.tr (z4.qq (by decide) (by decide))
    have so := suS_ok e4
    have vl : (flC C ++ V).length = (flC C).length + V.length := List.length_append
    have pl4 := plc_le hp (i := i) i1 (by omega) a4.lt
    simp only [(RS.ok x4.1), (RS.fr x4.1), true_and, and_true, true_or, or_true, o4.2.2.2.2.1, x4.1.x180 hm]
    refine ⟨by decide, ?_⟩
    have z5 : RF [] [180] h3 (sI h3 180 (ii ((12 * sl + C.length : Nat) : Int)) (ii ((flC C ++ V).length : Nat))) := RF.sI
    have a5 : xA (sI h3 180 (ii ((12 * sl + C.length : Nat) : Int)) (ii ((flC C ++ V).length : Nat))) 180 = upf (xA h3 180) (12 * sl + C.length) (ii ((flC C ++ V).length : Nat)) := (x4.1.s180 hm).trans (if_pos rfl)
    generalize sI h3 180 (ii ((12 * sl + C.length : Nat) : Int)) (ii ((flC C ++ V).length : Nat)) = H5 at *
    have x5 : Cx H5 B n sl := x4.z z5 (by decide) (by decide) (by decide) (by decide) (by decide)
    have zr5 : Zq sl h H5 := zr4.tr (one (by decide) z5 a5)
    have P5 : Po H5 sl (tk T i1).2 k1 (flC C ++ V) := ⟨by rw [z5.fe (by decide)]; exact o4.1, by rw [z5.fe (by decide)]; exact o4.2.1, by rw [z5.fe (by decide)]; exact o4.2.2.1, o4.2.2.2.1, o4.2.2.2.2.z z5 (by decide) (by decide) (by decide)⟩
    have d5 : fI H5 148 34 = ii 0 := by rw [z5.fe (by decide), z4.1.fe (by decide)]; exact d3
    have b179 : xA H5 179 = upf (xA H2 179) (12 * sl + C.length) (ii ((flC C).length : Nat)) := by rw [z5.ae (by decide) (by decide), z4.1.ae (by decide) (by decide), a3]
    have b180 : xA H5 180 = upf (xA H2 180) (12 * sl + C.length) (ii ((flC C ++ V).length : Nat)) := by rw [a5, z4.1.ae (by decide) (by decide), z3.ae (by decide) (by decide)]
    have b181 : xA H5 181 = xA H2 181 := by rw [z5.ae (by decide) (by decide), z4.1.ae (by decide) (by decide), z3.ae (by decide) (by decide)]
    simp only [(RS.ok x5.1), (RS.fr x5.1), true_and, and_true, true_or, or_true, P5.2.1]
    rw [if_neg (fun y => y trivial)]
    refine c202 (k1 := 18) x5 P5 a4 (by decide) (fun w6 h6 z6 o6 a6 => ?_) (fun w6 h6 z6 o6 a6 => ?_)
    · have x6 := x5.v z6
      rw [if_neg (by decide)]
      refine ⟨(RS.ok x6.1).1, ?_⟩
      have hpl6 := (hp i1 (by have := a6.lt; omega)).1
      have d6 : fI h6 148 34 = ii 0 := by rw [z6.1.fe (by decide)]; exact d5
      refine c214 hb9 hp x6 o6 a6 d6 (by omega) (fun h7 i2 k2 W' z7 o7 a7 d7 ig r7 rm7 => ?_) (fun h7 f z7 d7 r7 => ?_)
      · have x7 := x6.tt z7
        have zr7 : Zq sl h h7 := zr5.tr ((z6.qq (by decide) (by decide)).tr (z7.qq (by decide) (by decide)))
        obtain ⟨W, eW⟩ : ∃ W, W' = flC C ++ V ++ W := by
          have := rgP_r (W := flC C ++ V) (show rgP (flC C ++ V) (.inl (i1 + 1, k1, flC C ++ V, [], true)) from ⟨[], by rw [List.append_nil]⟩) r7
          exact this
        subst eW
        have cl := clO_5 (O := flC C) w c2 e4 w6 r7
        refine end238 x7.1 hm (fun h8 z8 y8 => ?_)
        rw [o7.2.2.2.2.1] at y8
        refine hY h8 i2 _ k2 V W (zr7.tr (one (by decide) z8 y8)) ⟨by rw [z8.fe (by decide)]; exact o7.1, by rw [z8.fe (by decide)]; exact o7.2.1, by rw [z8.fe (by decide)]; exact o7.2.2.1, o7.2.2.2.1, by rw [fl]; exact o7.2.2.2.2.z z8 (by decide) (by decide) (by decide)⟩ a7 (by rw [z8.fe (by decide)]; exact d7) (fin h8 V W ?_ ?_ ?_) cl (by omega) (by omega) (by rw [fl]; omega)
        · rw [z8.ae (by decide) (by decide), z7.1.ae (by decide) (by decide), z6.1.ae (by decide) (by decide)]; exact b179
        · rw [z8.ae (by decide) (by decide), z7.1.ae (by decide) (by decide), z6.1.ae (by decide) (by decide)]; exact b180
        · rw [y8, z7.1.ae (by decide) (by decide), z6.1.ae (by decide) (by decide), b181]
      · have x7 := x6.tt z7
        have zr7 : Zq sl h h7 := zr5.tr ((z6.qq (by decide) (by decide)).tr (z7.qq (by decide) (by decide)))
        refine end238 x7.1 hm (fun h8 z8 y8 => ?_)
        obtain ⟨g1, g2, g3, g4, g5, g6⟩ := d7
        exact hN h8 f (zr7.tr (one (by decide) z8 y8)) ⟨by rw [z8.fe (by decide)]; exact g1, g2, g3, g4, g5, by rw [z8.fe (by decide)]; exact g6⟩ (clO_3 w c2 e4 w6 r7)
    · have x6 := x5.v z6
      rw [if_pos rfl]
      have zr6 : Zq sl h h6 := zr5.tr (z6.qq (by decide) (by decide))
      refine end238 x6.1 hm (fun h8 z8 y8 => ?_)
      rw [o6.2.2.2.2.1] at y8
      refine hY h8 i1 _ k1 V [] (zr6.tr (one (by decide) z8 y8)) ⟨by rw [z8.fe (by decide)]; exact o6.1, by rw [z8.fe (by decide)]; exact o6.2.1, by rw [z8.fe (by decide)]; exact o6.2.2.1, o6.2.2.2.1, by rw [fl, List.append_nil]; exact o6.2.2.2.2.z z8 (by decide) (by decide) (by decide)⟩ a6 (by rw [z8.fe (by decide), z6.1.fe (by decide)]; exact d5) (fin h8 V [] ?_ ?_ ?_) (clO_2 w c2 e4 w6) (by omega) (by omega) (by rw [fl, List.append_nil]; omega)
      · rw [z8.ae (by decide) (by decide), z6.1.ae (by decide) (by decide)]; exact b179
      · rw [z8.ae (by decide) (by decide), z6.1.ae (by decide) (by decide)]; exact b180
      · rw [y8, z6.1.ae (by decide) (by decide), b181, List.append_nil]
  · have x4 := x3.v z4
    have zr4 : Zq sl h h3 := zr3.tr (z4.qq (by decide) (by decide))
    simp only [(RS.ok x4.1), (RS.fr x4.1), true_and, and_true, true_or, or_true, x4.1.x180 hm]
    refine ⟨by decide, ?_⟩
    have z5 : RF [] [180] h3 (sI h3 180 (ii ((12 * sl + C.length : Nat) : Int)) (fI h3 148 33)) := RF.sI
    have a5 : xA (sI h3 180 (ii ((12 * sl + C.length : Nat) : Int)) (fI h3 148 33)) 180 = upf (xA h3 180) (12 * sl + C.length) (fI h3 148 33) := (x4.1.s180 hm).trans (if_pos rfl)
    generalize sI h3 180 (ii ((12 * sl + C.length : Nat) : Int)) (fI h3 148 33) = H5 at *
    have x5 : Cx H5 B n sl := x4.z z5 (by decide) (by decide) (by decide) (by decide) (by decide)
    have zr5 : Zq sl h H5 := zr4.tr (one (by decide) z5 a5)
    obtain ⟨g1, g2, g3, g4, g5, g6⟩ := d4.e
    have f5 : fI H5 148 29 = ii (f : Nat) := by rw [z5.fe (by decide)]; exact g1
    refine ⟨x5.1.o29, ?_⟩
    rw [f5, if_pos d4.ne]
    refine end238 x5.1 hm (fun h8 z8 y8 => ?_)
    exact hN h8 f (zr5.tr (one (by decide) z8 y8)) ⟨by rw [z8.fe (by decide)]; exact f5, g2, g3, g4, g5, by rw [z8.fe (by decide), z5.fe (by decide)]; exact g6⟩ (clO_1 w c2 e4)
end Tl
