/-! THE REFERENCE: a rule read -/
def ruF (h : mHeap) (sl c : Nat) (r : Nat ⊕ Ru) : Prop := match r with
  | .inl f => fI h 148 29 = ii (f : Nat) ∧ 0 < f ∧ f < 100000
  | .inr D => fI h 148 29 = ii 0 ∧ RO h sl (flC D) ∧ RcC h sl D ∧ c = D.length ∧ D.length ≤ 12 ∧ (flC D).length ≤ 300
section Tm
variable {d : Nat} {h h1 h2 h3 : mHeap} {B : Bt} {n sl p q t i k f c : Nat} {T : List (Nat × Nat)} {O V W W0 st : List Nat} {C D : Ru} {F R F1 R1 : List Nat} {s s2 : Cs}
theorem clO_u {q r : Nat ⊕ (Nat × Nat × List Nat × List Nat)} (a : clO T i k c O q) (b : clO T i k c O r) : q = r := by
  unfold clO at a b
  by_cases c1 : (tk T i).1 = 318
  · rw [if_pos c1] at a b
    by_cases c2 : c = 12
    · rw [if_pos c2] at a b
      rw [a, b]
    · rw [if_neg c2] at a b
      cases e : suS T (i + 1) k with
      | inl f =>
        rw [e] at a b
        exact Eq.trans (show q = .inl f from a) (show r = .inl f from b).symm
      | inr x =>
        obtain ⟨i1, k1, V⟩ := x
        rw [e] at a b
        have a' : if (tk T i1).1 = 319 then (∃ z, rgR T (.inl (i1 + 1, k1, O ++ V, [], true)) (.inr z) ∧ (match z with
          | .inl f => q = .inl f
          | .inr (i2, n2, O2) => ∃ W, O2 = O ++ V ++ W ∧ q = .inr (i2, n2, V, W))) else q = .inr (i1, k1, V, []) := a
        have b' : if (tk T i1).1 = 319 then (∃ z, rgR T (.inl (i1 + 1, k1, O ++ V, [], true)) (.inr z) ∧ (match z with
          | .inl f => r = .inl f
          | .inr (i2, n2, O2) => ∃ W, O2 = O ++ V ++ W ∧ r = .inr (i2, n2, V, W))) else r = .inr (i1, k1, V, []) := b
        by_cases c3 : (tk T i1).1 = 319
        · rw [if_pos c3] at a' b'
          obtain ⟨za, ra, ea⟩ := a'
          obtain ⟨zb, rb, eb⟩ := b'
          have ez := rgR.uniq ra rb
          subst ez
          cases za with
          | inl f => exact Eq.trans (show q = .inl f from ea) (show r = .inl f from eb).symm
          | inr y =>
            obtain ⟨i2, n2, O2⟩ := y
            obtain ⟨Wa, e1, e2⟩ : ∃ W, O2 = O ++ V ++ W ∧ q = .inr (i2, n2, V, W) := ea
            obtain ⟨Wb, e3, e4⟩ : ∃ W, O2 = O ++ V ++ W ∧ r = .inr (i2, n2, V, W) := eb
            have : Wa = Wb := List.append_cancel_left (e1.symm.trans e3)
            rw [e2, e4, this]
        · rw [if_neg c3] at a' b'
          rw [a', b']
  · rw [if_neg c1] at a b
    rw [a, b]
theorem ruL_u : ∀ g i k (C : Ru) (r r2 : Nat ⊕ Ru), ruL T g i k C r → ruL T g i k C r2 → r = r2
  | 0, i, k, C, r, r2, a, b => absurd a id
  | g + 1, i, k, C, r, r2, ⟨za, ca, ea⟩, ⟨zb, cb, eb⟩ => by
    have ez := clO_u ca cb
    subst ez
    cases za with
    | inl f => exact Eq.trans (show r = .inl f from ea) (show r2 = .inl f from eb).symm
    | inr y =>
      obtain ⟨i1, n1, V, W⟩ := y
      have ea' : if (tk T i1).1 = 60 then ruL T g (i1 + 1) n1 (C ++ [(V, W)]) r else if (tk T i1).1 = 0 then r = .inr (C ++ [(V, W)]) else r = .inl (flt T i1 0) := ea
      have eb' : if (tk T i1).1 = 60 then ruL T g (i1 + 1) n1 (C ++ [(V, W)]) r2 else if (tk T i1).1 = 0 then r2 = .inr (C ++ [(V, W)]) else r2 = .inl (flt T i1 0) := eb
      by_cases c1 : (tk T i1).1 = 60
      · rw [if_pos c1] at ea' eb'
        exact ruL_u g _ _ _ r r2 ea' eb'
      · rw [if_neg c1] at ea' eb'
        by_cases c2 : (tk T i1).1 = 0
        · rw [if_pos c2] at ea' eb'
          rw [ea', eb']
        · rw [if_neg c2] at ea' eb'
          rw [ea', eb']
theorem lex_b (hb : Byt B n) : ∀ i, (tk (lex B n) i).1 ≤ 101001 := fun i => by
  by_cases g : i < (lex B n).length
  · exact ((lxF_ok hb n 0 0 (by omega)).2.2 _ (tk_mem g)).1
  · unfold tk
    rw [List.getD_eq_getElem?_getD, List.getElem?_eq_none (by omega)]
    exact (show (0 : Nat) ≤ 101001 by decide)
/-- does it go on -/
theorem c199e {K : mHeap → Prop} (hR : RS h) (hT : RTx h B n) (hb : Byt B n) (hp : fI h 148 28 = ii (p : Nat)) (hn : p ≤ n + 1) (hK : ∀ h1, RF [28] [] h h1 → K h1) : GoCv (d + 2) 199 [.ref 148] h K := by
  by_cases g : p ≤ n
  · exact c199 hR hT hb hp g (fun h1 z _ => hK h1 z)
  · have n4 := hT.2.1
    have s0 : sgn B n p = -1 := if_neg (by omega)
    rw [e199, b199_0]
    (try simp only [(RS.ok hR), (RS.fr hR), true_and, and_true, true_or, or_true])
    rw [c198 hR hT hb hp (by omega), s0, if_pos (by decide), rV_s]
    exact hK h RF.rf
theorem c223_63 {K : Int32 → mHeap → Prop} {l1 : Option Value} {b : Bool} (hR : RS h) (hK : RF [28] [] h (sF h 148 28 (.int (fI h 148 28 + ii 1))) → fI (sF h 148 28 (.int (fI h 148 28 + ii 1))) 148 28 = fI h 148 28 + ii 1 → K (if b = true then ii 1 else ii 0) (sF h 148 28 (.int (fI h 148 28 + ii 1)))) : Go d 223 63 [some (.ref 148), l1] [.int (if b = true then ii 1 else ii 0)] h (rI K) := by
  have t28 : tgK (kd h 148) 28 = some 0 := hR.tg.2.1
  have z := RF.sF (x := fI h 148 28 + ii 1) t28
  rw [b223_63]
  simp only [(RS.ok hR), (RS.fr hR), true_and, and_true, true_or, or_true, hR.op]
  refine ⟨by cases b <;> decide, ?_⟩
  rw [rI_s]
  exact hK z.1 z.2
theorem c223d {K : Int32 → mHeap → Prop} (hR : RS h) (hT : RTx h B n) (hb : Byt B n) (hd : Pe h n f) (hK : ∀ h1, RF [28] [] h h1 → K (ii 0) h1) : GoCi (d + 3) 223 [.ref 148] h K := by
  obtain ⟨hf, f0, f5, p, pn, hp⟩ := id hd
  rw [e223, b223_0]
  (try simp only [(RS.ok hR), (RS.fr hR), true_and, and_true, true_or, or_true])
  refine c199e hR hT hb hp pn (fun h1 z1 => ?_)
  have R1 : RS h1 := z1.rs hR (by decide)
  have f1 : fI h1 148 29 = ii (f : Nat) := by rw [z1.fe (by decide)]; exact hf
  simp only [(RS.ok R1), (RS.fr R1), true_and, and_true, true_or, or_true, f1]
  rw [if_pos hd.ne, b223_40]
  simp only [(RS.ok R1), (RS.fr R1), true_and, and_true, true_or, or_true, f1]
  rw [if_pos hd.ne, b223_62]
  exact c223_63 (b := false) R1 (fun z2 _ => hK _ (z1.tr z2))
theorem c223 {K : Int32 → mHeap → Prop} (hR : RS h) (hT : RTx h B n) (hb : Byt B n) (hp : fI h 148 28 = ii (p : Nat)) (hf : fI h 148 29 = ii 0) (ha : AtT B n T p i) (hE : (tk T i).1 = 0 → ∀ h1, RF [28] [] h h1 → K (ii 0) h1) (hS : (tk T i).1 = 60 → ∀ h1, RF [28] [] h h1 → fI h1 148 28 = ii (((tok B n (tk T i).2).2 : Nat) : Int) → AtT B n T (tok B n (tk T i).2).2 (i + 1) → K (ii 1) h1) (hN : ¬ (tk T i).1 = 0 → ¬ (tk T i).1 = 60 → ∀ h1, RF [28, 29] [] h h1 → fI h1 148 29 = ii (flt T i 0 : Nat) → flt T i 0 < 100000 → K (ii 0) h1) : GoCi (d + 3) 223 [.ref 148] h K := by
  have n4 := hT.2.1
  obtain ⟨bl, pl, le⟩ := ha.bl
  rw [e223, b223_0]
  (try simp only [(RS.ok hR), (RS.fr hR), true_and, and_true, true_or, or_true])
  refine c199 hR hT hb hp ha.2 (fun h1 z1 y1 => ?_)
  rw [ha.eh] at y1
  have R1 : RS h1 := z1.rs hR (by decide)
  have T1 : RTx h1 B n := hT.z z1 (by decide) (by decide)
  have f1 : fI h1 148 29 = ii 0 := by rw [z1.fe (by decide)]; exact hf
  have go40 : ∀ (b : Bool) (l1 : Option Value), (b = true ↔ ¬ n ≤ (tk T i).2) → (∀ h2, RF [28] [] h1 h2 → fI h2 148 28 = ii (((tk T i).2 + 1 : Nat) : Int) → K (if b = true then ii 1 else ii 0) h2) → Go (d + 2) 223 40 [some (.ref 148), l1] [] h1 (rI K) := fun b l1 hb2 g => by
    have fin := c223_63 (d := d + 2) (K := K) (l1 := l1) (b := b) R1 (fun z2 y2 => g _ z2 (by rw [y2, y1, show ii ((tk T i).2 : Nat) + ii 1 = ii (((tk T i).2 + 1 : Nat) : Int) from ii_add _ _]))
    rw [b223_40]
    simp only [(RS.ok R1), (RS.fr R1), true_and, and_true, true_or, or_true, f1, y1, T1.1]
    rw [if_neg (fun y => y trivial)]
    by_cases c : n ≤ (tk T i).2
    · rw [if_pos (by rw [ii_le (by omega) (by omega) (by omega) (by omega)]; omega), b223_62]
      cases b with
      | true => exact absurd c (hb2.mp rfl)
      | false => exact fin
    · rw [if_neg (by rw [ii_le (by omega) (by omega) (by omega) (by omega)]; omega)]
      cases b with
      | true => exact fin
      | false => exact absurd (hb2.mpr c) Bool.false_ne_true
  simp only [(RS.ok R1), (RS.fr R1), true_and, and_true, true_or, or_true, f1, y1, T1.1]
  rw [if_neg (fun y => y trivial)]
  by_cases c0 : (tk T i).1 = 0
  · have qn : (tk T i).2 = n := by
      rcases pl with ⟨a, _⟩ | ⟨_, _, e⟩
      · exact a
      · omega
    rw [if_pos (by rw [ii_le (by omega) (by omega) (by omega) (by omega)]; omega)]
    exact go40 false _ ⟨fun y => absurd y Bool.false_ne_true, fun y => absurd (by omega) y⟩ (fun h2 z2 _ => hE c0 h2 (z1.tr z2))
  · have nx := ha.nxt c0
    rw [if_neg (by rw [ii_le (by omega) (by omega) (by omega) (by omega)]; omega)]
    have sb := sgn_b (B := B) (n := n) (p := (tk T i).2)
    have s59 := pl_sg hb pl (c := 59) (by decide) (by decide) (by decide) (by decide) (by decide) (by decide)
    rw [c198 R1 T1 hb y1 (by omega)]
    by_cases c1 : (tk T i).1 = 60
    · rw [if_pos (by rw [s59.mpr (by omega)])]
      have em := pl_one hb pl c0 (by omega)
      refine go40 true _ ⟨fun _ => by omega, fun _ => rfl⟩ (fun h2 z2 y2 => hS c1 h2 (z1.tr z2) (by rw [y2, em]) nx.1)
    · rw [if_neg (by rw [show ii 59 = ii (59 : Int) from rfl, ii_eq (by omega) (by omega) (by omega) (by omega)]; exact fun y => c1 (by have := s59.mp y; omega))]
      simp only [(RS.ok R1), (RS.fr R1), true_and, and_true, true_or, or_true, y1]
      rw [show GoCv (d + 2) 197 [.ref 148, .int (ii 0), .int (ii ((tk T i).2 : Nat))] h1 _ = GoCv (d + 2) 197 [.ref 148, .int (ii ((0 : Nat) : Int)), .int (ii ((tk T i).2 : Nat))] h1 _ from rfl]
      refine c197 (f := 0) R1 f1 (by decide) (fun h2 z2 y2 => ?_)
      have y2 : fI h2 148 29 = ii ((flt T i 0 : Nat) : Int) := y2
      have fe : flt T i 0 = 1 + 8 * (tk T i).2 + 0 := rfl
      have R2 : RS h2 := z2.rs R1 (by decide)
      rw [b223_40]
      simp only [(RS.ok R2), (RS.fr R2), true_and, and_true, true_or, or_true, y2]
      rw [if_pos (by rw [show ii 0 = ii (0 : Int) from rfl, ii_eq (by omega) (by omega) (by omega) (by omega)]; omega), b223_62]
      exact c223_63 (b := false) R2 (fun z3 _ => hN c0 c1 _ ((z1.wd (by decide) (by decide)).tr ((z2.wd (by decide) (by decide)).tr (z3.wd (by decide) (by decide)))) (by rw [z3.fe (by decide)]; exact y2) (by omega))
theorem c224 {K : mHeap → Prop} (hR : RS h) (hK : ∀ h1, RF [28, 29, 33, 34, 35] [] h h1 → fI h1 148 28 = ii 0 → fI h1 148 29 = ii 0 → fI h1 148 33 = ii 0 → fI h1 148 34 = ii 0 → fI h1 148 35 = ii 0 → K h1) : GoCv (d + 1) 224 [.ref 148] h K := by
  have st : ∀ (h : mHeap) (k : Nat), RS h → tgK (kd h 148) k = some 0 → RF [k] [] h (sF h 148 k (.int (ii 0))) ∧ fI (sF h 148 k (.int (ii 0))) 148 k = ii 0 ∧ RS (sF h 148 k (.int (ii 0))) := fun h k hR e => by
    have z := RF.sF (x := ii 0) e
    exact ⟨z.1, z.2, hR.sf e⟩
  rw [e224, b224_0]
  simp only [hR.op, true_and]
  obtain ⟨z1, y1, R1⟩ := st h 28 hR hR.tg.2.1
  generalize sF h 148 28 (.int (ii 0)) = H1 at *
  simp only [R1.op, true_and]
  obtain ⟨z2, y2, R2⟩ := st H1 29 R1 R1.tg.2.2.1
  generalize sF H1 148 29 (.int (ii 0)) = H2 at *
  simp only [R2.op, true_and]
  obtain ⟨z3, y3, R3⟩ := st H2 33 R2 R2.tg.2.2.2.2.2.2.1
  generalize sF H2 148 33 (.int (ii 0)) = H3 at *
  simp only [R3.op, true_and]
  obtain ⟨z4, y4, R4⟩ := st H3 34 R3 R3.tg.2.2.2.2.2.2.2.1
  generalize sF H3 148 34 (.int (ii 0)) = H4 at *
  simp only [R4.op, true_and]
  obtain ⟨z5, y5, R5⟩ := st H4 35 R4 R4.tg.2.2.2.2.2.2.2.2.1
  generalize sF H4 148 35 (.int (ii 0)) = H5 at *
  rw [rV_s]
  refine hK H5 ((z1.wd (by decide) (by decide)).tr ((z2.wd (by decide) (by decide)).tr ((z3.wd (by decide) (by decide)).tr ((z4.wd (by decide) (by decide)).tr (z5.wd (by decide) (by decide)))))) ?_ ?_ ?_ ?_ y5
  · rw [z5.fe (by decide), z4.fe (by decide), z3.fe (by decide), z2.fe (by decide)]; exact y1
  · rw [z5.fe (by decide), z4.fe (by decide), z3.fe (by decide)]; exact y2
  · rw [z5.fe (by decide), z4.fe (by decide)]; exact y3
  · rw [z5.fe (by decide)]; exact y4
/-- clause by clause -/
theorem c239_L {K : Int32 → mHeap → Prop} (hb9 : ∀ i, (tk T i).1 ≤ 101001) (hp : plc T) : ∀ g {i p k : Nat} {C : Ru} {h : mHeap}, T.length ≤ g + i → Cx h B n sl → Po h sl p k (flC C) → AtT B n T p i → fI h 148 34 = ii 0 → RcC h sl C → C.length ≤ 12 → 3 * (flC C).length ≤ 6 * k + (tk T i).2 → (∀ h1 c r, Zq sl h h1 → c ≤ 13 → ruL T g i k C r → ruF h1 sl c r → Go (d + 13) 239 27 [some (.ref 148), some (.int (ii (c : Nat))), some (.int (ii 0))] [] h1 (rI K)) → Go (d + 13) 239 27 [some (.ref 148), some (.int (ii (C.length : Nat))), some (.int (ii 1))] [] h (rI K) := by
  intro g
  induction g with
  | zero =>
    intro i p k C h hg hx ho ha h34 hM c12 room hK
    have := ha.lt
    omega
  | succ g ih =>
    intro i p k C h hg hx ho ha h34 hM c12 room hK
    have n4 := hx.2.1.2.1
    have ec : ii (C.length : Nat) + ii 1 = ii ((C.length + 1 : Nat) : Int) := ii_add _ _
    rw [b239_27, if_neg (by decide)]
    (try simp only [(RS.ok hx.1), (RS.fr hx.1), true_and, and_true, true_or, or_true])
    refine c238 hb9 hp hx ho ha h34 hM c12 room (fun h1 i' p' k' V W z1 o1 a1 d1 M1 c1 ig l12 r1 => ?_) (fun h1 f z1 d1 c1 => ?_)
    · have x1 := hx.qq z1
      (try simp only [(RS.ok x1.1), (RS.fr x1.1), true_and, and_true, true_or, or_true])
      have le := a1.bl.2.2
      have k6 := o1.2.2.2.1
      have ll : (C ++ [(V, W)]).length = C.length + 1 := by rw [List.length_append]; rfl
      have keep : ∀ {h2 : mHeap} {F : List Nat}, RF F [] h1 h2 → (∀ k ∈ F, k ∈ [28, 29]) → Zq sl h h2 := fun z f => z1.tr ((RF.zr z (fun y => by cases y) (fun y => by cases y)).qq (fun k hk => (show ∀ k ∈ ([28, 29] : List Nat), k ∈ tF by decide) k (f k hk)) (fun a ha => by cases ha))
      refine c223 x1.1 x1.2.1 x1.2.2.1 o1.1 o1.2.1 a1 (fun e h2 z2 => ?_) (fun e h2 z2 y2 a2 => ?_) (fun e1 e2 h2 z2 y2 f5 => ?_)
      · rw [ec]
        refine hK h2 _ (.inr (C ++ [(V, W)])) (keep z2 (by decide)) (by omega) ⟨_, c1, ?_⟩ ⟨by rw [z2.fe (by decide)]; exact o1.2.1, o1.2.2.2.2.z z2 (by decide) (by decide) (by decide), M1.z z2 (by decide), by rw [ll], by omega, by omega⟩
        show if (tk T i').1 = 60 then _ else if (tk T i').1 = 0 then _ else _
        rw [if_neg (by omega), if_pos e]
      · rw [ec, ← ll]
        have hpl := (hp i' (by have := a2.lt; omega)).1
        refine ih (by omega) (hx.qq (keep z2 (by decide))) ⟨y2, by rw [z2.fe (by decide)]; exact o1.2.1, by rw [z2.fe (by decide)]; exact o1.2.2.1, k6, o1.2.2.2.2.z z2 (by decide) (by decide) (by decide)⟩ a2 (by rw [z2.fe (by decide)]; exact d1) (M1.z z2 (by decide)) (by omega) (by omega) (fun h3 c r z3 hc hr hF => hK h3 c r ((keep z2 (by decide)).tr z3) hc ⟨_, c1, ?_⟩ hF)
        show if (tk T i').1 = 60 then _ else _
        rw [if_pos e]
        exact hr
      · rw [ec]
        refine hK h2 _ (.inl (flt T i' 0)) (keep z2 (by decide)) (by omega) ⟨_, c1, ?_⟩ ⟨y2, by unfold flt; omega, f5⟩
        show if (tk T i').1 = 60 then _ else if (tk T i').1 = 0 then _ else _
        rw [if_neg e2, if_neg e1]
    · have x1 := hx.qq z1
      (try simp only [(RS.ok x1.1), (RS.fr x1.1), true_and, and_true, true_or, or_true])
      refine c223d x1.1 x1.2.1 x1.2.2.1 d1 (fun h2 z2 => ?_)
      rw [ec]
      exact hK h2 _ (.inl f) (z1.tr ((RF.zr (F := tF) (R := []) (z2.wd (by decide) (by decide)) (by decide) (by decide)).qq (by decide) (by decide))) (by omega) ⟨_, c1, rfl⟩ ⟨by rw [z2.fe (by decide)]; exact d1.1, d1.2.1, d1.2.2.1⟩
theorem RRr.keep (hC : RRr h k C) (hk : k < sl) (e176 : ∀ j, j < 300 * sl → xA h1 176 j = xA h 176 j ∧ xA h1 177 j = xA h 177 j) (e178 : xA h1 178 k = xA h 178 k) (e179 : ∀ j, j < 12 * sl → xA h1 179 j = xA h 179 j ∧ xA h1 180 j = xA h 180 j ∧ xA h1 181 j = xA h 181 j) : RRr h1 k C := by
  obtain ⟨a, b, c12, g⟩ := hC
  refine ⟨a, by rw [e178]; exact b, c12, fun c hc => ?_⟩
  have q := g c hc
  have w := e179 (12 * k + c) (by omega)
  rw [w.1, w.2.1, w.2.2]
  refine ⟨q.1, q.2.1, q.2.2.1, fun i hi => ?_⟩
  have ol := off_le (C := C) (c := c + 1) C.length (by omega)
  rw [off_s] at ol
  have hi' := hi
  rw [List.length_append] at hi'
  have v := e176 (300 * k + (off C c + i)) (by omega)
  rw [v.1, v.2]
  exact q.2.2.2 i hi
theorem RRr.mk (hO : RO h sl (flC D)) (hM : RcC h sl D) (l3 : (flC D).length ≤ 300) (c12 : D.length ≤ 12) (e178 : xA h 178 sl = ii (D.length : Nat)) : RRr h sl D := by
  have ol := off_len D.length D rfl
  refine ⟨by omega, e178, c12, fun c hc => ?_⟩
  have q := hM c hc
  refine ⟨q.1, q.2.1, q.2.2, fun i hi => ?_⟩
  have l := off_le (C := D) (c := c + 1) D.length (by omega)
  rw [off_s] at l
  have hi' := hi
  rw [List.length_append] at hi'
  have v := hO.2 (off D c + i) (by omega)
  have fa := flC_at D c hc
  have e : (flC D).getD (off D c + i) 0 = ((ru_c D c).1 ++ (ru_c D c).2).getD i 0 := by
    by_cases g : i < (ru_c D c).1.length
    · rw [fa.1 i g, List.getD_eq_getElem?_getD, List.getD_eq_getElem?_getD, List.getElem?_append_left g]
    · have := fa.2 (i - (ru_c D c).1.length) (by omega)
      rw [show off D c + (ru_c D c).1.length + (i - (ru_c D c).1.length) = off D c + i by omega] at this
      rw [this, List.getD_eq_getElem?_getD, List.getD_eq_getElem?_getD, List.getElem?_append_right (by omega)]
  rw [← e]
  exact v
end Tm
