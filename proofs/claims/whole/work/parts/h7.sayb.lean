/-! THE REFERENCE: a saying -/
section Tr
variable {d : Nat} {h h1 h2 h3 : mHeap} {B : Bt} {n p q t i k f c L : Nat} {T : List (Nat × Nat)} {e b w : Wd} {x y : Nat → Int32} {fr : List Fm} {F R : List Nat} {s s2 : Cs}
theorem noN_top {z : Fm} (hn : noN (z :: fr)) : z.1 = true := by
  obtain ⟨b, e0, b0⟩ := z
  cases b with
  | true => rfl
  | false =>
    exfalso
    have e1 : popN ((false, e0, b0) :: fr) zeW = popN fr (ntW zeW) := rfl
    have a := hn zeW
    rw [e1] at a
    have l := (lvl_pop fr (ntW zeW)).2.1
    rw [a] at l
    have l : fr.length + 1 ≤ fr.length := l
    omega
theorem sgB_4 (hz : ¬ ((tk T i).1 = 0 ∧ fr = [])) (n94 : ¬ ((tk T i).1 = 94 ∧ ¬ fr = [])) : sgB T i fr e b k = if (tk T i).1 = 316 then .inl (i + 1, fr, e, b, k, true) else if (tk T i).1 = 317 then .inl (i + 1, fr, orW e b, onW, k, true) else .inr (.inl (flt T i 0)) := (if_neg hz).trans (if_neg n94)
theorem sgB_9 {e0 b0 : Wd} (c1 : (tk T i).1 = 94) : sgB T i ((true, e0, b0) :: fr) e b k = .inl (opE (i + 1) fr e0 b0 k (orW e b)) := by
  unfold sgB
  rw [if_neg (fun y => by cases y.2), if_pos ⟨c1, fun y => by cases y⟩]
theorem c236 {K : Int32 → mHeap → Prop} (hR : RS h) (hT : RTx h B n) (hby : Byt B n) (hp : fI h 148 28 = ii ((tk T i).2 : Nat)) (ha : AtT B n T (tk T i).2 i) (hf : fI h 148 29 = ii 0) (hs : SgH h fr e b k) (l : fr.length ≤ 10) (hn : noN fr) (hz : ¬ ((tk T i).1 = 0 ∧ fr = [])) (hY : ∀ h1 i' fr' e' b' k' nd, sgB T i fr e b k = .inl (i', fr', e', b', k', nd) → RF saF saR h h1 → SgV h1 B n T i' fr' e' b' k' nd → i' = i + 1 → K (if nd = true then ii 1 else ii 0) h1) (hN : ∀ h1 f, sgB T i fr e b k = .inr (.inl f) → RF saF saR h h1 → Pd h1 n f → K (ii 0) h1) : GoCi (d + 9) 236 [.ref 148] h K := by
  have n4 := hT.2.1
  obtain ⟨bl, pl, le⟩ := ha.bl
  have fe : ∀ c, flt T i c = 1 + 8 * (tk T i).2 + c := fun c => rfl
  have lv := lvl_le fr
  have go43 : ¬ ((tk T i).1 = 94 ∧ ¬ fr = []) → Go (d + 8) 236 43 [some (.ref 148)] [] h (rI K) := fun n94 => by
    have esg := sgB_4 (e := e) (b := b) (k := k) hz n94
    rw [b236_43]
    (try simp only [(RS.ok hR), (RS.fr hR), true_and, and_true, true_or, or_true])
    have t28 : tgK (kd h 148) 28 = some 0 := hR.tg.2.1
    refine c201w (k := 15) hR hT hby hp le pl (by decide) (fun w => ?_) (fun w => ?_)
    · rw [if_pos w] at esg
      rw [if_neg (by decide)]
      have nx := ha.nxt (show ¬ (tk T i).1 = 0 by omega)
      have em := (pl_w pl (show 15 < 19 by decide)).2 w
      have l3 : (wrds.getD 15 []).length = 3 := by decide +kernel
      rw [l3] at em
      have z := RF.sF (x := ii (((tk T i).2 + 3 : Nat) : Int)) t28
      simp only [(RS.ok hR), (RS.fr hR), true_and, and_true, true_or, or_true, hR.op, hp, rI_s]
      rw [show ii ((tk T i).2 : Nat) + ii 3 = ii (((tk T i).2 + 3 : Nat) : Int) from ii_add _ _]
      exact hY _ _ _ _ _ _ _ esg (z.1.wd (by decide) (by decide)) ⟨⟨_, z.2, by rw [← em]; exact nx.1⟩, by rw [z.1.fe (by decide)]; exact hf, hs.z z.1 (by decide) (by decide), l, fun y => absurd y (by decide)⟩ rfl
    · rw [if_neg w] at esg
      rw [if_pos rfl]
      (try simp only [(RS.ok hR), (RS.fr hR), true_and, and_true, true_or, or_true])
      refine c201w (k := 16) hR hT hby hp le pl (by decide) (fun w2 => ?_) (fun w2 => ?_)
      · rw [if_pos w2] at esg
        rw [if_neg (by decide)]
        have nx := ha.nxt (show ¬ (tk T i).1 = 0 by omega)
        have em := (pl_w pl (show 16 < 19 by decide)).2 w2
        have l3 : (wrds.getD 16 []).length = 2 := by decide +kernel
        rw [l3] at em
        have z := RF.sF (x := ii (((tk T i).2 + 2 : Nat) : Int)) t28
        have R1 : RS (sF h 148 28 (.int (ii (((tk T i).2 + 2 : Nat) : Int)))) := hR.sf t28
        have a1 : ∀ a, xA (sF h 148 28 (.int (ii (((tk T i).2 + 2 : Nat) : Int)))) a = xA h a := fun a => xA_sF
        simp only [(RS.ok hR), (RS.fr hR), true_and, and_true, true_or, or_true, hR.op, hp]
        rw [show ii ((tk T i).2 : Nat) + ii 2 = ii (((tk T i).2 + 2 : Nat) : Int) from ii_add _ _]
        generalize sF h 148 28 (.int (ii (((tk T i).2 + 2 : Nat) : Int))) = H1 at *
        (try simp only [(RS.ok R1), (RS.fr R1), true_and, and_true, true_or, or_true])
        have s1 := hs.z z.1 (by decide) (by decide)
        refine c228 R1 s1.1.2.1 (by omega) (fun h2 z2 y1 y2 => ?_)
        simp only [rI_s]
        have w1 := W8_or (u := xA H1 184) (v := xA H1 185) (M := lvl fr) (N := lvl fr) y1 (fun _ _ => rfl)
        rw [s1.2.1, s1.2.2.1] at w1
        have zz : RF [28] [184, 185] h h2 := (z.1.wd (by decide) (by decide)).tr (z2.wd (by decide) (by decide))
        refine hY h2 _ _ _ _ _ _ esg (zz.wd (by decide) (by decide)) ⟨⟨_, by rw [z2.fe (by decide)]; exact z.2, by rw [← em]; exact nx.1⟩, by rw [zz.fe (by decide)]; exact hf, ⟨⟨by rw [zz.fe (by decide)]; exact hs.1.1, by rw [zz.fe (by decide)]; exact hs.1.2.1, s1.1.2.2.1.keep (fun M hM => ⟨y1.o (by omega), y2.o (by omega)⟩), fun j hj => by rw [zz.ae (by decide) (by decide)]; exact hs.1.2.2.2 j hj⟩, w1, W8_on y2 (fun _ _ => rfl), by rw [zz.fe (by decide)]; exact hs.2.2.2.1, hs.2.2.2.2⟩, l, fun y => absurd y (by decide)⟩ rfl
      · rw [if_neg w2] at esg
        rw [if_pos rfl]
        simp only [(RS.ok hR), (RS.fr hR), true_and, and_true, true_or, or_true, hp]
        rw [show GoCv (d + 8) 197 [.ref 148, .int (ii 0), .int (ii ((tk T i).2 : Nat))] h _ = GoCv (d + 8) 197 [.ref 148, .int (ii ((0 : Nat) : Int)), .int (ii ((tk T i).2 : Nat))] h _ from rfl]
        refine c197 (f := 0) hR hf (by decide) (fun h1 z1 y1 => ?_)
        have y1 : fI h1 148 29 = ii ((flt T i 0 : Nat) : Int) := y1
        simp only [rI_s]
        exact hN h1 _ esg (z1.wd (by decide) (by decide)) ⟨y1, by rw [fe]; omega, by rw [fe]; omega, (tk T i).2, le, by rw [z1.fe (by decide)]; exact hp⟩
  have sb := sgn_b (B := B) (n := n) (p := (tk T i).2)
  have s93 := pl_sg hby pl (c := 93) (by decide) (by decide) (by decide) (by decide) (by decide) (by decide)
  rw [e236, b236_0]
  simp only [(RS.ok hR), (RS.fr hR), true_and, and_true, true_or, or_true, hT.1, hp]
  by_cases c0 : (tk T i).1 = 0
  · have qn : (tk T i).2 = n := by
      rcases pl with ⟨a, _⟩ | ⟨_, _, ee⟩
      · exact a
      · omega
    rw [if_pos (by rw [ii_le (by omega) (by omega) (by omega) (by omega)]; omega)]
    exact go43 (by omega)
  · have nx := ha.nxt c0
    rw [if_neg (by rw [ii_le (by omega) (by omega) (by omega) (by omega)]; omega), c198 hR hT hby hp (by omega)]
    by_cases c1 : (tk T i).1 = 94
    · rw [if_neg (by rw [s93.mpr (by omega)]; exact fun y => y rfl)]
      have e51 := hs.1.1
      simp only [(RS.ok hR), (RS.fr hR), true_and, and_true, true_or, or_true, e51, hp]
      cases fr with
      | nil =>
        rw [if_pos (by decide)]
        exact go43 (fun y => y.2 rfl)
      | cons z fr' =>
        have zt := noN_top hn
        obtain ⟨zb, e0, b0⟩ := z
        have zt : zb = true := zt
        subst zt
        have esg := sgB_9 (T := T) (i := i) (fr := fr') (e := e) (b := b) (k := k) (e0 := e0) (b0 := b0) c1
        rw [List.length_cons] at l
        rw [if_neg (by rw [List.length_cons, show ii 0 = ii (0 : Int) from rfl, ii_le (by omega) (by omega) (by omega) (by omega)]; omega)]
        have em := pl_one hby pl c0 (by omega)
        have t28 : tgK (kd h 148) 28 = some 0 := hR.tg.2.1
        have z1 := RF.sF (x := ii (((tk T i).2 + 1 : Nat) : Int)) t28
        have R1 : RS (sF h 148 28 (.int (ii (((tk T i).2 + 1 : Nat) : Int)))) := hR.sf t28
        simp only [hR.op, true_and]
        rw [show ii ((tk T i).2 : Nat) + ii 1 = ii (((tk T i).2 + 1 : Nat) : Int) from ii_add _ _]
        generalize sF h 148 28 (.int (ii (((tk T i).2 + 1 : Nat) : Int))) = H1 at *
        (try simp only [(RS.ok R1), (RS.fr R1), true_and, and_true, true_or, or_true])
        refine c235 R1 (hs.z z1.1 (by decide) (by decide)) (by omega) (fun h2 z2 s2 => ?_)
        simp only [rI_s]
        have lp := lvl_pop fr' (orW e b)
        refine hY h2 _ _ _ _ _ _ esg ((z1.1.wd (by decide) (by decide)).tr (z2.wd (by decide) (by decide))) ⟨⟨_, by rw [z2.fe (by decide)]; exact z1.2, by rw [← em]; exact nx.1⟩, by rw [z2.fe (by decide), z1.1.fe (by decide)]; exact hf, s2, by have := lp.2.1; omega, fun _ => lp.2.2⟩ rfl
    · rw [if_pos (by rw [show ii 93 = ii (93 : Int) from rfl, ii_eq (by omega) (by omega) (by omega) (by omega)]; exact fun y => c1 (by have := s93.mp y; omega))]
      exact go43 (fun y => c1 y.1)
theorem c237_L {K : Int32 → mHeap → Prop} {x0 : Sg ⊕ Nat ⊕ Wd} : ∀ N {i k : Nat} {fr : List Fm} {e b : Wd} {nd : Bool} {h : mHeap} {l2 : Option Value}, T.length ≤ N + i → RS h → RTx h B n → Byt B n → fI h 148 28 = ii ((tk T i).2 : Nat) → AtT B n T (tk T i).2 i → fI h 148 29 = ii 0 → SgH h fr e b k → fr.length ≤ 10 → (nd = false → noN fr) → sgR T x0 (.inl (i, fr, e, b, k, nd)) → (∀ h1 e b l1 l2, RF saF saR h h1 → fI h1 148 29 = ii 0 → fI h1 148 52 = ii ((0 : Nat) : Int) → rw8 (xA h1 184) 0 = e → rw8 (xA h1 185) 0 = b → sgR T x0 (.inr (.inr (orW e b))) → mNo l1 = true → Go (d + 10) 237 101 [some (.ref 148), l1, l2] [] h1 (rI K)) → (∀ h1 f l1 l2, RF saF saR h h1 → Pd h1 n f → sgR T x0 (.inr (.inl f)) → mNo l1 = true → Go (d + 10) 237 101 [some (.ref 148), l1, l2] [] h1 (rI K)) → Go (d + 10) 237 40 [some (.ref 148), some (.int (if nd = true then ii 1 else ii 0)), l2] [] h (rI K) := by
  intro N
  induction N with
  | zero =>
    intro i k fr e b nd h l2 hg hR hT hby hp ha hf hs l hn hz hK hN
    have := ha.lt
    omega
  | succ N ih =>
    intro i k fr e b nd h l2 hg hR hT hby hp ha hf hs l hn hz hK hN
    have n4 := hT.2.1
    obtain ⟨bl, pl, le⟩ := ha.bl
    have e51 := hs.1.1
    -- on, with what comes next
    have cont : ∀ (nd' : Bool) (h1 : mHeap) (l2 : Option Value) i' fr' e' b' k', RF saF saR h h1 → SgV h1 B n T i' fr' e' b' k' nd' → i' = i + 1 → sgR T x0 (.inl (i', fr', e', b', k', nd')) → Go (d + 10) 237 94 [some (.ref 148), some (.int (if nd' = true then ii 1 else ii 0)), l2] [] h1 (rI K) := fun nd' h1 l2 i' fr' e' b' k' z1 v1 ei hz1 => by
      obtain ⟨⟨p', hp', a'⟩, f1, s1, ll, nn⟩ := v1
      have R1 := z1.rs hR (by decide)
      have T1 : RTx h1 B n := hT.z z1 (by decide) (by decide)
      rw [b237_94]
      (try simp only [(RS.ok R1), (RS.fr R1), true_and, and_true, true_or, or_true])
      refine c199 R1 T1 hby hp' a'.2 (fun h2 z2 y2 => ?_)
      rw [a'.eh] at y2
      have zz : RF saF saR h h2 := z1.tr (z2.wd (by decide) (by decide))
      exact ih (by omega) (z2.rs R1 (by decide)) (T1.z z2 (by decide) (by decide)) hby y2 a'.bl.1 (by rw [z2.fe (by decide)]; exact f1) (s1.z z2 (by decide) (by decide)) ll nn hz1 (fun h3 e b l1 l2 z3 g1 g2 g3 g4 g5 g6 => hK h3 e b l1 l2 (zz.tr z3) g1 g2 g3 g4 g5 g6) (fun h3 f l1 l2 z3 g1 g2 g3 => hN h3 f l1 l2 (zz.tr z3) g1 g2 g3)
    have dead : ∀ (x : Int32) (h1 : mHeap) (f : Nat) (l2 : Option Value), RF saF saR h h1 → Pd h1 n f → sgR T x0 (.inr (.inl f)) → Go (d + 10) 237 94 [some (.ref 148), some (.int x), l2] [] h1 (rI K) := fun x h1 f l2 z1 d1 hz1 => by
      have R1 := z1.rs hR (by decide)
      obtain ⟨g1, g2, g3, p', g4, g5⟩ := id d1
      rw [b237_94]
      (try simp only [(RS.ok R1), (RS.fr R1), true_and, and_true, true_or, or_true])
      refine c199 R1 (hT.z z1 (by decide) (by decide)) hby g5 g4 (fun h2 z2 y2 => ?_)
      have R2 := z2.rs R1 (by decide)
      have f2 : fI h2 148 29 = ii (f : Nat) := by rw [z2.fe (by decide)]; exact g1
      rw [b237_40]
      simp only [(RS.ok R2), (RS.fr R2), true_and, and_true, true_or, or_true, f2]
      rw [if_pos d1.ne]
      exact hN h2 f _ _ (z1.tr (z2.wd (by decide) (by decide))) ⟨f2, g2, g3, _, (hd_le (B := B) g4).2, y2⟩ hz1 (by rfl)
    rw [b237_40]
    simp only [(RS.ok hR), (RS.fr hR), true_and, and_true, true_or, or_true, hf, e51, hT.1, hp]
    rw [if_neg (fun y => y trivial)]
    cases nd with
    | true =>
      rw [if_pos (by decide), b237_69, if_neg (by decide)]
      (try simp only [(RS.ok hR), (RS.fr hR), true_and, and_true, true_or, or_true])
      refine c234 hR hT hby hp ha hf hs l (fun h1 i' fr' e' b' k' nd' es z1 v1 ei => ?_) (fun h1 f es z1 d1 => ?_)
      · have hz1 : sgR T x0 (.inl (i', fr', e', b', k', nd')) := hz.tr (sgR.st (by
          have : sgT T (.inl (i, fr, e, b, k, true)) = .inl (i', fr', e', b', k', nd') := es
          rw [this]; exact sgR.rf))
        cases nd' with
        | true =>
          rw [if_neg (by decide), b237_85]
          exact cont true h1 _ i' fr' e' b' k' z1 v1 ei hz1
        | false =>
          rw [if_pos (by decide), b237_85]
          exact cont false h1 _ i' fr' e' b' k' z1 v1 ei hz1
      · have hz1 : sgR T x0 (.inr (.inl f)) := hz.tr (sgR.st (by
          have : sgT T (.inl (i, fr, e, b, k, true)) = .inr (.inl f) := es
          rw [this]; exact sgR.rf))
        rw [if_neg (fun y => y rfl), b237_85]
        exact dead _ h1 f _ z1 d1 hz1
    | false =>
      have nn := hn rfl
      rw [if_neg (by decide)]
      have go69 : ¬ ((tk T i).1 = 0 ∧ fr = []) → Go (d + 10) 237 69 [some (.ref 148), some (.int (if false = true then ii 1 else ii 0)), l2] [] h (rI K) := fun nz => by
        rw [b237_69, if_pos (by decide)]
        (try simp only [(RS.ok hR), (RS.fr hR), true_and, and_true, true_or, or_true])
        refine c236 hR hT hby hp ha hf hs l nn nz (fun h1 i' fr' e' b' k' nd' es z1 v1 ei => ?_) (fun h1 f es z1 d1 => ?_)
        · have hz1 : sgR T x0 (.inl (i', fr', e', b', k', nd')) := hz.tr (sgR.st (by
            have : sgT T (.inl (i, fr, e, b, k, false)) = .inl (i', fr', e', b', k', nd') := es
            rw [this]; exact sgR.rf))
          exact cont nd' h1 _ i' fr' e' b' k' z1 v1 ei hz1
        · have hz1 : sgR T x0 (.inr (.inl f)) := hz.tr (sgR.st (by
            have : sgT T (.inl (i, fr, e, b, k, false)) = .inr (.inl f) := es
            rw [this]; exact sgR.rf))
          exact dead _ h1 f _ z1 d1 hz1
      cases fr with
      | cons z fr' =>
        rw [List.length_cons] at l
        rw [if_pos (by rw [List.length_cons, show ii 0 = ii (0 : Int) from rfl, ii_lt (by omega) (by omega) (by omega) (by omega)]; omega)]
        exact go69 (fun y => by cases y.2)
      | nil =>
        rw [if_neg (by decide)]
        by_cases c0 : (tk T i).1 = 0
        · have qn : (tk T i).2 = n := by
            rcases pl with ⟨a, _⟩ | ⟨_, _, ee⟩
            · exact a
            · omega
          rw [if_pos (by rw [ii_le (by omega) (by omega) (by omega) (by omega)]; omega)]
          refine hK h e b _ _ RF.rf hf hs.1.2.1 hs.2.1 hs.2.2.1 (hz.tr (sgR.st ?_)) (by rfl)
          have : sgT T (.inl (i, [], e, b, k, false)) = .inr (.inr (orW e b)) := if_pos ⟨c0, rfl⟩
          rw [this]
          exact sgR.rf
        · have nx := ha.nxt c0
          rw [if_neg (by rw [ii_le (by omega) (by omega) (by omega) (by omega)]; omega)]
          exact go69 (fun y => c0 y.1)
theorem c237 {K : Int32 → mHeap → Prop} {r : Int} (hI : RI h s) (hC : CsI s) (hA : aSay s r s2) (hK : ∀ h1, RI h1 s2 → K (ii r) h1) : GoCi (d + 11) 237 [.ref 148] h K := by
  have hR := hI.1.1
  obtain ⟨f32, l24, rr⟩ := hI.2.2.1
  have hT := hI.2.1
  have hb : Byt (cs_B s) (cs_n s) := hC.2.2.2.1.1
  unfold aSay at hA
  rw [e237, b237_0]
  simp only [(RS.ok hR), (RS.fr hR), true_and, and_true, true_or, or_true, f32, rI_s]
  by_cases c6 : (cs_S s).length < 24
  rotate_left
  · rw [if_neg c6] at hA
    rw [if_neg (by rw [show (cs_S s).length = 24 by omega]; exact fun y => y rfl)]
    rw [← hA.1]
    exact hK h (by rw [hA.2]; exact hI)
  rw [if_pos c6] at hA
  rw [if_pos (by rw [show ii 24 = ii (24 : Int) from rfl, ii_eq (by omega) (by omega) (by omega) (by omega)]; omega)]
  refine c224 hR (fun h1 z1 p1 f1 _ _ _ => ?_)
  have R1 := z1.rs hR (by decide)
  have t51 : tgK (kd h1 148) 51 = some 0 := R1.tg.2.2.2.2.2.2.2.2.2.2.2.1
  have z2 := RF.sF (x := ii 0) t51
  have R2 : RS (sF h1 148 51 (.int (ii 0))) := R1.sf t51
  simp only [R1.op, true_and]
  generalize sF h1 148 51 (.int (ii 0)) = H2 at *
  have t52 : tgK (kd H2 148) 52 = some 0 := R2.tg.2.2.2.2.2.2.2.2.2.2.2.2.1
  have z3 := RF.sF (x := ii 0) t52
  have R3 : RS (sF H2 148 52 (.int (ii 0))) := R2.sf t52
  simp only [R2.op, true_and]
  generalize sF H2 148 52 (.int (ii 0)) = H3 at *
  have t53 : tgK (kd H3 148) 53 = some 0 := R3.tg.2.2.2.2.2.2.2.2.2.2.2.2.2.1
  have z4 := RF.sF (x := ii 0) t53
  have R4 : RS (sF H3 148 53 (.int (ii 0))) := R3.sf t53
  simp only [R3.op, true_and]
  generalize sF H3 148 53 (.int (ii 0)) = H4 at *
  (try simp only [(RS.ok R4), (RS.fr R4), true_and, and_true, true_or, or_true])
  refine c227 (L := 0) R4 (by rw [z4.1.fe (by decide)]; exact z3.2) (by decide) (fun h5 z5 y1 y2 => ?_)
  have R5 := z5.rs R4 (by decide)
  (try simp only [(RS.ok R5), (RS.fr R5), true_and, and_true, true_or, or_true])
  have zz5 : RF scF scR h h5 := (z1.wd (by decide) (by decide)).tr ((z2.1.wd (by decide) (by decide)).tr ((z3.1.wd (by decide) (by decide)).tr ((z4.1.wd (by decide) (by decide)).tr (z5.wd (by decide) (by decide)))))
  have T5 : RTx h5 (cs_B s) (cs_n s) := hT.z zz5 (by decide) (by decide)
  have p5 : fI h5 148 28 = ii ((0 : Nat) : Int) := by rw [z5.fe (by decide), z4.1.fe (by decide), z3.1.fe (by decide), z2.1.fe (by decide)]; exact p1
  refine c199 R5 T5 hb p5 (Nat.zero_le _) (fun h6 z6 y6 => ?_)
  have R6 := z6.rs R5 (by decide)
  have a0 := AtT.st (B := cs_B s) (n := cs_n s)
  rw [a0.eh] at y6
  have zz6 : RF scF scR h h6 := zz5.tr (z6.wd (by decide) (by decide))
  have s6 : SgH h6 [] zeW onW 0 := by
    refine ⟨⟨?_, ?_, trivial, fun j hj => absurd hj (Nat.not_lt_zero j)⟩, ?_, ?_, ?_, Nat.zero_le _⟩
    · rw [z6.fe (by decide), z5.fe (by decide), z4.1.fe (by decide), z3.1.fe (by decide)]; exact z2.2
    · rw [z6.fe (by decide), z5.fe (by decide), z4.1.fe (by decide)]; exact z3.2
    · rw [z6.ae (by decide) (by decide)]; exact W8_zero y1 (fun _ _ => rfl)
    · rw [z6.ae (by decide) (by decide)]; exact W8_on y2 (fun _ _ => rfl)
    · rw [z6.fe (by decide), z5.fe (by decide)]; exact z4.2
  have f6 : fI h6 148 29 = ii 0 := by rw [z6.fe (by decide), z5.fe (by decide), z4.1.fe (by decide), z3.1.fe (by decide), z2.1.fe (by decide)]; exact f1
  -- the last of it, after a fault
  refine c237_L (x0 := sgO) (nd := true) (lex (cs_B s) (cs_n s)).length (by omega) R6 (hT.z zz6 (by decide) (by decide)) hb y6 a0.bl.1 f6 s6 (Nat.zero_le _) (fun y => absurd y (by decide)) sgR.rf (fun h7 e b l1 l2 z7 f7 g52 w1 w2 hr hl => ?_) (fun h7 f l1 l2 z7 d7 hr hl => ?_)
  · have R7 := z7.rs R6 (by decide)
    have t27 : tgK (kd h7 148) 27 = some 0 := R7.tg.1
    have z8 := RF.sF (x := ii 0) t27
    have R8 : RS (sF h7 148 27 (.int (ii 0))) := R7.sf t27
    have a8 : ∀ a, xA (sF h7 148 27 (.int (ii 0))) a = xA h7 a := fun a => xA_sF
    have f8 : fI (sF h7 148 27 (.int (ii 0))) 148 29 = ii 0 := by rw [z8.1.fe (by decide)]; exact f7
    rw [b237_101 hl]
    simp only [R7.op, true_and]
    generalize sF h7 148 27 (.int (ii 0)) = H8 at *
    simp only [(RS.ok R8), (RS.fr R8), true_and, and_true, true_or, or_true, f8]
    rw [if_pos (by decide)]
    refine c228 (L := 0) R8 (by rw [z8.1.fe (by decide)]; exact g52) (by decide) (fun h9 z9 y9 _ => ?_)
    have w9 := W8_or (u := xA H8 184) (v := xA H8 185) (M := 0) (N := 0) y9 (fun _ _ => rfl)
    rw [a8, a8, w1, w2] at w9
    have R9 := z9.rs R8 (by decide)
    have zz9 : RF (27 :: scF) scR h h9 := (zz6.wd (by decide) (by decide)).tr ((z7.wd (by decide) (by decide)).tr ((z8.1.wd (by decide) (by decide)).tr (z9.wd (by decide) (by decide))))
    have g32 : fI h9 148 32 = ii ((cs_S s).length : Nat) := by rw [zz9.fe (by decide)]; exact f32
    have g27 : fI h9 148 27 = ii ((0 : Nat) : Int) := by rw [z9.fe (by decide)]; exact z8.2
    refine Go_loop (fun k L' h' => L' = [some (.ref 148), l1, some (.int (ii (k : Nat)))] ∧ RF [] [183] h9 h' ∧ ∀ i, xA h' 183 i = if 8 * (cs_S s).length ≤ i ∧ i < 8 * (cs_S s).length + k then (fun k => xA h9 184 (8 * 0 + k)) (i - 8 * (cs_S s).length) else xA h9 183 i) 8 ?_ ?_ 0 _ h9 (Nat.zero_le _) ⟨rfl, RF.rf, fun i => by rw [if_neg (by omega)]⟩
    · rintro j L' h' hj ⟨rfl, z, y3⟩ nx
      have R2' : RS h' := z.rs R9 (by decide)
      have l1' : 8 * (cs_S s).length + j < 192 := by omega
      have g : fI h' 148 32 = ii ((cs_S s).length : Nat) := by rw [z.fe (by decide)]; exact g32
      rw [b237_127 hl, if_neg (le8 hj)]
      simp only [(RS.ok R2'), (RS.fr R2'), true_and, and_true, true_or, or_true, g, ix8, R2'.x183 l1', R2'.x184 (show j < 88 by omega), z.ae (show ¬ 184 = 148 by decide) (show ¬ 184 ∈ [183] by decide)]
      refine ⟨by decide, ?_⟩
      rw [show ii (j : Nat) + ii 1 = ii ((j + 1 : Nat) : Int) from ii_add _ _]
      refine nx _ _ ⟨rfl, z.tr RF.sI, ?_⟩
      rw [R2'.s183 l1', if_pos rfl]
      exact W8_s (g := fun k => xA h9 184 (8 * 0 + k)) hj y3 (by rw [show 8 * 0 + j = j by omega])
    · rintro L' h' ⟨rfl, z, y3⟩
      have Rz : RS h' := z.rs R9 (by decide)
      have w3 := W8_eq (x := xA h9 183) (y := xA h' 183) (L := (cs_S s).length) (g := fun k => xA h9 184 (8 * 0 + k)) (u := xA h9 184) (M := 0) y3 (fun _ _ => rfl)
      rw [w9] at w3
      have y3 : W8 (xA h9 183) (xA h' 183) (cs_S s).length (fun k => xA h9 184 (8 * 0 + k)) := y3
      have g : fI h' 148 32 = ii ((cs_S s).length : Nat) := by rw [z.fe (by decide)]; exact g32
      have t32 : tgK (kd h' 148) 32 = some 0 := Rz.tg.2.2.2.2.2.1
      have za := RF.sF (x := ii (((cs_S s).length + 1 : Nat) : Int)) t32
      have Ra : RS (sF h' 148 32 (.int (ii (((cs_S s).length + 1 : Nat) : Int)))) := Rz.sf t32
      have aa : ∀ a, xA (sF h' 148 32 (.int (ii (((cs_S s).length + 1 : Nat) : Int)))) a = xA h' a := fun a => xA_sF
      rw [b237_127 hl, if_pos (show ii 8 ≤ ii ((8 : Nat) : Int) by decide)]
      simp only [(RS.ok Rz), (RS.fr Rz), true_and, and_true, true_or, or_true, Rz.op, g]
      rw [show ii ((cs_S s).length : Nat) + ii 1 = ii (((cs_S s).length + 1 : Nat) : Int) from ii_add _ _]
      generalize sF h' 148 32 (.int (ii (((cs_S s).length + 1 : Nat) : Int))) = Ha at *
      simp only [(RS.ok Ra), (RS.fr Ra), true_and, and_true, true_or, or_true, za.2, rI_s]
      rw [show ii (((cs_S s).length + 1 : Nat) : Int) - ii 1 = ii ((cs_S s).length : Nat) by rw [ii_sub]; exact congrArg ii (by omega)]
      have zf : RF (27 :: 31 :: 32 :: scF) (175 :: 176 :: 177 :: 178 :: 179 :: 180 :: 181 :: 183 :: scR) h Ha := (zz9.wd (by decide) (by decide)).tr ((z.wd (by decide) (by decide)).tr (za.1.wd (by decide) (by decide)))
      rcases hA with ⟨f', hr', _, _⟩ | ⟨w', hr', er, es⟩
      · have := sgR.uniq hr hr'
        cases this
      · have := sgR.uniq hr hr'
        cases this
        have G := hK Ha (by
          rw [es]
          refine hI.txt hC zf ⟨by rw [za.1.fe (by decide), z.fe (by decide)]; exact g27, Nat.zero_le _, fun j hj => absurd hj (Nat.not_lt_zero j)⟩ ⟨by rw [za.2, List.length_append]; rfl, by rw [List.length_append, List.length_singleton]; omega, fun k hk => ?_⟩ ((hI.2.2.2.1.sc zz9 (by decide) (by decide)).sc ((z.wd (F1 := [32]) (R1 := [183]) (by decide) (by decide)).tr (za.1.wd (by decide) (by decide))) (by decide) (by decide))
          rw [List.length_append, List.length_singleton] at hk
          show _ = (cs_S s ++ [orW e b]).getD k _
          rw [getD_app, aa]
          by_cases g2 : k = (cs_S s).length
          · rw [if_pos g2, g2]; exact w3
          · rw [if_neg g2, if_pos (by omega), y3.o g2, zz9.ae (by decide) (by decide)]
            exact rr k (by omega))
        rw [er] at G
        exact G
  · have R7 := z7.rs R6 (by decide)
    have t27 : tgK (kd h7 148) 27 = some 0 := R7.tg.1
    have z8 := RF.sF (x := ii 0) t27
    have R8 : RS (sF h7 148 27 (.int (ii 0))) := R7.sf t27
    have f8 : fI (sF h7 148 27 (.int (ii 0))) 148 29 = ii (f : Nat) := by rw [z8.1.fe (by decide)]; exact d7.1
    have f0 := d7.2.1
    have f5 := d7.2.2.1
    rw [b237_101 hl]
    simp only [R7.op, true_and]
    generalize sF h7 148 27 (.int (ii 0)) = H8 at *
    simp only [(RS.ok R8), (RS.fr R8), true_and, and_true, true_or, or_true, f8, rI_s]
    rw [if_neg (by rw [show ii 0 = ii (0 : Int) from rfl, ii_le (by omega) (by omega) (by omega) (by omega)]; omega)]
    rw [show ii (-2) - ii (f : Nat) = ii (-2 - (f : Int)) from ii_sub _ _]
    have zz8 : RF (27 :: scF) scR h H8 := (zz6.wd (by decide) (by decide)).tr ((z7.wd (by decide) (by decide)).tr (z8.1.wd (by decide) (by decide)))
    rcases hA with ⟨f', hr', er, es⟩ | ⟨w', hr', _, _⟩
    · have := sgR.uniq hr hr'
      cases this
      have G := hK H8 (by
        rw [es]
        exact hI.tx hC (zz8.wd (by decide) (by decide)) ⟨z8.2, Nat.zero_le _, fun j hj => absurd hj (Nat.not_lt_zero j)⟩)
      rw [er] at G
      exact G
    · have := sgR.uniq hr hr'
      cases this
end Tr
