/-! THE REFERENCE: plan -/
section Sh2
variable {d : Nat} {h h1 h0 : mHeap} {l : List Nat} {m m' : Mo} {S : List Wd} {P : Pg} {s : Cs} {x y z : Int} {q k n o p t : Nat} {v v0 : Wd} {Q : Option Value → mHeap → Prop} {T B : List Nat} {sd : Bool}
theorem plV_all (h4 : l.length ≤ 4) : ∀ i, i < plM S P l v0 → (plT S P l v0 i).1 < 16 ∧ (plT S P l v0 i).2 < 256 ∧ plV S P l v0 i / 32 + i = plM S P l v0 := by
  intro i
  induction i with
  | zero => intro _; exact ⟨by show 0 < 16; decide, by show 0 < 256; decide, rfl⟩
  | succ i ih =>
    intro hi
    obtain ⟨a, b, c⟩ := ih (by omega)
    have st := plV_s h4 a b (by omega)
    exact ⟨st.2.2.2.2.2.1, st.2.2.2.2.2.2, by omega⟩
theorem c297 {K : mHeap → Prop} (W : Rw h (pg_l P) (pg_m P) S) (h4 : l.length ≤ 4) (hlt : ∀ i, i < l.length → l.getD i 0 < (ld_q (pg_l P)).length ∧ mo_l (pg_m P) (l.getD i 0) = false) (f67 : fI h 148 67 = ii (l.length : Nat)) (x194 : ∀ i, i < l.length → xA h 194 i = ii (l.getD i 0 : Nat)) (hK : ∀ h1, RF [67, 68] [163, 194, 195, 196, 197] h h1 → Rw h1 (pg_l P) (pg_m P) S → (∀ i, i < l.length → xA h1 194 i = ii (l.getD i 0 : Nat)) → fI h1 148 68 = ii (plM S P l (mo_w (pg_m P) 0) : Nat) → (∀ i, i < plM S P l (mo_w (pg_m P) 0) → xA h1 196 i = ii ((plV S P l (mo_w (pg_m P) 0) i % 32 : Nat) : Int)) → K h1) : GoCv (d + 5) 297 [.ref 148] h K := by
  have v256 : vtW S (mo_w (pg_m P) 0) 0 = mo_w (pg_m P) 0 := by
    rw [vtW_0]
    funext w
    rw [← W.br]
    by_cases c : w < 256
    · rw [decide_eq_true c, Bool.true_and]
    · rw [decide_eq_false c, Bool.false_and, rw8_ge (by omega)]
  rw [e297, b297_0]
  have t68 : tgK (kd h 148) 68 = some 0 := W.1.tg.2.2.2.2.2.2.2.2.2.2.2.2.2.2.2.2.2.2.1
  have y := RF.sF (x := ii 0) t68
  have W1 := W.sc y.1 (by decide) (by decide) (by decide)
  have k195 : okA (sF h 148 68 (.int (ii 0))) 195 .int (ii 0) := (W1.1.x195 (i := 0) (by decide)).1
  have z2 : RF [] [195] (sF h 148 68 (.int (ii 0))) (sI (sF h 148 68 (.int (ii 0))) 195 (ii 0) (ii (-1))) := RF.sI
  have W2 := W1.sc z2 (by decide) (by decide) (by decide)
  have e195 : xA (sI (sF h 148 68 (.int (ii 0))) 195 (ii 0) (ii (-1))) 195 = upf (xA (sF h 148 68 (.int (ii 0))) 195) 0 (ii (-1)) := by
    have := W1.1.s195 (b := 195) (i := 0) (v := ii (-1)) (by decide)
    rw [if_pos rfl] at this
    exact this
  simp only [W.1.op, (RS.ok W1.1), (RS.fr W1.1), true_and, and_true, true_or, or_true, k195, (RS.ok W2.1), (RS.fr W2.1), true_and, and_true, true_or, or_true]
  refine ⟨by decide, ?_⟩
  refine c295f (at_ := 0) W2.1 (by decide) (fun h1 z3 r3 o3 => ?_)
  have W3 := W2.sc z3 (by decide) (by decide) (by decide)
  have zz : RF [68] [195, 197] h h1 := (y.1.wd (by decide) (by decide)).tr ((z2.wd (by decide) (by decide)).tr (z3.wd (by decide) (by decide)))
  have S0 : PlS h h1 P S l [] 0 [] := by
    refine ⟨zz.wd (by decide) (by decide), ⟨mo_w (pg_m P) 0, by rw [mo_sw0]; exact W3⟩, ⟨by rw [zz.fe (by decide)]; exact f67, fun i hi => by rw [zz.ae (by decide) (by decide)]; exact x194 i hi⟩, ⟨by rw [z3.fe (by decide), z2.fe (by decide)]; exact y.2, Nat.zero_le _, rfl, fun i hi => absurd hi (Nat.not_lt_zero _)⟩, fun i hi => absurd hi (Nat.not_lt_zero _), fun i hi => ?_⟩
    have : i = 0 := Nat.le_zero.mp hi
    subst this
    rw [r3, z2.ae (by decide) (by decide), y.1.ae (by decide) (by decide), W.br]
    rfl
  have x0 : efB S P l (l.length - 1) [] (0, []) (if l.length = 0 then 0 else itr (plG S P l (vL S (mo_w (pg_m P) 0) []) (oL []) (plF S P l (l.length - 1))) 0 0) = (0, []) := by
    have : (if l.length = 0 then 0 else itr (plG S P l (vL S (mo_w (pg_m P) 0) []) (oL []) (plF S P l (l.length - 1))) 0 0) = 0 := by split <;> rfl
    rw [this]
    unfold efB
    rw [if_neg (by show ¬ 0 < 0 + 0 / 32; decide)]
  have a195 : xA h1 195 0 = ii (((0 : Nat) : Int) - 1) := by
    rw [z3.ae (by decide) (by decide), e195]
    unfold upf
    rw [if_pos rfl]
    rfl
  refine Ex (h0 := h) h4 hlt (fun w hw => W.mj.2.2.2 0 w (by decide) hw) l.length [] (by rw [List.length_nil]; omega) (fun t ht => by cases ht) 0 (Nat.zero_le _) (fun e => by rw [e]) h1 (0, []) none none (Nat.zero_le _) (by rw [x0]; exact S0) a195 (fun h' l2 l3 hS => ?_)
  obtain ⟨z4, ⟨v, W4⟩, ⟨g67, y194⟩, b68, x195, x197⟩ := hS
  rw [b297_20, if_pos (by decide)]
  (try simp only [(RS.ok W4.1), (RS.fr W4.1), true_and, and_true, true_or, or_true])
  refine c295t (at_ := 0) W4.1 (by decide) (fun h5 z5 => ?_)
  rw [x197 0 (Nat.zero_le _)] at z5
  have z5 : Hw h' h5 6 (mo_w (pg_m P) 0) := z5
  have W5 := z5.hw W4 (Or.inr rfl) (fun w hw => W.mj.2.2.2 0 w (by decide) hw)
  rw [if_pos rfl, sw_sw, mo_sw0] at W5
  rw [rV_s]
  have pM : plM S P l (mo_w (pg_m P) 0) = plF S P l l.length (mo_w (pg_m P) 0) 0 / 32 := by unfold plM; rw [v256]
  have b68 : fI h' 148 68 = ii ((efB S P l (l.length - 1) [] (0, []) (plF S P l l.length (mo_w (pg_m P) 0) 0)).1 : Nat) ∧ (efB S P l (l.length - 1) [] (0, []) (plF S P l l.length (mo_w (pg_m P) 0) 0)).1 ≤ 4 ∧ (efB S P l (l.length - 1) [] (0, []) (plF S P l l.length (mo_w (pg_m P) 0) 0)).2.length = (efB S P l (l.length - 1) [] (0, []) (plF S P l l.length (mo_w (pg_m P) 0) 0)).1 ∧ ∀ i, i < (efB S P l (l.length - 1) [] (0, []) (plF S P l l.length (mo_w (pg_m P) 0) 0)).1 → xA h' 196 i = ii ((efB S P l (l.length - 1) [] (0, []) (plF S P l l.length (mo_w (pg_m P) 0) 0)).2.getD i 0 : Nat) := b68
  refine hK h5 (z4.tr (z5.1.wd (by decide) (by decide))) W5 (fun i hi => by rw [z5.1.ae (by decide) (by decide)]; exact y194 i hi) ?_ (fun i hi => ?_)
  · rw [z5.1.fe (by decide), b68.1, pM]
    unfold efB
    split
    · show ii ((0 + _ : Nat) : Int) = _
      rw [Nat.zero_add]
    · rename_i g
      have g : ¬ 0 < 0 + plF S P l l.length (mo_w (pg_m P) 0) 0 / 32 := g
      show ii ((0 : Nat) : Int) = _
      exact congrArg (fun t : Nat => ii (t : Int)) (by omega)
  · have va := plV_all (S := S) (P := P) (v0 := mo_w (pg_m P) 0) h4 0 (by omega)
    have sa := sq_at (S := S) (P := P) (v0 := mo_w (pg_m P) 0) h4 i 0 (by show 0 < 16; decide) (by show 0 < 256; decide) (by omega)
    rw [Nat.zero_add, Nat.sub_zero] at sa
    have sa : (sq S P l l.length (vtW S (mo_w (pg_m P) 0) 0) 0).getD i 0 = plV S P l (mo_w (pg_m P) 0) i % 32 := sa
    rw [v256] at sa
    rw [pM] at hi
    have e2 : efB S P l (l.length - 1) [] (0, []) (plF S P l l.length (mo_w (pg_m P) 0) 0) = (plF S P l l.length (mo_w (pg_m P) 0) 0 / 32, sq S P l l.length (mo_w (pg_m P) 0) 0) := by
      unfold efB
      rw [if_pos (by show 0 < 0 + _; omega)]
      refine Prod.ext (Nat.zero_add _) ?_
      obtain ⟨k, hk⟩ : ∃ k, l.length = k + 1 := by
        cases e : l.length with
        | zero =>
          rw [e] at hi
          have : plF S P l 0 (mo_w (pg_m P) 0) 0 = 0 := rfl
          rw [this] at hi
          exact absurd hi (by omega)
        | succ k => exact ⟨k, rfl⟩
      rw [hk] at hi ⊢
      rw [sq_s, if_neg (by omega)]
      rfl
    rw [e2] at b68
    rw [z5.1.ae (by decide) (by decide), b68.2.2.2 i hi, sa]
theorem c298 {K : Int32 → mHeap → Prop} (hI : RI h s) (hC : CsI s) (hx : i32 x) (hy : i32 y) (hK : ∀ h1, RI h1 s → K (ii (vPlan (cs_P s) (cs_S s) x y)) h1) : GoCi (d + 6) 298 [.ref 148, .int (ii x), .int (ii y)] h K := by
  have W := hI.w hC
  have q6 := W.q6
  have no : ∀ h1, RI h1 s → ¬ (((0 ≤ x ∧ x < 2) ∧ 0 ≤ y ∧ y < 9) ∧ 0 < ld_n (pg_l (cs_P s))) → K (ii (-1)) h1 := fun h1 i1 n => by
    have := hK h1 i1
    unfold vPlan at this
    rw [if_neg n] at this
    exact this
  rw [e298, b298_0]
  (try simp only [(RS.ok W.1), (RS.fr W.1), true_and, and_true, true_or, or_true])
  rw [c186 W]
  by_cases c : 0 < ld_n (pg_l (cs_P s))
  · rw [if_pos c, if_neg (by decide)]
    rw [show jj 0 = jj (0 : Int) from rfl, show jj 1 = jj (1 : Int) from rfl, show jj 8 = jj (8 : Int) from rfl, cin2 hx (by decide) (by decide)]
    by_cases c2 : 0 ≤ x ∧ x ≤ 1
    · rw [if_pos c2, if_neg (by decide), cin2 hy (by decide) (by decide)]
      by_cases c3 : 0 ≤ y ∧ y ≤ 8
      · rw [if_pos c3, if_pos (by decide)]
        obtain ⟨w, rfl⟩ := nat_of c3.1
        have kk : ∀ h1, RI h1 s → K (ii (plA (cs_S s) (cs_P s) (decide (x = 1)) w)) h1 := fun h1 i1 => by
          have := hK h1 i1
          unfold vPlan at this
          rw [if_pos (show ((0 ≤ x ∧ x < 2) ∧ 0 ≤ (w : Int) ∧ (w : Int) < 9) ∧ 0 < ld_n (pg_l (cs_P s)) from ⟨⟨⟨by omega, by omega⟩, by omega, by omega⟩, c⟩)] at this
          exact this
        have ex : ii x = ii (bt (decide (x = 1))) := by
          have : x = 0 ∨ x = 1 := by omega
          rcases this with e | e <;> (subst e; rfl)
        generalize decide (x = 1) = sd at *
        (try simp only [(RS.ok W.1), (RS.fr W.1), true_and, and_true, true_or, or_true])
        rw [ex]
        refine c294 (sd := sd) W (fun h1 z1 f67 x194 => ?_)
        have W1 := W.sc z1 (by decide) (by decide) (by decide)
        have I1 : RI h1 s := hI.sc hC (z1.wd (by decide) (by decide))
        have len6 : (thK (cs_P s) sd (ld_q (pg_l (cs_P s))).length).length ≤ 6 := by
          unfold thK
          have := List.length_filter_le (fun q => (mo_s (pg_m (cs_P s)) q == sd) && !mo_l (pg_m (cs_P s)) q) (List.range (ld_q (pg_l (cs_P s))).length)
          rw [List.length_range] at this
          omega
        have hlt : ∀ i, i < (thK (cs_P s) sd (ld_q (pg_l (cs_P s))).length).length → (thK (cs_P s) sd (ld_q (pg_l (cs_P s))).length).getD i 0 < (ld_q (pg_l (cs_P s))).length ∧ mo_l (pg_m (cs_P s)) ((thK (cs_P s) sd (ld_q (pg_l (cs_P s))).length).getD i 0) = false := fun i hi => ⟨thK_lt hi, thK_mem hi⟩
        unfold plA at kk
        generalize thK (cs_P s) sd (ld_q (pg_l (cs_P s))).length = l at *
        simp only [(RS.ok W1.1), (RS.fr W1.1), true_and, and_true, true_or, or_true, f67]
        by_cases c4 : l.length ≤ 4
        · rw [if_pos (by rw [show ii 4 = ii (4 : Int) from rfl, ii_le (by omega) (by omega) (by omega) (by omega)]; omega)]
          refine c297 W1 c4 hlt f67 x194 (fun h2 z2 W2 y194 f68 x196 => ?_)
          have P2 : RPg (lv h2) (cs_P s) := RPg.act I1.2.2.2.2.1 hC.1.1 z2 (by decide) (fun i _ _ => by rw [z2.ae (by decide) (by decide)]) W2.2.2.1.1 (RPa_sc I1.2.2.2.2.1.2.2.1 z2 (by decide) (by decide))
          have I2 : RI h2 s := I1.pg hC (z2.wd (by decide) (by decide)) (fun i _ => by rw [z2.ae (by decide) (by decide)]) P2
          have kk := kk h2 I2
          rw [if_pos c4] at kk
          unfold plL at kk
          have pl := plM_le (S := cs_S s) (P := cs_P s) (v0 := mo_w (pg_m (cs_P s)) 0) c4
          have va := plV_all (S := cs_S s) (P := cs_P s) (v0 := mo_w (pg_m (cs_P s)) 0) c4
          have vs := fun i (hi : i < plM (cs_S s) (cs_P s) l (mo_w (pg_m (cs_P s)) 0)) => (plV_s (S := cs_S s) (P := cs_P s) (v0 := mo_w (pg_m (cs_P s)) 0) c4 (va i hi).1 (va i hi).2.1 (by have := (va i hi).2.2; omega)).2.1
          generalize plM (cs_S s) (cs_P s) l (mo_w (pg_m (cs_P s)) 0) = M at *
          refine ⟨by decide, ?_⟩
          by_cases c5 : w = 0
          · rw [if_pos (by rw [c5]; rfl), b298_69, if_neg (by rw [c5]; exact fun n => n rfl)]
            simp only [(RS.ok W2.1), (RS.fr W2.1), true_and, and_true, true_or, or_true, f68, rI_s]
            rw [if_pos c5] at kk
            exact kk
          · rw [if_neg (by rw [show ii 0 = ii (0 : Int) from rfl, ii_eq (by omega) (by omega) (by omega) (by omega)]; omega)]
            rw [if_neg c5] at kk
            rw [show ii (w : Nat) - ii 1 = ii ((w - 1 : Nat) : Int) by rw [ii_sub]; exact congrArg ii (by omega), dv2 (by omega), rm2 (by omega)]
            simp only [(RS.ok W2.1), (RS.fr W2.1), true_and, and_true, true_or, or_true, f68]
            by_cases c6 : (w - 1) / 2 < M
            · rw [if_pos (by rw [ii_lt (by omega) (by omega) (by omega) (by omega)]; omega)]
              rw [if_pos c6] at kk
              have e196 := x196 ((w - 1) / 2) c6
              have vv := vs ((w - 1) / 2) c6
              simp only [(RS.ok W2.1), (RS.fr W2.1), true_and, and_true, true_or, or_true, W2.1.x196 (show (w - 1) / 2 < 5 by omega), e196]
              generalize plV (cs_S s) (cs_P s) l (mo_w (pg_m (cs_P s)) 0) ((w - 1) / 2) = V at *
              rw [dv8 (by omega), rm8 (by omega)]
              refine ⟨by decide, ?_⟩
              by_cases c7 : w % 2 = 1
              · rw [if_neg (by rw [c7]; exact fun n => n rfl)]
                rw [if_pos c7] at kk
                simp only [W2.1.x194 (show V % 32 / 8 < 6 by omega), y194 _ (show V % 32 / 8 < l.length by omega), rI_s, (by decide : (¬ ii 8 = ii 0) = True), true_and]
                exact kk
              · rw [if_pos (by rw [show ii 1 = ii (1 : Int) from rfl, ii_eq (by omega) (by omega) (by omega) (by omega)]; omega)]
                rw [if_neg c7] at kk
                simp only [rI_s, (by decide : (¬ ii 8 = ii 0) = True), true_and]
                exact kk
            · rw [if_neg (by rw [ii_lt (by omega) (by omega) (by omega) (by omega)]; omega), b298_69, if_pos (by rw [show ii 0 = ii (0 : Int) from rfl, ii_eq (by omega) (by omega) (by omega) (by omega)]; omega), rI_s]
              rw [if_neg c6] at kk
              exact kk
        · rw [if_neg (by rw [show ii 4 = ii (4 : Int) from rfl, ii_le (by omega) (by omega) (by omega) (by omega)]; omega), rI_s]
          have kk := kk h1 I1
          rw [if_neg c4] at kk
          exact kk
      · rw [if_neg c3, if_neg (by decide), rI_s]
        exact no h hI (fun g => c3 ⟨g.1.2.1, by omega⟩)
    · rw [if_neg c2, if_pos rfl, rI_s]
      exact no h hI (fun g => c2 ⟨g.1.1.1, by omega⟩)
  · rw [if_neg c, if_pos rfl, rI_s]
    exact no h hI (fun g => c g.2)
end Sh2
