/-! THE REFERENCE: years drawn -/
def DrR (h0 h : mHeap) (l : Ld) (S : List Wd) (z : Dz) : Prop := RF [71, 72] [149, 150, 153, 154, 163, 193] h0 h ∧ Rw h l z.2.2.2 S ∧ (xA h 149 8 = ii (z.1 : Nat) ∧ z.1 < 2147483648) ∧ fI h 148 71 = ii (z.2.1 : Nat) ∧ fI h 148 72 = ii (z.2.2.1 : Nat)
section Sj
variable {d : Nat} {h h1 h0 : mHeap} {l : Ld} {m m' : Mo} {S : List Wd} {P : Pg} {s : Cs} {x y z : Int} {q k n : Nat} {zz : Dz} {Q : Option Value → mHeap → Prop}
theorem jj_div {a b : Int} (h1 : 0 ≤ a) (h2 : a < 9223372036854775808) (h3 : 0 < b) (h4 : b < 9223372036854775808) : jj a / jj b = jj (a / b) := by
  have hd : a / b ≤ a := Int.ediv_le_self _ h1
  have hd0 : 0 ≤ a / b := Int.ediv_nonneg h1 (by omega)
  apply Int64.toInt_inj.mp
  rw [Int64.toInt_div, jj_toInt (by omega) h2, jj_toInt (by omega) h4, jj_toInt (by omega) (by omega), Int.tdiv_eq_ediv_of_nonneg h1]
  exact Int.bmod_eq_of_le (by simp; omega) (by simp; omega)
theorem lrm_jj {a b : Int} (h1 : 0 ≤ a) (h2 : a < 9223372036854775808) (h3 : 0 < b) (h4 : b < 9223372036854775808) : lrm (jj a) (jj b) = jj (a % b) := by
  unfold lrm
  rw [jj_div h1 h2 h3 h4, jj_mul, jj_sub]
  congr 1
  have := Int.mul_ediv_add_emod a b
  rw [Int.mul_comm]
  omega
theorem dr_ref {x : Nat} (hx : x < 2147483648) : (lrm (((ii (x : Nat)).toInt64 * jj 1103515245) + jj 12345) (jj 2147483648)).toInt32 = ii (dr x : Nat) := by
  rw [i2l_ii (by omega) (by omega), jj_mul, jj_add, show jj 2147483648 = jj (2147483648 : Int) from rfl, lrm_jj (by omega) (by omega) (by omega) (by omega), l2i_jj]
  unfold dr
  exact congrArg ii (by omega)
theorem c309 {K : Int32 → mHeap → Prop} (hR : RS h) {x : Nat} (hx : x < 2147483648) (e8 : xA h 149 8 = ii (x : Nat)) (h0 : 0 < n) (hn : n < 25) (hK : ∀ h1, RF [] [149] h h1 → (∀ i, xA h1 149 i = if i = 8 then ii (dr x : Nat) else xA h 149 i) → K (ii ((dr x / 65536 % n : Nat) : Int)) h1) : GoCi (d + 1) 309 [.ref 148, .int (ii (n : Nat))] h K := by
  have dl := dr_lt x
  rw [e309, b309_0]
  simp only [(RS.ok hR), (RS.fr hR), true_and, and_true, true_or, or_true, hR.l149, e8, dr_ref hx]
  have hR1 : RS (sI h 149 (ii 8) (ii (dr x : Nat))) := hR.si (by decide)
  have e1 : ∀ r, xA (sI h 149 (ii 8) (ii (dr x : Nat))) r = if 149 = r then upf (xA h 149) 8 (ii (dr x : Nat)) else xA h r := fun r => hR.s149 (i := 8) (by decide)
  have e2 : xA (sI h 149 (ii 8) (ii (dr x : Nat))) 149 8 = ii (dr x : Nat) := by rw [e1, if_pos rfl]; unfold upf; rw [if_pos rfl]
  simp only [(RS.ok hR1), (RS.fr hR1), true_and, and_true, true_or, or_true, hR1.l149, e2, rI_s]
  refine ⟨by decide, by decide, by decide, by rw [show ii 0 = ii (0 : Int) from rfl, ii_eq (by omega) (by omega) (by omega) (by omega)]; omega, ?_⟩
  rw [show ii 65536 = ii ((65536 : Nat) : Int) from rfl, dvn dl (by decide) (by decide), rmn (by omega) h0 (by omega)]
  refine hK _ RF.sI (fun i => ?_)
  rw [e1, if_pos rfl]
  unfold upf
  rfl
theorem drD_i (hS : ¬ S.length = 0) : drD l S zz = itr (drP l S) zz (ld_q l).length := by unfold drD; rw [if_neg hS]
theorem drK_d : ∀ k, mo_d (itr (drM l S) zz k).2.2.2 = mo_d zz.2.2.2 + k := by
  intro k
  induction k with
  | zero => rfl
  | succ k ih =>
    rw [itr_s]
    generalize itr (drM l S) zz k = y at *
    show mo_d (mid l (drD l S y).2.2.2) = _
    have e : mo_d (drD l S y).2.2.2 = mo_d y.2.2.2 := by
      unfold drD
      split
      · rfl
      · exact (drI_f _).2
    show mo_d (drD l S y).2.2.2 + 1 = _
    rw [e, ih]
    omega
theorem c310_9 {x1 : Int32} {l4 : Option Value} (hD : DrR h0 h l S zz) (hd : mo_d zz.2.2.2 < 20000) {k2 : Nat} (hG : ∀ h1 l3 l4, DrR h0 h1 l S (drM l S zz k2) → Go (d + 6) 310 2 [some (.ref 148), some (.int x1), some (.int (ii ((k2 + 1 : Nat) : Int))), l3, l4] [] h1 Q) : Go (d + 6) 310 9 [some (.ref 148), some (.int x1), some (.int (ii (k2 : Nat))), some (.int (ii 0)), l4] [] h Q := by
  have q6 := hD.2.1.q6
  have s24 := hD.2.1.s24
  -- the day's end
  have fin : ∀ h1 l3 l4, DrR h0 h1 l S (drD l S zz) → Go (d + 6) 310 96 [some (.ref 148), some (.int x1), some (.int (ii (k2 : Nat))), l3, l4] [] h1 Q := fun h1 l3 l4 D => by
    obtain ⟨z, W, ⟨e8, x8⟩, f71, f72⟩ := D
    have e : mo_d (drD l S zz).2.2.2 = mo_d zz.2.2.2 := by
      unfold drD
      split
      · rfl
      · exact (drI_f _).2
    rw [b310_96]
    (try simp only [(RS.ok W.1), (RS.fr W.1), true_and, and_true, true_or, or_true])
    refine c277 W (by omega) (fun h2 z2 e2 W2 => ?_)
    rw [show ii (k2 : Nat) + ii 1 = ii ((k2 + 1 : Nat) : Int) from ii_add _ _]
    exact hG h2 _ _ ⟨z.tr (z2.wd (by decide) (by decide)), W2, ⟨by rw [e2 8 (by decide) (by decide)]; exact e8, x8⟩, by rw [z2.fe (by decide)]; exact f71, by rw [z2.fe (by decide)]; exact f72⟩
  by_cases cS : S.length = 0
  · have e0 : drD l S zz = zz := by unfold drD; rw [if_pos cS]
    rw [e0] at fin
    have W := hD.2.1
    rw [b310_9]
    simp only [(RS.ok W.1), (RS.fr W.1), true_and, and_true, true_or, or_true, W.1.l149, W.nq, W.ns]
    by_cases c : (ld_q l).length ≤ 0
    · rw [if_pos (by rw [show ii 0 = ii ((0 : Nat) : Int) from rfl, ii_le (by omega) (by omega) (by omega) (by omega)]; omega)]
      exact fin h _ _ hD
    · rw [if_neg (by rw [show ii 0 = ii ((0 : Nat) : Int) from rfl, ii_le (by omega) (by omega) (by omega) (by omega)]; omega), if_pos (by rw [cS]; decide)]
      exact fin h _ _ hD
  · rw [drD_i cS] at fin
    refine Go_loop (fun j L h' => (∃ l4, L = [some (.ref 148), some (.int x1), some (.int (ii (k2 : Nat))), some (.int (ii (j : Nat))), l4]) ∧ DrR h0 h' l S (itr (drP l S) zz j)) (ld_q l).length ?_ ?_ 0 _ h (Nat.zero_le _) ⟨⟨_, rfl⟩, hD⟩
    · rintro j L h' hj ⟨⟨l4, rfl⟩, D⟩ nx
      have nx : ∀ l4 h2, DrR h0 h2 l S (drP l S (itr (drP l S) zz j) j) → Go (d + 6) 310 9 [some (.ref 148), some (.int x1), some (.int (ii (k2 : Nat))), some (.int (ii ((j + 1 : Nat) : Int))), l4] [] h2 Q := fun l4 h2 D2 => nx _ _ ⟨⟨l4, rfl⟩, D2⟩
      generalize itr (drP l S) zz j = y at *
      obtain ⟨z, W, ⟨e8, x8⟩, f71, f72⟩ := D
      rw [b310_9]
      simp only [(RS.ok W.1), (RS.fr W.1), true_and, and_true, true_or, or_true, W.1.l149, W.nq, W.ns, W.1.x154 (show j < 6 by omega), W.mo hj]
      rw [if_neg (by rw [ii_le (by omega) (by omega) (by omega) (by omega)]; omega), if_neg (by rw [show ii 0 = ii (0 : Int) from rfl, ii_le (by omega) (by omega) (by omega) (by omega)]; omega)]
      cases c : mo_l y.2.2.2 j with
      | true =>
        rw [if_pos (by decide), b310_90, show ii (j : Nat) + ii 1 = ii ((j + 1 : Nat) : Int) from ii_add _ _]
        refine nx _ _ ?_
        have : drP l S y j = y := by unfold drP; rw [if_pos c]
        rw [this]
        exact ⟨z, W, ⟨e8, x8⟩, f71, f72⟩
      | false =>
        rw [if_neg (fun n => n rfl)]
        refine c309 W.1 x8 e8 (by omega) (by omega) (fun h2 z2 e2 => ?_)
        have W2 : Rw h2 l y.2.2.2 S := W.mv z2 (by decide) (by decide) (by decide) (fun i _ _ _ i8 => by rw [e2, if_neg i8]) (by
          have rm := W.2.2.1.1
          unfold RMv at rm ⊢
          rw [lv_x (by decide), lv_x (by decide), lv_x (by decide), lv_x (by decide), lv_x (by decide)] at rm ⊢
          rw [e2, e2, if_neg (by decide), if_neg (by decide), z2.ae (by decide) (by decide), z2.ae (by decide) (by decide), z2.ae (by decide) (by decide), z2.ae (by decide) (by decide)]
          exact rm) W.mj
        have ks : dr y.1 / 65536 % S.length < S.length := Nat.mod_lt _ (by omega)
        have dP : drP l S y j = (dr y.1, (if (cro y.2.2.2 j (la_q l j).2.1 (sy S (dr y.1 / 65536 % S.length))).1 = 3 then y.2.1 + 1 else y.2.1), (if (cro y.2.2.2 j (la_q l j).2.1 (sy S (dr y.1 / 65536 % S.length))).1 < 2 then y.2.2.1 + 1 else y.2.2.1), (cro y.2.2.2 j (la_q l j).2.1 (sy S (dr y.1 / 65536 % S.length))).2) := by
          unfold drP
          rw [if_neg (by rw [c]; exact Bool.false_ne_true)]
        rw [dP] at nx
        generalize dr y.1 / 65536 % S.length = sk at *
        (try simp only [(RS.ok W2.1), (RS.fr W2.1), true_and, and_true, true_or, or_true])
        refine c272 W2 hj ks (fun h3 z3 W3 => ?_)
        have c3 := (cro_f (m := y.2.2.2) (q := j) (wt := (la_q l j).2.1) (w := sy S sk)).2.2.1
        generalize cro y.2.2.2 j (la_q l j).2.1 (sy S sk) = cr at *
        have g71 : fI h3 148 71 = ii (y.2.1 : Nat) := by rw [z3.fe (by decide), z2.fe (by decide)]; exact f71
        have g72 : fI h3 148 72 = ii (y.2.2.1 : Nat) := by rw [z3.fe (by decide), z2.fe (by decide)]; exact f72
        have g8 : xA h3 149 8 = ii (dr y.1 : Nat) := by rw [z3.ae (by decide) (by decide), e2, if_pos rfl]
        have zt : RF [71, 72] [149, 150, 153, 154, 163, 193] h0 h3 := z.tr ((z2.wd (by decide) (by decide)).tr (z3.wd (by decide) (by decide)))
        have t71 : tgK (kd h3 148) 71 = some 0 := W3.1.tg.2.2.2.2.2.2.2.2.2.2.2.2.2.2.2.2.2.2.2.1
        simp only [(RS.ok W3.1), (RS.fr W3.1), true_and, and_true, true_or, or_true, g71]
        have two : ∀ a : Nat, (a = if cr.1 = 3 then 1 else 0) → Go (d + 6) 310 66 [some (.ref 148), some (.int x1), some (.int (ii (k2 : Nat))), some (.int (ii (j : Nat))), some (.int (ii (cr.1 : Nat)))] [.int (ii (a : Nat)), .int (ii (y.2.1 : Nat)), .ref 148] h3 Q   := fun a ha => by
          rw [b310_66, show ii (y.2.1 : Nat) + ii (a : Nat) = ii ((y.2.1 + a : Nat) : Int) from ii_add _ _]
          have s1 := RF.sF (x := ii ((y.2.1 + a : Nat) : Int)) t71
          have W4 := W3.sc s1.1 (by decide) (by decide) (by decide)
          have t72 : tgK (kd (sF h3 148 71 (.int (ii ((y.2.1 + a : Nat) : Int)))) 148) 72 = some 0 := W4.1.tg.2.2.2.2.2.2.2.2.2.2.2.2.2.2.2.2.2.2.2.2.1
          have h72 : fI (sF h3 148 71 (.int (ii ((y.2.1 + a : Nat) : Int)))) 148 72 = ii (y.2.2.1 : Nat) := by rw [s1.1.fe (by decide)]; exact g72
          simp only [W3.1.op, (RS.ok W4.1), (RS.fr W4.1), true_and, and_true, true_or, or_true, h72]
          have three : ∀ b : Nat, (b = if cr.1 < 2 then 1 else 0) → Go (d + 6) 310 86 [some (.ref 148), some (.int x1), some (.int (ii (k2 : Nat))), some (.int (ii (j : Nat))), some (.int (ii (cr.1 : Nat)))] [.int (ii (b : Nat)), .int (ii (y.2.2.1 : Nat)), .ref 148] (sF h3 148 71 (.int (ii ((y.2.1 + a : Nat) : Int)))) Q := fun b hb => by
            rw [b310_86, show ii (y.2.2.1 : Nat) + ii (b : Nat) = ii ((y.2.2.1 + b : Nat) : Int) from ii_add _ _]
            have s2 := RF.sF (x := ii ((y.2.2.1 + b : Nat) : Int)) t72
            have W5 := W4.sc s2.1 (by decide) (by decide) (by decide)
            simp only [W4.1.op]
            refine ⟨trivial, ?_⟩
            rw [b310_90, show ii (j : Nat) + ii 1 = ii ((j + 1 : Nat) : Int) from ii_add _ _]
            refine nx _ _ ⟨zt.tr ((s1.1.wd (by decide) (by decide)).tr (s2.1.wd (by decide) (by decide))), W5, ⟨by rw [xA_sF, xA_sF]; exact g8, dr_lt _⟩, ?_, ?_⟩
            · rw [s2.1.fe (by decide), s1.2, ha]
              show ii ((y.2.1 + (if cr.1 = 3 then 1 else 0) : Nat) : Int) = ii ((if cr.1 = 3 then y.2.1 + 1 else y.2.1 : Nat) : Int)
              split <;> rfl
            · rw [s2.2, hb]
              show ii ((y.2.2.1 + (if cr.1 < 2 then 1 else 0) : Nat) : Int) = ii ((if cr.1 < 2 then y.2.2.1 + 1 else y.2.2.1 : Nat) : Int)
              split <;> rfl
          by_cases c5 : cr.1 < 2
          · rw [if_neg (by rw [show ii 2 = ii (2 : Int) from rfl, ii_le (by omega) (by omega) (by omega) (by omega)]; omega)]
            exact three 1 (by rw [if_pos c5])
          · rw [if_pos (by rw [show ii 2 = ii (2 : Int) from rfl, ii_le (by omega) (by omega) (by omega) (by omega)]; omega)]
            exact three 0 (by rw [if_neg c5])
        by_cases c4 : cr.1 = 3
        · rw [if_neg (by rw [c4]; exact fun n => n rfl)]
          exact two 1 (by rw [if_pos c4])
        · rw [if_pos (by rw [show ii 3 = ii (3 : Int) from rfl, ii_eq (by omega) (by omega) (by omega) (by omega)]; omega)]
          exact two 0 (by rw [if_neg c4])
    · rintro L h' ⟨⟨l4, rfl⟩, D⟩
      have W := D.2.1
      rw [b310_9]
      simp only [(RS.ok W.1), (RS.fr W.1), true_and, and_true, true_or, or_true, W.1.l149, W.nq]
      rw [if_pos (Int32.le_refl _)]
      exact fin h' _ _ D
theorem c310 {K : mHeap → Prop} (hD : DrR h0 h l S zz) (hd : mo_d zz.2.2.2 + n ≤ 20000) (hK : ∀ h1, DrR h0 h1 l S (itr (drM l S) zz n) → K h1) : GoCv (d + 7) 310 [.ref 148, .int (ii (n : Nat))] h K := by
  rw [e310, b310_0]
  refine Go_loop (fun j L h' => (∃ l3 l4, L = [some (.ref 148), some (.int (ii (n : Nat))), some (.int (ii (j : Nat))), l3, l4]) ∧ DrR h0 h' l S (itr (drM l S) zz j)) n ?_ ?_ 0 _ h (Nat.zero_le _) ⟨⟨_, _, rfl⟩, hD⟩
  · rintro j L h' hj ⟨⟨l3, l4, rfl⟩, D⟩ nx
    rw [b310_2, if_neg (by rw [ii_le (by omega) (by omega) (by omega) (by omega)]; omega)]
    have dd := drK_d (l := l) (S := S) (zz := zz) j
    exact c310_9 D (by omega) (fun h1 l3 l4 D1 => nx _ _ ⟨⟨l3, l4, rfl⟩, D1⟩)
  · rintro L h' ⟨⟨l3, l4, rfl⟩, D⟩
    rw [b310_2, if_pos (Int32.le_refl _), rV_s]
    exact hK h' D
theorem c311 {K : Int32 → mHeap → Prop} (hI : RI h s) (hC : CsI s) (hX : pg_x (cs_P s) < 2147483648) (hx : i32 x) (hy : i32 y) (hz : i32 z) (hK : ∀ h1, RI h1 s → K (ii (vYears (cs_P s) (cs_S s) x y z)) h1) : GoCi (d + 8) 311 [.ref 148, .int (ii x), .int (ii y), .int (ii z)] h K := by
  have W := hI.w hC
  have no : ¬ (((1 ≤ x ∧ x ≤ 10) ∧ (1 ≤ y ∧ y ≤ 60) ∧ 0 ≤ z ∧ z < 3) ∧ 0 < ld_n (pg_l (cs_P s))) → K (ii (-1)) h := fun n => by
    have := hK h hI
    unfold vYears at this
    rw [if_neg n] at this
    exact this
  rw [e311, b311_0]
  (try simp only [(RS.ok W.1), (RS.fr W.1), true_and, and_true, true_or, or_true])
  rw [c186 W]
  by_cases c : 0 < ld_n (pg_l (cs_P s))
  · rw [if_pos c, if_neg (by decide)]
    rw [show jj 0 = jj (0 : Int) from rfl, show jj 1 = jj (1 : Int) from rfl, show jj 2 = jj (2 : Int) from rfl, show jj 10 = jj (10 : Int) from rfl, show jj 60 = jj (60 : Int) from rfl, cin2 hx (by decide) (by decide)]
    by_cases c2 : 1 ≤ x ∧ x ≤ 10
    · rw [if_pos c2, if_neg (by decide), cin2 hy (by decide) (by decide)]
      by_cases c3 : 1 ≤ y ∧ y ≤ 60
      · rw [if_pos c3, if_neg (by decide), cin2 hz (by decide) (by decide)]
        by_cases c4 : 0 ≤ z ∧ z ≤ 2
        · rw [if_pos c4, if_pos (by decide)]
          obtain ⟨ys, rfl⟩ := nat_of (show 0 ≤ x by omega)
          obtain ⟨n, rfl⟩ := nat_of (show 0 ≤ y by omega)
          obtain ⟨w, rfl⟩ := nat_of (show 0 ≤ z by omega)
          have kk : ∀ h1, RI h1 s → K (ii (drA (pg_l (cs_P s)) (cs_S s) (pg_m (cs_P s)) (pg_x (cs_P s)) ys n w : Nat)) h1 := fun h1 i1 => by
            have := hK h1 i1
            unfold vYears at this
            rw [if_pos (show ((1 ≤ (ys : Int) ∧ (ys : Int) ≤ 10) ∧ (1 ≤ (n : Int) ∧ (n : Int) ≤ 60) ∧ 0 ≤ (w : Int) ∧ (w : Int) < 3) ∧ 0 < ld_n (pg_l (cs_P s)) from ⟨⟨c2, c3, by omega, by omega⟩, c⟩)] at this
            exact this
          have p8 : xA h 149 8 = ii (pg_x (cs_P s) : Nat) := hI.2.2.2.2.1.2.2.2.2
          have md := hC.1.2.1.2.1
          have t71 : tgK (kd h 148) 71 = some 0 := W.1.tg.2.2.2.2.2.2.2.2.2.2.2.2.2.2.2.2.2.2.2.1
          have s1 := RF.sF (x := ii 0) t71
          have R1 := W.1.sf (x := ii 0) t71
          have t72 : tgK (kd (sF h 148 71 (.int (ii 0))) 148) 72 = some 0 := R1.tg.2.2.2.2.2.2.2.2.2.2.2.2.2.2.2.2.2.2.2.2.1
          have s2 := RF.sF (x := ii 0) t72
          have z2 : RF [71, 72] [] h (sF (sF h 148 71 (.int (ii 0))) 148 72 (.int (ii 0))) := (s1.1.wd (by decide) (by decide)).tr (s2.1.wd (by decide) (by decide))
          have g71 : fI (sF (sF h 148 71 (.int (ii 0))) 148 72 (.int (ii 0))) 148 71 = ii 0 := by rw [s2.1.fe (by decide)]; exact s1.2
          have g72 := s2.2
          simp only [(RS.ok W.1), (RS.fr W.1), true_and, and_true, true_or, or_true, W.1.l149, p8, W.1.op, R1.op]
          generalize sF (sF h 148 71 (.int (ii 0))) 148 72 (.int (ii 0)) = H at *
          have I2 : RI H s := hI.sc hC (z2.wd (by decide) (by decide))
          have W2 := I2.w hC
          (try simp only [(RS.ok W2.1), (RS.fr W2.1), true_and, and_true, true_or, or_true])
          refine c291w I2 hC (fun h1 z1 e1 p1 W1 I1 => ?_)
          have Y71 : fI h1 148 71 = ii 0 := by rw [z1.fe (by decide)]; exact g71
          have Y72 : fI h1 148 72 = ii 0 := by rw [z1.fe (by decide)]; exact g72
          have drx : ∀ k, (itr (drY (pg_l (cs_P s)) (cs_S s) (pg_m (cs_P s)) n) (pg_x (cs_P s), 0, 0, 0) k).1 < 2147483648 := by
            have dm : ∀ (a : Dz), a.1 < 2147483648 → ∀ j, (itr (drM (pg_l (cs_P s)) (cs_S s)) a j).1 < 2147483648 := by
              intro a ha j
              induction j with
              | zero => exact ha
              | succ j ih =>
                rw [itr_s]
                generalize itr (drM (pg_l (cs_P s)) (cs_S s)) a j = y at *
                show (drD (pg_l (cs_P s)) (cs_S s) y).1 < 2147483648
                unfold drD
                split
                · exact ih
                · have : ∀ q, (itr (drP (pg_l (cs_P s)) (cs_S s)) y q).1 < 2147483648 := by
                    intro q
                    induction q with
                    | zero => exact ih
                    | succ q ih2 =>
                      rw [itr_s]
                      unfold drP
                      split
                      · exact ih2
                      · exact dr_lt _
                  exact this _
            intro k
            induction k with
            | zero => exact hX
            | succ k ih =>
              rw [itr_s]
              exact dm (_, _, _, _) ih n
          refine Go_loop (fun j L h' => L = [some (.ref 148), some (.int (ii (ys : Nat))), some (.int (ii (n : Nat))), some (.int (ii (w : Nat))), some (.int (ii (pg_x (cs_P s) : Nat))), some (.int (ii ((itr (drY (pg_l (cs_P s)) (cs_S s) (pg_m (cs_P s)) n) (pg_x (cs_P s), 0, 0, 0) j).1 : Nat))), some (.int (ii ((itr (drY (pg_l (cs_P s)) (cs_S s) (pg_m (cs_P s)) n) (pg_x (cs_P s), 0, 0, 0) j).2.2.2 : Nat))), some (.int (ii (j : Nat)))] ∧ RI h' s ∧ RPg (iv h' 4) (cs_P s) ∧ fI h' 148 71 = ii ((itr (drY (pg_l (cs_P s)) (cs_S s) (pg_m (cs_P s)) n) (pg_x (cs_P s), 0, 0, 0) j).2.1 : Nat) ∧ fI h' 148 72 = ii ((itr (drY (pg_l (cs_P s)) (cs_S s) (pg_m (cs_P s)) n) (pg_x (cs_P s), 0, 0, 0) j).2.2.1 : Nat)) ys ?_ ?_ 0 _ h1 (Nat.zero_le _) ⟨rfl, I1, p1, Y71, Y72⟩
          · rintro j L h' hj ⟨rfl, I', p', f71, f72⟩ nx
            have xj := drx j
            have nx : ∀ h2 (v : Dz) (c : Nat), v = itr (drM (pg_l (cs_P s)) (cs_S s)) ((itr (drY (pg_l (cs_P s)) (cs_S s) (pg_m (cs_P s)) n) (pg_x (cs_P s), 0, 0, 0) j).1, (itr (drY (pg_l (cs_P s)) (cs_S s) (pg_m (cs_P s)) n) (pg_x (cs_P s), 0, 0, 0) j).2.1, (itr (drY (pg_l (cs_P s)) (cs_S s) (pg_m (cs_P s)) n) (pg_x (cs_P s), 0, 0, 0) j).2.2.1, pg_m (cs_P s)) n → c = (itr (drY (pg_l (cs_P s)) (cs_S s) (pg_m (cs_P s)) n) (pg_x (cs_P s), 0, 0, 0) j).2.2.2 + cB (mo_w v.2.2.2 0) 256 → RI h2 s → RPg (iv h2 4) (cs_P s) → fI h2 148 71 = ii (v.2.1 : Nat) → fI h2 148 72 = ii (v.2.2.1 : Nat) → Go (d + 7) 311 78 [some (.ref 148), some (.int (ii (ys : Nat))), some (.int (ii (n : Nat))), some (.int (ii (w : Nat))), some (.int (ii (pg_x (cs_P s) : Nat))), some (.int (ii (v.1 : Nat))), some (.int (ii (c : Nat))), some (.int (ii ((j + 1 : Nat) : Int)))] [] h2 (rI K) := fun h2 v c hv hc i2 p2 a71 a72 => nx _ _ ⟨by rw [itr_s, hc, hv]; rfl, i2, p2, by rw [itr_s, a71, hv]; rfl, by rw [itr_s, a72, hv]; rfl⟩
            generalize itr (drY (pg_l (cs_P s)) (cs_S s) (pg_m (cs_P s)) n) (pg_x (cs_P s), 0, 0, 0) j = y at *
            have W' := I'.w hC
            have e8 : ∀ r, xA (sI h' 149 (ii 8) (ii (y.1 : Nat))) r = if 149 = r then upf (xA h' 149) 8 (ii (y.1 : Nat)) else xA h' r := fun r => W'.1.s149 (i := 8) (by decide)
            have z3 : RF [] [149] h' (sI h' 149 (ii 8) (ii (y.1 : Nat))) := RF.sI
            have W3 : Rw (sI h' 149 (ii 8) (ii (y.1 : Nat))) (pg_l (cs_P s)) (pg_m (cs_P s)) (cs_S s) := W'.mv z3 (by decide) (by decide) (by decide) (fun i _ _ _ i8 => by rw [e8, if_pos rfl]; unfold upf; rw [if_neg i8]) (by
              have rm := W'.2.2.1.1
              unfold RMv at rm ⊢
              rw [lv_x (by decide), lv_x (by decide), lv_x (by decide), lv_x (by decide), lv_x (by decide)] at rm ⊢
              rw [e8, e8, e8, e8, e8, if_pos rfl, if_neg (by decide), if_neg (by decide), if_neg (by decide), if_neg (by decide)]
              unfold upf
              rw [if_neg (by decide), if_neg (by decide)]
              exact rm) W'.mj
            rw [b311_78, if_neg (by rw [ii_le (by omega) (by omega) (by omega) (by omega)]; omega)]
            simp only [(RS.ok W'.1), (RS.fr W'.1), true_and, and_true, true_or, or_true, W'.1.l149, (RS.ok W3.1), (RS.fr W3.1), true_and, and_true, true_or, or_true]
            refine ⟨by decide, ?_⟩
            have D0 : DrR (sI h' 149 (ii 8) (ii (y.1 : Nat))) (sI h' 149 (ii 8) (ii (y.1 : Nat))) (pg_l (cs_P s)) (cs_S s) (y.1, y.2.1, y.2.2.1, pg_m (cs_P s)) := ⟨RF.rf, W3, ⟨by rw [e8, if_pos rfl]; unfold upf; rw [if_pos rfl], xj⟩, by rw [z3.fe (by decide)]; exact f71, by rw [z3.fe (by decide)]; exact f72⟩
            refine c310 D0 (by show mo_d (pg_m (cs_P s)) + n ≤ 20000; omega) (fun h4 D4 => ?_)
            have nx := nx
            generalize itr (drM (pg_l (cs_P s)) (cs_S s)) (y.1, y.2.1, y.2.2.1, pg_m (cs_P s)) n = v at *
            obtain ⟨z4, W4, ⟨g8, x8⟩, h71, h72⟩ := D4
            (try simp only [(RS.ok W4.1), (RS.fr W4.1), true_and, and_true, true_or, or_true])
            rw [show ii 6 = ii ((6 : Nat) : Int) from rfl, c246 W4.1 (by decide), W4.br]
            simp only [(RS.ok W4.1), (RS.fr W4.1), true_and, and_true, true_or, or_true, W4.1.l149, g8]
            have zf : RF (59 :: scF) (200 :: (pgR ++ scR)) h' h4 := (z3.wd (by decide) (by decide)).tr (z4.wd (by decide) (by decide))
            have a200 : xA h4 200 = xA h' 200 := by rw [z4.ae (by decide) (by decide), z3.ae (by decide) (by decide)]
            refine c292w I' hC zf (fun i _ => by rw [a200]) (RPg_cong p' hC.1.1 (by rw [iv_at, iv_at, a200]) (fun r i _ _ _ _ _ _ _ => by rw [iv_at, iv_at, a200])) (fun h5 z5 e5 I5 => ?_)
            rw [show ii (j : Nat) + ii 1 = ii ((j + 1 : Nat) : Int) from ii_add _ _, ii_add]
            exact nx h5 v (y.2.2.2 + cB (mo_w v.2.2.2 0) 256) rfl rfl I5 (RPg_cong p' hC.1.1 (by rw [iv_at, iv_at, e5, a200]) (fun r i _ _ _ _ _ _ _ => by rw [iv_at, iv_at, e5, a200])) (by rw [z5.fe (by decide)]; exact h71) (by rw [z5.fe (by decide)]; exact h72)
          · rintro L h' ⟨rfl, I', p', f71, f72⟩
            have W' := I'.w hC
            have e8 : ∀ r, xA (sI h' 149 (ii 8) (ii (pg_x (cs_P s) : Nat))) r = if 149 = r then upf (xA h' 149) 8 (ii (pg_x (cs_P s) : Nat)) else xA h' r := fun r => W'.1.s149 (i := 8) (by decide)
            have hP := I'.2.2.2.2.1
            have z3 : RF [] [149] h' (sI h' 149 (ii 8) (ii (pg_x (cs_P s) : Nat))) := RF.sI
            have I3 : RI (sI h' 149 (ii 8) (ii (pg_x (cs_P s) : Nat))) s := I'.p9 (t' := pg_t (cs_P s)) (x' := pg_x (cs_P s)) hC (z3.wd (by decide) (by decide)) (fun i _ i8 => by rw [e8, if_pos rfl]; unfold upf; rw [if_neg i8]) ⟨by
              show xA _ 149 7 = _
              rw [e8, if_pos rfl]; unfold upf; rw [if_neg (by decide)]
              exact hP.2.2.2.1.1, hP.2.2.2.1.2.1, fun i hi => by
              rw [lv_x (by decide), lv_x (by decide), e8, e8, if_neg (by decide), if_neg (by decide)]
              exact hP.2.2.2.1.2.2 i hi⟩ (by rw [e8, if_pos rfl]; unfold upf; rw [if_pos rfl])
            have kk := kk _ I3
            unfold drA at kk
            have R3 := I3.1.1
            have a71 : fI (sI h' 149 (ii 8) (ii (pg_x (cs_P s) : Nat))) 148 71 = fI h' 148 71 := z3.fe (by decide)
            have a72 : fI (sI h' 149 (ii 8) (ii (pg_x (cs_P s) : Nat))) 148 72 = fI h' 148 72 := z3.fe (by decide)
            rw [b311_78, if_pos (Int32.le_refl _)]
            simp only [(RS.ok W'.1), (RS.fr W'.1), true_and, and_true, true_or, or_true, W'.1.l149, (RS.ok R3), (RS.fr R3), true_and, and_true, true_or, or_true, a71, a72, f71, f72, rI_s]
            refine ⟨by decide, ?_⟩
            by_cases c5 : w = 0
            · rw [if_neg (by rw [c5]; exact fun n => n rfl)]
              rw [if_pos c5] at kk
              exact kk
            · rw [if_pos (by rw [show ii 0 = ii (0 : Int) from rfl, ii_eq (by omega) (by omega) (by omega) (by omega)]; omega)]
              rw [if_neg c5] at kk
              by_cases c6 : w = 1
              · rw [if_neg (by rw [c6]; exact fun n => n rfl)]
                rw [if_pos c6] at kk
                exact kk
              · rw [if_pos (by rw [show ii 1 = ii (1 : Int) from rfl, ii_eq (by omega) (by omega) (by omega) (by omega)]; omega)]
                rw [if_neg c6] at kk
                exact kk
        · rw [if_neg c4, if_neg (by decide), rI_s]
          exact no (fun g => c4 ⟨g.1.2.2.1, by omega⟩)
      · rw [if_neg c3, if_pos rfl, rI_s]
        exact no (fun g => c3 g.1.2.1)
    · rw [if_neg c2, if_pos rfl, rI_s]
      exact no (fun g => c2 g.1.1)
  · rw [if_neg c, if_pos rfl, rI_s]
    exact no (fun g => c g.2)
end Sj
