/-! THE REFERENCE: walk -/
section Se2
variable {d : Nat} {h h1 h0 : mHeap} {l : Ld} {m m' : Mo} {S : List Wd} {P : Pg} {s : Cs} {K : Int32 → mHeap → Prop} {x y z : Int} {q k n o set p : Nat} {v : Wd} {Q : Option Value → mHeap → Prop}
theorem lkW_lt (W : Rw h (pg_l P) (pg_m P) S) (hq : q < (ld_q (pg_l P)).length) : ∀ k w, lkW P q set k w = true → w < 2 ^ ld_n (pg_l P) := by
  have q6 := W.q6
  intro k
  induction k with
  | zero => exact fun w hw => W.mj.2.2.2 (q + 1) w (by omega) hw
  | succ k ih =>
    intro w hw
    rw [lkW_s] at hw
    unfold lkF at hw
    by_cases c : set.testBit k = true
    · rw [if_pos c] at hw
      exact seeW_W2 ih w hw
    · rw [if_neg c] at hw
      exact ih w hw
theorem c301_b {x2 : Int32} {b : Int × Nat} {l6 : Option Value} (hI : RI h s) (hC : CsI s) (hP4 : RPg (iv h 4) (cs_P s)) (hX : ∀ i, ry (pg_l (cs_P s)) i ≤ 100000) (hF : FaR h (ry (pg_l (cs_P s)))) (hH : HrR h (pg_l (cs_P s)) (2 ^ (ld_p (pg_l (cs_P s))).length)) (hq : q < (ld_q (pg_l (cs_P s))).length) (hset : set < 2 ^ (ld_p (pg_l (cs_P s))).length) (hb2 : b.2 ≤ 25) (hG : ∀ h1 l6, RI h1 s → RPg (iv h1 4) (cs_P s) → FaR h1 (ry (pg_l (cs_P s))) → HrR h1 (pg_l (cs_P s)) (2 ^ (ld_p (pg_l (cs_P s))).length) → Go (d + 5) 301 47 [some (.ref 148), some (.int (ii (q : Nat))), some (.int x2), some (.int (ii (wkF (cs_S s) (cs_P s) q (brg (cs_S s) (cs_P s) (mo_w (pg_m (cs_P s)) 0) q) b set).1)), some (.int (ii ((wkF (cs_S s) (cs_P s) q (brg (cs_S s) (cs_P s) (mo_w (pg_m (cs_P s)) 0) q) b set).2 : Nat))), some (.int (ii ((set + 1 : Nat) : Int))), l6] [] h1 Q) : Go (d + 5) 301 47 [some (.ref 148), some (.int (ii (q : Nat))), some (.int x2), some (.int (ii b.1)), some (.int (ii (b.2 : Nat))), some (.int (ii (set : Nat))), l6] [] h Q := by
  have W := hI.w hC
  have q6 := W.q6
  have p6 := W.p6
  have n8 := W.n8
  have p64 := p2_64 p6
  have same : ∀ l6, ¬ (wkH (cs_P s) set < b.2 ∧ ¬ knw (cs_S s) (lkW (cs_P s) q set (ld_p (pg_l (cs_P s))).length) (brg (cs_S s) (cs_P s) (mo_w (pg_m (cs_P s)) 0) q) = 0) → ∀ h1, RI h1 s → RPg (iv h1 4) (cs_P s) → FaR h1 (ry (pg_l (cs_P s))) → HrR h1 (pg_l (cs_P s)) (2 ^ (ld_p (pg_l (cs_P s))).length) → Go (d + 5) 301 154 [some (.ref 148), some (.int (ii (q : Nat))), some (.int x2), some (.int (ii b.1)), some (.int (ii (b.2 : Nat))), some (.int (ii (set : Nat))), l6] [] h1 Q := fun l6 n h1 I1 P1 F1 H1 => by
    rw [b301_154, show ii (set : Nat) + ii 1 = ii ((set + 1 : Nat) : Int) from ii_add _ _]
    have := hG h1 l6 I1 P1 F1 H1
    unfold wkF at this
    rw [if_neg n] at this
    exact this
  obtain ⟨a, c, ea, ec, hac⟩ : ∃ a c : Nat, wkH (cs_P s) set = a ∧ rwk (ry (pg_l (cs_P s))) 0 set = c ∧ Qe a c := ⟨_, _, rfl, rfl, wkH_Q hC.1.1 hset⟩
  have c5 : c ≤ 100000 := by rw [← ec]; exact rwk_le hX (by omega)
  rw [ea] at same
  rw [b301_47]
  simp only [(RS.ok W.1), (RS.fr W.1), true_and, and_true, true_or, or_true, W.1.l149, W.np]
  rw [shl1 (by omega), if_neg (by rw [ii_le (by omega) (by omega) (by omega) (by omega)]; omega)]
  rw [c300 W hX hF hH hset, ec]
  by_cases cc : c < b.2
  · have hac2 : a = c := by
      unfold Qe at hac
      omega
    rw [if_neg (by rw [ii_le (by omega) (by omega) (by omega) (by omega)]; omega)]
    refine Go_loop (fun k L h' => L = [some (.ref 148), some (.int (ii (q : Nat))), some (.int x2), some (.int (ii b.1)), some (.int (ii (b.2 : Nat))), some (.int (ii (set : Nat))), some (.int (ii (k : Nat)))] ∧ Hw h h' q (lkW (cs_P s) q set k)) (ld_p (pg_l (cs_P s))).length ?_ ?_ 0 _ h (Nat.zero_le _) ⟨rfl, RF.rf, (W.mo hq).2.2.2, fun _ _ => rfl⟩
    · rintro k L h' hk ⟨rfl, z⟩ nx
      have W1 := z.hw W (Or.inl hq) (lkW_lt W hq k)
      rw [if_neg (show ¬ q = 6 by omega)] at W1
      rw [b301_74]
      simp only [(RS.ok W1.1), (RS.fr W1.1), true_and, and_true, true_or, or_true, W1.1.l149, W1.np]
      rw [if_neg (by rw [ii_le (by omega) (by omega) (by omega) (by omega)]; omega), c185 (by omega), wb_ii (by omega)]
      cases e : set.testBit k with
      | false =>
        rw [if_neg Bool.false_ne_true, if_pos rfl, b301_107, show ii (k : Nat) + ii 1 = ii ((k + 1 : Nat) : Int) from ii_add _ _]
        refine nx _ _ ⟨rfl, ?_⟩
        rw [lkW_s]
        unfold lkF
        rw [if_neg (by rw [e]; exact Bool.false_ne_true)]
        exact z
      | true =>
        rw [if_pos rfl, if_neg (by decide)]
        simp only [(RS.ok W1.1), (RS.fr W1.1), true_and, and_true, true_or, or_true, W1.1.x155 (show k < 6 by omega), W1.pp hk]
        have fl := (ld_p_lt W.ok hk).1
        refine c253 W1 (by omega) fl (fun w hw => by rw [z.2.1] at hw; exact lkW_lt W hq k w hw) (fun h2 z2 => ?_)
        rw [b301_107, show ii (k : Nat) + ii 1 = ii ((k + 1 : Nat) : Int) from ii_add _ _]
        refine nx _ _ ⟨rfl, z.1.tr z2.1, ?_, fun b hb => (z2.2.2 b hb).trans (z.2.2 b hb)⟩
        rw [z2.2.1, z.2.1, lkW_s]
        unfold lkF
        rw [if_pos e]
        rfl
    · rintro L h' ⟨rfl, z⟩
      have W1 := z.hw W (Or.inl hq) (lkW_lt W hq _)
      rw [if_neg (show ¬ q = 6 by omega)] at W1
      rw [b301_74]
      simp only [(RS.ok W1.1), (RS.fr W1.1), true_and, and_true, true_or, or_true, W1.1.l149, W1.np]
      rw [if_pos (Int32.le_refl _), c290 W1 hq]
      have ck := cO_kn (P := cs_P s) (S := cs_S s) (m' := mo_sw (pg_m (cs_P s)) (q + 1) (lkW (cs_P s) q set (ld_p (pg_l (cs_P s))).length)) (q := q) rfl rfl
      have w1 : mo_w (mo_sw (pg_m (cs_P s)) (q + 1) (lkW (cs_P s) q set (ld_p (pg_l (cs_P s))).length)) (q + 1) = lkW (cs_P s) q set (ld_p (pg_l (cs_P s))).length := by
        show upf (mo_w (pg_m (cs_P s))) (q + 1) (lkW (cs_P s) q set (ld_p (pg_l (cs_P s))).length) (q + 1) = _
        unfold upf
        rw [if_pos rfl]
      have w0 : mo_w (mo_sw (pg_m (cs_P s)) (q + 1) (lkW (cs_P s) q set (ld_p (pg_l (cs_P s))).length)) 0 = mo_w (pg_m (cs_P s)) 0 := by
        show upf (mo_w (pg_m (cs_P s))) (q + 1) (lkW (cs_P s) q set (ld_p (pg_l (cs_P s))).length) 0 = _
        unfold upf
        rw [if_neg (by omega)]
      rw [w1, w0] at ck
      (try simp only [(RS.ok W1.1), (RS.fr W1.1), true_and, and_true, true_or, or_true])
      refine c292w hI hC (z.1.wd (by decide) (by decide)) (fun i _ => by rw [z.1.ae (by decide) (by decide)]) (RPg_cong hP4 hC.1.1 (by rw [iv_at, iv_at, z.1.ae (by decide) (by decide)]) (fun r i _ _ _ _ _ _ _ => by rw [iv_at, iv_at, z.1.ae (by decide) (by decide)])) (fun h3 z3 e3 I3 => ?_)
      have P3 : RPg (iv h3 4) (cs_P s) := RPg_cong hP4 hC.1.1 (by rw [iv_at, iv_at, e3, z.1.ae (by decide) (by decide)]) (fun r i _ _ _ _ _ _ _ => by rw [iv_at, iv_at, e3, z.1.ae (by decide) (by decide)])
      have F3 : FaR h3 (ry (pg_l (cs_P s))) := fun i hi => by rw [z3.ae (by decide) (by decide), z.1.ae (by decide) (by decide)]; exact hF i hi
      have H3 : HrR h3 (pg_l (cs_P s)) (2 ^ (ld_p (pg_l (cs_P s))).length) := fun st k h1 h2 => by rw [z3.ae (by decide) (by decide), z.1.ae (by decide) (by decide)]; exact hH st k h1 h2
      have W3 := I3.w hC
      cases e2 : cO (pg_l (cs_P s)) (mo_sw (pg_m (cs_P s)) (q + 1) (lkW (cs_P s) q set (ld_p (pg_l (cs_P s))).length)) (cs_S s) q with
      | false =>
        rw [if_neg Bool.false_ne_true, if_pos rfl, b301_140, if_pos rfl, b301_153]
        exact same _ (fun g => by have := ck.mpr g.2; rw [e2] at this; cases this) h3 I3 P3 F3 H3
      | true =>
        rw [if_pos rfl, if_neg (by decide)]
        (try simp only [(RS.ok W3.1), (RS.fr W3.1), true_and, and_true, true_or, or_true])
        rw [c300 W3 hX F3 H3 hset, ec, b301_140, if_neg (by decide), b301_153, b301_154, show ii (set : Nat) + ii 1 = ii ((set + 1 : Nat) : Int) from ii_add _ _]
        have := hG h3 (some (.int (ii 1))) I3 P3 F3 H3
        unfold wkF at this
        rw [ea, if_pos ⟨by omega, ck.mp e2⟩, hac2] at this
        exact this
  · rw [if_pos (by rw [ii_le (by omega) (by omega) (by omega) (by omega)]; omega)]
    exact same _ (fun g => by
      have g1 := g.1
      unfold Qe at hac
      omega) h hI hP4 hF hH
theorem c301 (hI : RI h s) (hC : CsI s) (hx : i32 x) (hy : i32 y) (hK : ∀ h1, RI h1 s → K (ii (vWalk (cs_P s) (cs_S s) x y)) h1) : GoCi (d + 6) 301 [.ref 148, .int (ii x), .int (ii y)] h K := by
  have W := hI.w hC
  have q6 := W.q6
  have p6 := W.p6
  unfold vWalk at hK
  rw [e301, b301_0]
  (try simp only [(RS.ok W.1), (RS.fr W.1), true_and, and_true, true_or, or_true])
  rw [c187 W hx]
  by_cases c : 0 ≤ x ∧ x < (ld_q (pg_l (cs_P s))).length
  · rw [if_pos c, if_neg (by decide)]
    rw [show jj 0 = jj (0 : Int) from rfl, show jj 1 = jj (1 : Int) from rfl, cin2 hy (by decide) (by decide)]
    by_cases c2 : 0 ≤ y ∧ y ≤ 1
    · rw [if_pos c2, if_pos (by decide)]
      rw [if_pos (show isPe (cs_P s) x ∧ 0 ≤ y ∧ y < 2 from ⟨c, by omega, by omega⟩)] at hK
      obtain ⟨q, rfl⟩ := nat_of c.1
      obtain ⟨w, rfl⟩ := nat_of c2.1
      have hq : q < (ld_q (pg_l (cs_P s))).length := by omega
      have hK : ∀ h1, RI h1 s → K (ii (wkA (cs_S s) (cs_P s) q w)) h1 := hK
      have p64 := p2_64 p6
      (try simp only [(RS.ok W.1), (RS.fr W.1), true_and, and_true, true_or, or_true])
      refine c299 W (fun h0 z0 hX F0 H0 => ?_)
      have I0 : RI h0 s := hI.sc hC (z0.wd (by decide) (by decide))
      have W0 := I0.w hC
      have hh := W0.mj.2.2.1 q
      simp only [(RS.ok W0.1), (RS.fr W0.1), true_and, and_true, true_or, or_true, W0.1.x153 (show q < 6 by omega), W0.mo hq]
      refine c291w I0 hC (fun h1 z1 e1 p1 W1 I1 => ?_)
      have F1 : FaR h1 (ry (pg_l (cs_P s))) := fun i hi => by rw [z1.ae (by decide) (by decide)]; exact F0 i hi
      have H1 : HrR h1 (pg_l (cs_P s)) (2 ^ (ld_p (pg_l (cs_P s))).length) := fun st k h1 h2 => by rw [z1.ae (by decide) (by decide)]; exact H0 st k h1 h2
      rw [show ii 24 - ii (mo_h (pg_m (cs_P s)) q : Nat) + ii 1 = ii ((25 - mo_h (pg_m (cs_P s)) q : Nat) : Int) by rw [ii_sub, ii_add]; exact congrArg ii (by omega)]
      have bb : ∀ k, k ≤ 2 ^ (ld_p (pg_l (cs_P s))).length → ((itr (wkF (cs_S s) (cs_P s) q (brg (cs_S s) (cs_P s) (mo_w (pg_m (cs_P s)) 0) q)) (-2, 25 - mo_h (pg_m (cs_P s)) q) k).1 = -2 ∨ ∃ j : Nat, (itr (wkF (cs_S s) (cs_P s) q (brg (cs_S s) (cs_P s) (mo_w (pg_m (cs_P s)) 0) q)) (-2, 25 - mo_h (pg_m (cs_P s)) q) k).1 = j ∧ j < 64) ∧ (itr (wkF (cs_S s) (cs_P s) q (brg (cs_S s) (cs_P s) (mo_w (pg_m (cs_P s)) 0) q)) (-2, 25 - mo_h (pg_m (cs_P s)) q) k).2 ≤ 25 := by
        intro k
        induction k with
        | zero => intro _; exact ⟨Or.inl rfl, by show 25 - _ ≤ 25; omega⟩
        | succ k ih =>
          intro hk
          rw [itr_s]
          have ih := ih (by omega)
          generalize itr (wkF (cs_S s) (cs_P s) q (brg (cs_S s) (cs_P s) (mo_w (pg_m (cs_P s)) 0) q)) (-2, 25 - mo_h (pg_m (cs_P s)) q) k = b at *
          unfold wkF
          split
          · rename_i g
            exact ⟨Or.inr ⟨k, rfl, by omega⟩, Nat.le_trans (Nat.le_of_lt g.1) ih.2⟩
          · exact ih
      refine Go_loop (fun k L h' => (∃ l6, L = [some (.ref 148), some (.int (ii (q : Nat))), some (.int (ii (w : Nat))), some (.int (ii (itr (wkF (cs_S s) (cs_P s) q (brg (cs_S s) (cs_P s) (mo_w (pg_m (cs_P s)) 0) q)) (-2, 25 - mo_h (pg_m (cs_P s)) q) k).1)), some (.int (ii ((itr (wkF (cs_S s) (cs_P s) q (brg (cs_S s) (cs_P s) (mo_w (pg_m (cs_P s)) 0) q)) (-2, 25 - mo_h (pg_m (cs_P s)) q) k).2 : Nat))), some (.int (ii (k : Nat))), l6]) ∧ RI h' s ∧ RPg (iv h' 4) (cs_P s) ∧ FaR h' (ry (pg_l (cs_P s))) ∧ HrR h' (pg_l (cs_P s)) (2 ^ (ld_p (pg_l (cs_P s))).length)) (2 ^ (ld_p (pg_l (cs_P s))).length) ?_ ?_ 0 _ h1 (Nat.zero_le _) ⟨⟨none, rfl⟩, I1, p1, F1, H1⟩
      · rintro k L h' hk ⟨⟨l6, rfl⟩, I', p', F', H'⟩ nx
        have b0 := bb k (by omega)
        refine c301_b I' hC p' hX F' H' hq hk b0.2 (fun h2 l6 I2 p2 F2 H2 => nx _ _ ⟨⟨l6, ?_⟩, I2, p2, F2, H2⟩)
        rw [itr_s]
      · rintro L h' ⟨⟨l6, rfl⟩, I', p', F', H'⟩
        have W' := I'.w hC
        have b0 := bb _ (Nat.le_refl _)
        rw [b301_47]
        simp only [(RS.ok W'.1), (RS.fr W'.1), true_and, and_true, true_or, or_true, W'.1.l149, W'.np]
        rw [shl1 (by omega), if_pos (Int32.le_refl _)]
        have kk := hK h' I'
        unfold wkA wkV at kk
        generalize itr (wkF (cs_S s) (cs_P s) q (brg (cs_S s) (cs_P s) (mo_w (pg_m (cs_P s)) 0) q)) (-2, 25 - mo_h (pg_m (cs_P s)) q) (2 ^ (ld_p (pg_l (cs_P s))).length) = b at *
        by_cases c6 : b.1 = -2
        · rw [if_pos (by rw [c6]), rI_s]
          rw [if_pos (Or.inr c6)] at kk
          exact kk
        · rcases b0.1 with g | ⟨j, j1, j2⟩
          · exact absurd g c6
          · rw [if_neg (by rw [j1, show ii (-2) = ii (-2 : Int) from rfl, ii_eq (by omega) (by omega) (by omega) (by omega)]; omega)]
            by_cases c7 : w = 1
            · rw [if_neg (by rw [c7]; exact fun n => n rfl), rI_s]
              rw [if_pos (Or.inl c7)] at kk
              exact kk
            · rw [if_pos (by rw [show ii 1 = ii (1 : Int) from rfl, ii_eq (by omega) (by omega) (by omega) (by omega)]; omega), rI_s]
              rw [if_neg (fun g => g.elim c7 c6)] at kk
              exact kk
    · rw [if_neg c2, if_neg (by decide), rI_s]
      have := hK h hI
      rw [if_neg (fun g => c2 ⟨g.2.1, by omega⟩)] at this
      exact this
  · rw [if_neg c, if_pos rfl, rI_s]
    have := hK h hI
    rw [if_neg (fun g => c g.1)] at this
    exact this
end Se2
