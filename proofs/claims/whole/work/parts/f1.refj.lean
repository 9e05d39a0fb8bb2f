/-! THE REFERENCE: truths bought -/
section Sb
variable {d : Nat} {h h1 h0 : mHeap} {l : Ld} {m m' : Mo} {S : List Wd} {P : Pg} {s : Cs} {K : Int32 → mHeap → Prop} {x y z : Int} {q k n o set : Nat} {v : Wd} {F R : List Nat} {Q : Option Value → mHeap → Prop}
theorem gO_kn (e1 : mo_l m' q = mo_l (pg_m P) q) (e2 : mo_f m' = mo_f (pg_m P)) (hk : k < S.length) : (knw S (mo_w m' (q + 1)) (brg S P (mo_w m' 0) q)).testBit k = gO (pg_l P) m' S q k := by
  unfold knw gO
  rw [btO_bit, decide_eq_true hk, Bool.true_and, e1, e2]
  unfold brg
  cases c : mo_l (pg_m P) q with
  | true =>
    rw [if_pos rfl, Nat.zero_testBit]
    rfl
  | false =>
    rw [if_neg Bool.false_ne_true, btO_bit, decide_eq_true hk, Bool.true_and]
    unfold brB gainW
    cases sy S k (mo_f (pg_m P)) <;> cases subB (mo_w m' (q + 1)) (sy S k) <;> simp
theorem cO_kn (e1 : mo_l m' q = mo_l (pg_m P) q) (e2 : mo_f m' = mo_f (pg_m P)) : (cO (pg_l P) m' S q = true) ↔ ¬ knw S (mo_w m' (q + 1)) (brg S P (mo_w m' 0) q) = 0 := by
  unfold cO
  rw [List.any_eq_true]
  constructor
  · rintro ⟨k, hk, g⟩ e
    have hk := List.mem_range.mp hk
    rw [← gO_kn e1 e2 hk, e, Nat.zero_testBit] at g
    cases g
  · intro g
    apply Classical.byContradiction
    intro n
    apply g
    apply Nat.eq_of_testBit_eq
    intro i
    rw [Nat.zero_testBit]
    by_cases c : i < S.length
    · rw [gO_kn e1 e2 c]
      cases e : gO (pg_l P) m' S q i with
      | false => rfl
      | true => exact absurd ⟨i, List.mem_range.mpr c, e⟩ n
    · unfold knw
      rw [btO_bit, decide_eq_false c, Bool.false_and]
theorem c302_130 {x1 x2 x3 x4 x6 : Int32} (hR : RS h) (hq : q < 7) (ho : o < 7) (ne : ¬ o = q) (hset : set < 64) (ho6 : o < 6) (hG : ∀ h1 x8, Hw h h1 q (if set.testBit o = true then capW (rw8 (xA h 163) q) (rw8 (xA h 163) o) else rw8 (xA h 163) q) → Go (d + 1) 302 116 [some (.ref 148), some (.int (ii (q : Nat))), some (.int x2), some (.int x3), some (.int x4), some (.int (ii (set : Nat))), some (.int x6), some (.int (ii ((o + 1 : Nat) : Int))), x8] [] h1 Q) : Go (d + 1) 302 130 [some (.ref 148), some (.int (ii (q : Nat))), some (.int x2), some (.int x3), some (.int x4), some (.int (ii (set : Nat))), some (.int x6), some (.int (ii (o : Nat))), some (.int (ii 0))] [] h Q := by
  cases c : set.testBit o with
  | false =>
    rw [b302_130, if_neg (by decide), c185 (by omega), wb_ii (by omega), c, if_neg Bool.false_ne_true, if_pos rfl, b302_181, show ii (o : Nat) + ii 1 = ii ((o + 1 : Nat) : Int) from ii_add _ _]
    rw [c] at hG
    exact hG h _ ⟨RF.rf, by rw [if_neg Bool.false_ne_true], fun _ _ => rfl⟩
  | true =>
    rw [c] at hG
    rw [if_pos rfl] at hG
    refine Go_loop (fun j L h' => L = [some (.ref 148), some (.int (ii (q : Nat))), some (.int x2), some (.int x3), some (.int x4), some (.int (ii (set : Nat))), some (.int x6), some (.int (ii (o : Nat))), some (.int (ii (j : Nat)))] ∧ RF [] [163] h h' ∧ (∀ b, ¬ b = q → rw8 (xA h' 163) b = rw8 (xA h 163) b) ∧ ∀ w, rw8 (xA h' 163) q w = if w < 32 * j then rw8 (xA h 163) q w && rw8 (xA h 163) o w else rw8 (xA h 163) q w) 8 ?_ ?_ 0 _ h (Nat.zero_le _) ⟨rfl, RF.rf, fun _ _ => rfl, fun w => by rw [if_neg (by omega)]⟩
    · rintro j L h' hj ⟨rfl, z, x1, x2⟩ nx
      have hR' : RS h' := z.rs hR (by decide)
      rw [b302_130]
      rw [if_neg (by rw [show ii 8 = ii (8 : Int) from rfl, ii_le (by omega) (by omega) (by omega) (by omega)]; omega)]
      rw [c185 (by omega), wb_ii (by omega), c, if_pos rfl, if_neg (by decide)]
      simp only [(RS.ok hR'), (RS.fr hR'), true_and, and_true, true_or, or_true, ix8, hR'.x163 (show 8 * q + j < 56 by omega), hR'.x163 (show 8 * o + j < 56 by omega)]
      refine ⟨by decide, ?_⟩
      rw [show ii (j : Nat) + ii 1 = ii ((j + 1 : Nat) : Int) from ii_add _ _]
      refine nx _ _ ⟨rfl, z.tr RF.sI, fun b hb => ?_, fun w => ?_⟩
      · rw [hR'.s163 (show 8 * q + j < 56 by omega), if_pos rfl, rw8_up_o hj hb]
        exact x1 b hb
      · rw [hR'.s163 (show 8 * q + j < 56 by omega), if_pos rfl, rw8_up hj]
        by_cases c : w < 256 ∧ w / 32 = j
        · rw [if_pos c, wb_and, if_pos (by omega)]
          have g2 : wb (xA h' 163 (8 * q + j)) (w % 32) = wb (xA h 163 (8 * q + j)) (w % 32) := by
            have := x2 (32 * j + w % 32)
            rw [if_neg (by omega), rw8_at hj (by omega), rw8_at hj (by omega)] at this
            exact this
          have g3 : wb (xA h' 163 (8 * o + j)) (w % 32) = wb (xA h 163 (8 * o + j)) (w % 32) := by
            have := congrFun (x1 o ne) (32 * j + w % 32)
            rw [rw8_at hj (by omega), rw8_at hj (by omega)] at this
            exact this
          rw [g2, g3]
          rw [show w = 32 * j + w % 32 by omega, rw8_at hj (by omega), rw8_at hj (by omega), show (32 * j + w % 32) % 32 = w % 32 by omega]
        · rw [if_neg c, x2]
          by_cases c2 : w < 32 * j
          · rw [if_pos c2, if_pos (by omega)]
          · rw [if_neg c2]
            by_cases c3 : w < 32 * (j + 1)
            · exact absurd (show w < 256 ∧ w / 32 = j from ⟨by omega, by omega⟩) c
            · rw [if_neg c3]
    · rintro L h' ⟨rfl, z, x1, x2⟩
      rw [b302_130, if_pos (show ii 8 ≤ ii ((8 : Nat) : Int) by decide), b302_181, show ii (o : Nat) + ii 1 = ii ((o + 1 : Nat) : Int) from ii_add _ _]
      refine hG h' _ ⟨z, ?_, x1⟩
      funext w
      rw [x2]
      unfold capW
      by_cases c : w < 32 * 8
      · rw [if_pos c, decide_eq_true (show w < 256 by omega), Bool.true_and]
      · rw [if_neg c, decide_eq_false (show ¬ w < 256 by omega), Bool.false_and]
        exact rw8_ge (by omega)
def lst (b : Int × Nat) : Nat := if b.1 = -2 then 100000 else b.2
theorem lnW_lt (W : Rw h (pg_l P) (pg_m P) S) (hq : q < (ld_q (pg_l P)).length) : ∀ k w, lnW P q set k w = true → w < 2 ^ ld_n (pg_l P) := by
  have q6 := W.q6
  intro k
  induction k with
  | zero => exact fun w hw => W.mj.2.2.2 (q + 1) w (by omega) hw
  | succ k ih =>
    intro w hw
    have e : lnW P q set (k + 1) = lnF P set (lnW P q set k) k := rfl
    rw [e] at hw
    unfold lnF at hw
    by_cases c : set.testBit k = true
    · rw [if_pos c] at hw
      exact capW_W2 ih w hw
    · rw [if_neg c] at hw
      exact ih w hw
theorem c302_b {x2 : Int32} {b : Int × Nat} {l6 l7 l8 : Option Value} (hI : RI h s) (hC : CsI s) (hP4 : RPg (iv h 4) (cs_P s)) (hq : q < (ld_q (pg_l (cs_P s))).length) (hset : set < 2 ^ (ld_q (pg_l (cs_P s))).length) (hb1 : b.1 = -2 ∨ ∃ k : Nat, b.1 = k ∧ k < 64) (hb2 : b.2 ≤ 1000) (hG : ∀ h1 l6 l7 l8, RI h1 s → RPg (iv h1 4) (cs_P s) → Go (d + 5) 302 35 [some (.ref 148), some (.int (ii (q : Nat))), some (.int x2), some (.int (ii (bgF (cs_S s) (cs_P s) q (brg (cs_S s) (cs_P s) (mo_w (pg_m (cs_P s)) 0) q) b set).1)), some (.int (ii (lst (bgF (cs_S s) (cs_P s) q (brg (cs_S s) (cs_P s) (mo_w (pg_m (cs_P s)) 0) q) b set) : Nat))), some (.int (ii ((set + 1 : Nat) : Int))), l6, l7, l8] [] h1 Q) : Go (d + 5) 302 35 [some (.ref 148), some (.int (ii (q : Nat))), some (.int x2), some (.int (ii b.1)), some (.int (ii (lst b : Nat))), some (.int (ii (set : Nat))), l6, l7, l8] [] h Q := by
  have W := hI.w hC
  have q6 := W.q6
  have p64 : 2 ^ (ld_q (pg_l (cs_P s))).length ≤ 2 ^ 6 := p2_6 q6
  have pl := prS_le hC.1.1 set
  have lb : lst b ≤ 100000 := by unfold lst; split <;> omega
  rw [b302_35]
  simp only [(RS.ok W.1), (RS.fr W.1), true_and, and_true, true_or, or_true, W.1.l149, W.nq]
  rw [shl1 (by omega), if_neg (by rw [ii_le (by omega) (by omega) (by omega) (by omega)]; omega)]
  -- what it costs
  have same : ∀ l6 l7 l8, ¬ ((b.1 = -2 ∨ prS (cs_P s) set < b.2) ∧ set.testBit q = false ∧ ¬ knw (cs_S s) (lnW (cs_P s) q set (ld_q (pg_l (cs_P s))).length) (brg (cs_S s) (cs_P s) (mo_w (pg_m (cs_P s)) 0) q) = 0) → ∀ h1, RI h1 s → RPg (iv h1 4) (cs_P s) → Go (d + 5) 302 224 [some (.ref 148), some (.int (ii (q : Nat))), some (.int x2), some (.int (ii b.1)), some (.int (ii (lst b : Nat))), some (.int (ii (set : Nat))), l6, l7, l8] [] h1 Q := fun l6 l7 l8 n h1 I1 P1 => by
    rw [b302_224, show ii (set : Nat) + ii 1 = ii ((set + 1 : Nat) : Int) from ii_add _ _]
    have := hG h1 l6 l7 l8 I1 P1
    unfold bgF at this
    rw [if_neg n] at this
    exact this
  refine (show ∀ {A B : Prop}, (A ↔ B) → B → A from fun i b => i.mpr b) (downA (n := (ld_q (pg_l (cs_P s))).length) (P := fun k => (Go (d + 5) 302 54 [some (.ref 148), some (.int (ii (q : Nat))), some (.int x2), some (.int (ii b.1)), some (.int (ii (lst b : Nat))), some (.int (ii (set : Nat))), some (.int (ii (itr (prF (cs_P s) set) 0 k : Nat))), some (.int (ii (k : Nat))), l8] [] h Q) ↔ (Go (d + 5) 302 54 [some (.ref 148), some (.int (ii (q : Nat))), some (.int x2), some (.int (ii b.1)), some (.int (ii (lst b : Nat))), some (.int (ii (set : Nat))), some (.int (ii (prS (cs_P s) set : Nat))), some (.int (ii ((ld_q (pg_l (cs_P s))).length : Nat))), l8] [] h Q)) Iff.rfl (fun k hk ih => ?_) (Nat.zero_le _)) ?_
  · rw [b302_54]
    simp only [(RS.ok W.1), (RS.fr W.1), true_and, and_true, true_or, or_true, W.1.l149, W.nq]
    rw [if_neg (by rw [ii_le (by omega) (by omega) (by omega) (by omega)]; omega), c185 (by omega), wb_ii (by omega)]
    rw [itr_s] at ih
    unfold prF at ih
    cases e : set.testBit k with
    | false =>
      rw [if_neg Bool.false_ne_true, if_pos rfl, b302_88, show ii (k : Nat) + ii 1 = ii ((k + 1 : Nat) : Int) from ii_add _ _]
      rw [if_neg (by rw [e]; exact Bool.false_ne_true)] at ih
      rw [show ii (itr (prF (cs_P s) set) 0 k : Nat) + ii 0 = ii (itr (prF (cs_P s) set) 0 k : Nat) by rw [ii_add]; exact congrArg ii (by omega)]
      exact ih
    | true =>
      rw [if_pos rfl, if_neg (by decide)]
      simp only [(RS.ok W.1), (RS.fr W.1), true_and, and_true, true_or, or_true, W.1.x152 (show k < 6 by omega), (W.qq hk).2]
      rw [b302_88, show ii (k : Nat) + ii 1 = ii ((k + 1 : Nat) : Int) from ii_add _ _, ii_add]
      rw [if_pos e] at ih
      exact ih
  · rw [b302_54]
    simp only [(RS.ok W.1), (RS.fr W.1), true_and, and_true, true_or, or_true, W.1.l149, W.nq]
    rw [if_pos (Int32.le_refl _), c185 (by omega), wb_ii (by omega)]
    cases e : set.testBit q with
    | true =>
      rw [if_pos rfl, if_pos (by decide)]
      exact same _ _ _ (fun g => by rw [e] at g; cases g.2.1) h hI hP4
    | false =>
      rw [if_neg Bool.false_ne_true, if_neg (fun n => n rfl)]
      by_cases c : b.1 = -2 ∨ prS (cs_P s) set < b.2
      · have cl : prS (cs_P s) set < lst b := by
          unfold lst
          rcases c with c | c
          · rw [if_pos c]; omega
          · split <;> omega
        rw [if_neg (by rw [ii_le (by omega) (by omega) (by omega) (by omega)]; omega)]
        -- all that is bought
        refine Go_loop (fun k L h' => (∃ l8', L = [some (.ref 148), some (.int (ii (q : Nat))), some (.int x2), some (.int (ii b.1)), some (.int (ii (lst b : Nat))), some (.int (ii (set : Nat))), some (.int (ii (prS (cs_P s) set : Nat))), some (.int (ii (k : Nat))), l8']) ∧ Hw h h' q (lnW (cs_P s) q set k)) (ld_q (pg_l (cs_P s))).length ?_ ?_ 0 _ h (Nat.zero_le _) ⟨⟨_, rfl⟩, RF.rf, (W.mo hq).2.2.2, fun _ _ => rfl⟩
        · rintro k L h' hk ⟨⟨l8', rfl⟩, z⟩ nx
          have W1 := z.hw W (Or.inl hq) (lnW_lt W hq k)
          rw [b302_116]
          simp only [(RS.ok W1.1), (RS.fr W1.1), true_and, and_true, true_or, or_true, W1.1.l149, W1.nq]
          rw [if_neg (by rw [ii_le (by omega) (by omega) (by omega) (by omega)]; omega)]
          by_cases ck : k = q
          · subst ck
            rw [b302_130, if_neg (by decide), c185 (by omega), wb_ii (by omega), e, if_neg Bool.false_ne_true, if_pos rfl, b302_181, show ii (k : Nat) + ii 1 = ii ((k + 1 : Nat) : Int) from ii_add _ _]
            refine nx _ _ ⟨⟨_, rfl⟩, ?_⟩
            have : lnW (cs_P s) k set (k + 1) = lnW (cs_P s) k set k := by
              show lnF (cs_P s) set (lnW (cs_P s) k set k) k = _
              unfold lnF
              rw [if_neg (by rw [e]; exact Bool.false_ne_true)]
            rw [this]
            exact z
          · refine c302_130 (x1 := ii 0) W1.1 (by omega) (by omega) ck (by omega) (by omega) (fun h2 x8 z2 => nx _ _ ⟨⟨_, rfl⟩, ?_⟩)
            refine ⟨z.1.tr z2.1, ?_, fun b hb => (z2.2.2 b hb).trans (z.2.2 b hb)⟩
            rw [z2.2.1, z.2.1, z.2.2 k ck, (W.mo hk).2.2.2]
            rfl
        · rintro L h' ⟨⟨l8', rfl⟩, z⟩
          have W1 := z.hw W (Or.inl hq) (lnW_lt W hq _)
          rw [if_neg (show ¬ q = 6 by omega)] at W1
          rw [b302_116]
          simp only [(RS.ok W1.1), (RS.fr W1.1), true_and, and_true, true_or, or_true, W1.1.l149, W1.nq]
          rw [if_pos (Int32.le_refl _), c290 W1 hq]
          have ck := cO_kn (P := cs_P s) (S := cs_S s) (m' := mo_sw (pg_m (cs_P s)) (q + 1) (lnW (cs_P s) q set (ld_q (pg_l (cs_P s))).length)) (q := q) rfl rfl
          have w1 : mo_w (mo_sw (pg_m (cs_P s)) (q + 1) (lnW (cs_P s) q set (ld_q (pg_l (cs_P s))).length)) (q + 1) = lnW (cs_P s) q set (ld_q (pg_l (cs_P s))).length := by
            show upf (mo_w (pg_m (cs_P s))) (q + 1) (lnW (cs_P s) q set (ld_q (pg_l (cs_P s))).length) (q + 1) = _
            unfold upf
            rw [if_pos rfl]
          have w0 : mo_w (mo_sw (pg_m (cs_P s)) (q + 1) (lnW (cs_P s) q set (ld_q (pg_l (cs_P s))).length)) 0 = mo_w (pg_m (cs_P s)) 0 := by
            show upf (mo_w (pg_m (cs_P s))) (q + 1) (lnW (cs_P s) q set (ld_q (pg_l (cs_P s))).length) 0 = _
            unfold upf
            rw [if_neg (by omega)]
          rw [w1, w0] at ck
          (try simp only [(RS.ok W1.1), (RS.fr W1.1), true_and, and_true, true_or, or_true])
          refine c292w hI hC (z.1.wd (by decide) (by decide)) (fun i _ => by rw [z.1.ae (by decide) (by decide)]) (RPg_cong hP4 hC.1.1 (by rw [iv_at, iv_at, z.1.ae (by decide) (by decide)]) (fun r i _ _ _ _ _ _ _ => by rw [iv_at, iv_at, z.1.ae (by decide) (by decide)])) (fun h3 z3 e3 I3 => ?_)
          have P3 : RPg (iv h3 4) (cs_P s) := RPg_cong hP4 hC.1.1 (by rw [iv_at, iv_at, e3, z.1.ae (by decide) (by decide)]) (fun r i _ _ _ _ _ _ _ => by rw [iv_at, iv_at, e3, z.1.ae (by decide) (by decide)])
          cases e2 : cO (pg_l (cs_P s)) (mo_sw (pg_m (cs_P s)) (q + 1) (lnW (cs_P s) q set (ld_q (pg_l (cs_P s))).length)) (cs_S s) q with
          | false =>
            rw [if_neg Bool.false_ne_true, if_pos rfl, b302_210, if_pos rfl, b302_223]
            exact same _ _ _ (fun g => by have := ck.mpr g.2.2; rw [e2] at this; cases this) h3 I3 P3
          | true =>
            rw [if_pos rfl, if_neg (by decide), b302_210, if_neg (by decide), b302_223, b302_224, show ii (set : Nat) + ii 1 = ii ((set + 1 : Nat) : Int) from ii_add _ _]
            have := hG h3 (some (.int (ii (prS (cs_P s) set : Nat)))) (some (.int (ii 1))) l8' I3 P3
            unfold bgF at this
            rw [if_pos ⟨c, e, ck.mp e2⟩] at this
            have el : lst ((set : Int), prS (cs_P s) set) = prS (cs_P s) set := by
              unfold lst
              rw [if_neg (by show ¬ (set : Int) = -2; omega)]
            rw [el] at this
            exact this
      · have cl : lst b ≤ prS (cs_P s) set := by
          unfold lst
          rw [if_neg (fun g => c (Or.inl g))]
          exact Nat.le_of_not_lt (fun g => c (Or.inr g))
        rw [if_pos (by rw [ii_le (by omega) (by omega) (by omega) (by omega)]; omega)]
        exact same _ _ _ (fun g => c g.1) h hI hP4
theorem c302 (hI : RI h s) (hC : CsI s) (hx : i32 x) (hy : i32 y) (hK : ∀ h1, RI h1 s → K (ii (vBought (cs_P s) (cs_S s) x y)) h1) : GoCi (d + 6) 302 [.ref 148, .int (ii x), .int (ii y)] h K := by
  have W := hI.w hC
  have q6 := W.q6
  unfold vBought at hK
  rw [e302, b302_0]
  (try simp only [(RS.ok W.1), (RS.fr W.1), true_and, and_true, true_or, or_true])
  rw [c187 W hx]
  by_cases c : 0 ≤ x ∧ x < (ld_q (pg_l (cs_P s))).length
  · rw [if_pos c, if_neg (by decide)]
    rw [show jj 0 = jj (0 : Int) from rfl, show jj 1 = jj (1 : Int) from rfl, cin2 hy (by decide) (by decide)]
    by_cases c2 : 0 ≤ y ∧ y ≤ 1
    · rw [if_pos c2, if_pos (by decide)]
      rw [if_pos (show isPe (cs_P s) x ∧ 0 ≤ y ∧ y < 2 from ⟨c, by omega, by omega⟩)] at hK
      obtain ⟨q, rfl⟩ := nat_of c.1
      obtain ⟨w, rfl⟩ := nat_of c2.1
      have hq : q < (ld_q (pg_l (cs_P s))).length := by omega
      have hK : ∀ h1, RI h1 s → K (ii (bgA (cs_S s) (cs_P s) q w)) h1 := hK
      have p64 : 2 ^ (ld_q (pg_l (cs_P s))).length ≤ 2 ^ 6 := p2_6 q6
      (try simp only [(RS.ok W.1), (RS.fr W.1), true_and, and_true, true_or, or_true])
      refine c291w hI hC (fun h1 z1 e1 p1 W1 I1 => ?_)
      have bb : ∀ k, k ≤ 2 ^ (ld_q (pg_l (cs_P s))).length → ((itr (bgF (cs_S s) (cs_P s) q (brg (cs_S s) (cs_P s) (mo_w (pg_m (cs_P s)) 0) q)) (-2, 0) k).1 = -2 ∨ ∃ j : Nat, (itr (bgF (cs_S s) (cs_P s) q (brg (cs_S s) (cs_P s) (mo_w (pg_m (cs_P s)) 0) q)) (-2, 0) k).1 = j ∧ j < 64) ∧ (itr (bgF (cs_S s) (cs_P s) q (brg (cs_S s) (cs_P s) (mo_w (pg_m (cs_P s)) 0) q)) (-2, 0) k).2 ≤ 1000 := by
        intro k
        induction k with
        | zero => intro _; exact ⟨Or.inl rfl, by show 0 ≤ 1000; decide⟩
        | succ k ih =>
          intro hk
          rw [itr_s]
          generalize itr (bgF (cs_S s) (cs_P s) q (brg (cs_S s) (cs_P s) (mo_w (pg_m (cs_P s)) 0) q)) (-2, 0) k = b at *
          unfold bgF
          split
          · exact ⟨Or.inr ⟨k, rfl, by omega⟩, prS_le hC.1.1 k⟩
          · exact ih (by omega)
      refine Go_loop (fun k L h' => (∃ l6 l7 l8, L = [some (.ref 148), some (.int (ii (q : Nat))), some (.int (ii (w : Nat))), some (.int (ii (itr (bgF (cs_S s) (cs_P s) q (brg (cs_S s) (cs_P s) (mo_w (pg_m (cs_P s)) 0) q)) (-2, 0) k).1)), some (.int (ii (lst (itr (bgF (cs_S s) (cs_P s) q (brg (cs_S s) (cs_P s) (mo_w (pg_m (cs_P s)) 0) q)) (-2, 0) k) : Nat))), some (.int (ii (k : Nat))), l6, l7, l8]) ∧ RI h' s ∧ RPg (iv h' 4) (cs_P s)) (2 ^ (ld_q (pg_l (cs_P s))).length) ?_ ?_ 0 _ h1 (Nat.zero_le _) ⟨⟨none, none, none, rfl⟩, I1, p1⟩
      · rintro k L h' hk ⟨⟨l6, l7, l8, rfl⟩, I', p'⟩ nx
        have b0 := bb k (by omega)
        refine c302_b I' hC p' hq hk b0.1 b0.2 (fun h2 l6 l7 l8 I2 p2 => nx _ _ ⟨⟨l6, l7, l8, ?_⟩, I2, p2⟩)
        rw [itr_s]
      · rintro L h' ⟨⟨l6, l7, l8, rfl⟩, I', p'⟩
        have W' := I'.w hC
        have b0 := bb _ (Nat.le_refl _)
        rw [b302_35]
        simp only [(RS.ok W'.1), (RS.fr W'.1), true_and, and_true, true_or, or_true, W'.1.l149, W'.nq]
        rw [shl1 (by omega), if_pos (Int32.le_refl _)]
        have kk := hK h' I'
        unfold bgA bgV at kk
        generalize itr (bgF (cs_S s) (cs_P s) q (brg (cs_S s) (cs_P s) (mo_w (pg_m (cs_P s)) 0) q)) (-2, 0) (2 ^ (ld_q (pg_l (cs_P s))).length) = b at *
        by_cases c6 : b.1 = -2
        · rw [if_pos (by rw [c6]), rI_s]
          rw [if_pos (Or.inr c6)] at kk
          exact kk
        · rcases b0.1 with g | ⟨j, j1, j2⟩
          · exact absurd g c6
          · rw [if_neg (by rw [j1, show ii (-2) = ii (-2 : Int) from rfl, ii_eq (by omega) (by omega) (by omega) (by omega)]; omega)]
            by_cases c7 : w = 1
            · rw [if_neg (by rw [c7]; exact fun n => n rfl), rI_s]
              rw [if_pos (Or.inl c7)] at kk
              exact kk
            · rw [if_pos (by rw [show ii 1 = ii (1 : Int) from rfl, ii_eq (by omega) (by omega) (by omega) (by omega)]; omega), rI_s]
              rw [if_neg (fun g => g.elim c7 c6)] at kk
              unfold lst
              rw [if_neg c6]
              exact kk
    · rw [if_neg c2, if_neg (by decide), rI_s]
      have := hK h hI
      rw [if_neg (fun g => c2 ⟨g.2.1, by omega⟩)] at this
      exact this
  · rw [if_neg c, if_pos rfl, rI_s]
    have := hK h hI
    rw [if_neg (fun g => c g.1)] at this
    exact this
end Sb
