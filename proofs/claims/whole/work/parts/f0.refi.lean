/-! THE REFERENCE: who gets over; the saying that takes least -/
noncomputable def gO (l : Ld) (m : Mo) (S : List Wd) (q s : Nat) : Bool := !mo_l m q && (subB (mo_w m (q + 1)) (sy S s) && (sy S s (mo_f m) && decide ((la_q l q).2.1 ≤ gainW (mo_w m 0) (sy S s))))
noncomputable def cO (l : Ld) (m : Mo) (S : List Wd) (q : Nat) : Bool := (List.range S.length).any (fun s => gO l m S q s)
section Sa
variable {d : Nat} {h h1 h0 : mHeap} {l : Ld} {m : Mo} {S : List Wd} {P : Pg} {s : Cs} {K : Int32 → mHeap → Prop} {x y z : Int} {q k n : Nat} {v : Wd} {F R : List Nat}
theorem mo_sw0 : mo_sw m 0 (mo_w m 0) = m := by
  have e : upf (mo_w m) 0 (mo_w m 0) = mo_w m := by
    funext i
    unfold upf
    by_cases c : i = 0
    · rw [if_pos c, c]
    · rw [if_neg c]
  unfold mo_sw
  rw [e]
  rfl
theorem gO_knw (hk : k < S.length) : (knw S (mo_w (pg_m P) (q + 1)) (brg S P v q)).testBit k = gO (pg_l P) (mo_sw (pg_m P) 0 v) S q k := by
  unfold knw gO
  rw [btO_bit, decide_eq_true hk, Bool.true_and]
  have e1 : mo_w (mo_sw (pg_m P) 0 v) (q + 1) = mo_w (pg_m P) (q + 1) := by
    show upf (mo_w (pg_m P)) 0 v (q + 1) = _
    unfold upf
    rw [if_neg (by omega)]
  have e2 : mo_w (mo_sw (pg_m P) 0 v) 0 = v := by
    show upf (mo_w (pg_m P)) 0 v 0 = _
    unfold upf
    rw [if_pos rfl]
  rw [e1, e2, show mo_l (mo_sw (pg_m P) 0 v) = mo_l (pg_m P) from rfl, show mo_f (mo_sw (pg_m P) 0 v) = mo_f (pg_m P) from rfl]
  unfold brg
  cases c : mo_l (pg_m P) q with
  | true =>
    rw [if_pos rfl, Nat.zero_testBit]
    rfl
  | false =>
    rw [if_neg Bool.false_ne_true, btO_bit, decide_eq_true hk, Bool.true_and]
    unfold brB gainW
    cases sy S k (mo_f (pg_m P)) <;> cases subB (mo_w (pg_m P) (q + 1)) (sy S k) <;> simp
theorem cO_knw : (cO (pg_l P) (mo_sw (pg_m P) 0 v) S q = true) ↔ ¬ knw S (mo_w (pg_m P) (q + 1)) (brg S P v q) = 0 := by
  unfold cO
  rw [List.any_eq_true]
  constructor
  · rintro ⟨k, hk, g⟩ e
    have hk := List.mem_range.mp hk
    rw [← gO_knw hk, e, Nat.zero_testBit] at g
    cases g
  · intro g
    apply Classical.byContradiction
    intro n
    apply g
    apply Nat.eq_of_testBit_eq
    intro i
    rw [Nat.zero_testBit]
    by_cases c : i < S.length
    · rw [gO_knw c]
      cases e : gO (pg_l P) (mo_sw (pg_m P) 0 v) S q i with
      | false => rfl
      | true => exact absurd ⟨i, List.mem_range.mpr c, e⟩ n
    · unfold knw
      rw [btO_bit, decide_eq_false c, Bool.false_and]
theorem c289 (W : Rw h l m S) (hq : q < (ld_q l).length) (hk : k < S.length) : GoCi (d + 3) 289 [.ref 148, .int (ii (q : Nat)), .int (ii (k : Nat))] h K ↔ K (if gO l m S q k = true then ii 1 else ii 0) h := by
  have q6 := W.q6
  have s24 := W.s24
  have wt : (la_q l q).2.1 ≤ 128 := PgI.w (P := (l, m, [], [], 0)) W.ok q hq
  have wt1 : 1 ≤ (la_q l q).2.1 := (W.ok.2.2.2.2.2.2.1 _ (la_q_mem hq)).2.1.1
  have gl : gainW (mo_w m 0) (sy S k) ≤ 256 := cB_256
  rw [e289, b289_0]
  simp only [(RS.ok W.1), (RS.fr W.1), true_and, and_true, true_or, or_true, W.1.x154 (show q < 6 by omega), (W.mo hq).2.2.1]
  unfold gO
  cases c : mo_l m q with
  | true =>
    rw [if_pos (by decide), rI_s]
    rw [if_neg (by simp)]
  | false =>
    rw [if_neg (fun n => n rfl)]
    rw [c247 W.1 (by omega) (by omega), W.ss hk, (W.mo hq).2.2.2]
    by_cases c2 : sub (mo_w m (q + 1)) (sy S k)
    · have e2 : subB (mo_w m (q + 1)) (sy S k) = true := by unfold subB; exact @decide_eq_true _ (Classical.propDecidable _) c2
      rw [bP_t c2, if_neg (by decide), e2]
      simp only [(RS.ok W.1), (RS.fr W.1), true_and, and_true, true_or, or_true, W.1.l149, W.so]
      rw [c250 W.1 (by omega) W.f8, W.ss hk]
      cases c3 : sy S k (mo_f m) with
      | false =>
        rw [if_neg Bool.false_ne_true, if_pos rfl, rI_s, if_neg (by simp)]
      | true =>
        rw [if_pos rfl, if_neg (by decide)]
        (try simp only [(RS.ok W.1), (RS.fr W.1), true_and, and_true, true_or, or_true])
        rw [show ii 6 = ii ((6 : Nat) : Int) from rfl, c247 W.1 (by omega) (by omega), W.ss hk, W.br]
        by_cases c4 : sub (mo_w m 0) (sy S k)
        · rw [bP_t c4, if_pos (by decide), rI_s]
          have := gain_sub.mpr c4
          rw [if_neg (by rw [decide_eq_false (show ¬ (la_q l q).2.1 ≤ gainW (mo_w m 0) (sy S k) by omega)]; simp)]
        · rw [bP_f c4, if_neg (fun n => n rfl)]
          (try simp only [(RS.ok W.1), (RS.fr W.1), true_and, and_true, true_or, or_true])
          rw [c248 W.1 (by omega), W.ss hk, W.br]
          simp only [(RS.ok W.1), (RS.fr W.1), true_and, and_true, true_or, or_true, W.1.x151 (show q < 6 by omega), (W.qq hq).1, rI_s]
          by_cases c5 : (la_q l q).2.1 ≤ gainW (mo_w m 0) (sy S k)
          · rw [if_neg (by rw [ii_lt (by omega) (by omega) (by omega) (by omega)]; omega), if_pos (by rw [decide_eq_true c5]; rfl)]
          · rw [if_pos (by rw [ii_lt (by omega) (by omega) (by omega) (by omega)]; omega), if_neg (by rw [decide_eq_false c5]; simp)]
    · have e2 : subB (mo_w m (q + 1)) (sy S k) = false := by unfold subB; exact @decide_eq_false _ (Classical.propDecidable _) c2
      rw [bP_f c2, if_pos rfl, rI_s, e2, if_neg (by simp)]
theorem c290 (W : Rw h l m S) (hq : q < (ld_q l).length) : GoCi (d + 4) 290 [.ref 148, .int (ii (q : Nat))] h K ↔ K (if cO l m S q = true then ii 1 else ii 0) h := by
  have s24 := W.s24
  rw [e290, b290_0]
  have L := downA (n := S.length) (P := fun k => (∀ j, j < k → gO l m S q j = false) → (Go (d + 3) 290 2 [some (.ref 148), some (.int (ii (q : Nat))), some (.int (ii (k : Nat)))] [] h (rI K) ↔ K (if cO l m S q = true then ii 1 else ii 0) h)) (fun g => by
    rw [b290_2]
    simp only [(RS.ok W.1), (RS.fr W.1), true_and, and_true, true_or, or_true, W.ns]
    rw [if_pos (Int32.le_refl _), rI_s, if_neg]
    unfold cO
    rw [List.any_eq_true]
    rintro ⟨k, hk, e⟩
    rw [g k (List.mem_range.mp hk)] at e
    cases e) (fun k hk ih g => by
    rw [b290_2]
    simp only [(RS.ok W.1), (RS.fr W.1), true_and, and_true, true_or, or_true, W.ns]
    rw [if_neg (by rw [ii_le (by omega) (by omega) (by omega) (by omega)]; omega), c289 W hq hk]
    cases e : gO l m S q k with
    | false =>
      rw [if_neg Bool.false_ne_true, if_pos rfl, show ii (k : Nat) + ii 1 = ii ((k + 1 : Nat) : Int) from ii_add _ _]
      exact ih (fun j hj => by
        by_cases c : j = k
        · rw [c]; exact e
        · exact g j (by omega))
    | true =>
      rw [if_pos rfl, if_neg (by decide), rI_s, if_pos]
      unfold cO
      rw [List.any_eq_true]
      exact ⟨k, List.mem_range.mpr hk, e⟩) (Nat.zero_le _) (fun j hj => absurd hj (Nat.not_lt_zero _))
  exact L
/-- all kept -/
theorem c291w {K : mHeap → Prop} (hI : RI h s) (hC : CsI s) (hK : ∀ h1, RF [59, 75, 76] (192 :: 200 :: pgR) h h1 → (∀ i, i < 7040 → xA h1 200 i = xA h 200 i) → RPg (iv h1 4) (cs_P s) → Rw h1 (pg_l (cs_P s)) (pg_m (cs_P s)) (cs_S s) → RI h1 s → K h1) : GoCv (d + 3) 291 [.ref 148] h K := by
  have W := hI.w hC
  refine c291 W.1 hI.2.2.2.2.1 hC.1.1 (fun h1 z r f e hP => ?_)
  have rp : RPg (lv h1) (cs_P s) := RPg_cong hI.2.2.2.2.1 hC.1.1 f (fun r' i a b c e f g w => by
    have := (sz_in a b c e f g w).1
    rw [lv_x (by omega), lv_x (by omega), r r' this])
  have I1 : RI h1 s := hI.pg hC (z.wd (by decide) (by decide)) e rp
  exact hK h1 z e hP (I1.w hC) I1
/-- laid back -/
theorem c292w {K : mHeap → Prop} (hI : RI h0 s) (hC : CsI s) (z : RF (59 :: scF) (200 :: (pgR ++ scR)) h0 h) (e : ∀ i, i < 7040 → xA h 200 i = xA h0 200 i) (hP : RPg (iv h 4) (cs_P s)) (hK : ∀ h1, RF [59, 75, 76] (192 :: 200 :: pgR) h h1 → xA h1 200 = xA h 200 → RI h1 s → K h1) : GoCv (d + 3) 292 [.ref 148] h K := by
  have hR : RS h := z.rs hI.1.1 (by decide)
  refine c292 hR hP hC.1.1 (fun h1 z1 e1 rp => hK h1 z1 e1 (hI.pg hC (z.tr (z1.wd (by decide) (by decide))) (fun i hi => by rw [e1]; exact e i hi) rp))
theorem gnS_g {k : Nat} : gnS S P k = gainW (mo_w (pg_m P) 0) (sy S k) := rfl
theorem c293 (hI : RI h s) (hC : CsI s) (hx : i32 x) (hy : i32 y) (hK : ∀ h1, RI h1 s → K (ii (vLeast (cs_P s) (cs_S s) x y)) h1) : GoCi (d + 5) 293 [.ref 148, .int (ii x), .int (ii y)] h K := by
  have W := hI.w hC
  have q6 := W.q6
  have s24 := W.s24
  unfold vLeast at hK
  rw [e293, b293_0]
  (try simp only [(RS.ok W.1), (RS.fr W.1), true_and, and_true, true_or, or_true])
  rw [c187 W hx]
  by_cases c : 0 ≤ x ∧ x < (ld_q (pg_l (cs_P s))).length
  · rw [if_pos c, if_neg (by decide)]
    rw [show jj 0 = jj (0 : Int) from rfl, show jj 1 = jj (1 : Int) from rfl, cin2 hy (by decide) (by decide)]
    by_cases c2 : 0 ≤ y ∧ y ≤ 1
    · rw [if_pos c2, if_pos (by decide)]
      rw [if_pos (show isPe (cs_P s) x ∧ 0 ≤ y ∧ y < 2 from ⟨c, by omega, by omega⟩)] at hK
      obtain ⟨q, rfl⟩ := nat_of c.1
      obtain ⟨w, rfl⟩ := nat_of c2.1
      have hq : q < (ld_q (pg_l (cs_P s))).length := by omega
      have hK : ∀ h1, RI h1 s → K (ii (lsA (cs_S s) (cs_P s) q w)) h1 := hK
      unfold lsA at hK
      have gk : ∀ k, k < (cs_S s).length → (knw (cs_S s) (mo_w (pg_m (cs_P s)) (q + 1)) (brg (cs_S s) (cs_P s) (mo_w (pg_m (cs_P s)) 0) q)).testBit k = gO (pg_l (cs_P s)) (pg_m (cs_P s)) (cs_S s) q k := fun k hk => by rw [gO_knw hk, mo_sw0]
      have lv0 : lsV (cs_S s) (cs_P s) q = lsK (cs_S s) (cs_P s) (knw (cs_S s) (mo_w (pg_m (cs_P s)) (q + 1)) (brg (cs_S s) (cs_P s) (mo_w (pg_m (cs_P s)) 0) q)) (cs_S s).length := rfl
      generalize eW : knw (cs_S s) (mo_w (pg_m (cs_P s)) (q + 1)) (brg (cs_S s) (cs_P s) (mo_w (pg_m (cs_P s)) 0) q) = ways at *
      -- the loop over the sayings
      have best2 : ∀ k, k ≤ (cs_S s).length → (lsK (cs_S s) (cs_P s) ways k).1 = -2 ∨ ∃ b : Nat, b < k ∧ (lsK (cs_S s) (cs_P s) ways k).1 = b ∧ (lsK (cs_S s) (cs_P s) ways k).2 = gnS (cs_S s) (cs_P s) b := by
        intro k
        induction k with
        | zero => intro _; exact Or.inl rfl
        | succ k ih =>
          intro hk
          rw [lsK_s]
          by_cases e : ways.testBit k = true ∧ ((lsK (cs_S s) (cs_P s) ways k).1 = -2 ∨ gnS (cs_S s) (cs_P s) k < (lsK (cs_S s) (cs_P s) ways k).2)
          · rw [if_pos e]; exact Or.inr ⟨k, by omega, rfl, rfl⟩
          · rw [if_neg e]
            rcases ih (by omega) with g | ⟨b, b1, b2⟩
            · exact Or.inl g
            · exact Or.inr ⟨b, by omega, b2⟩
      refine (show ∀ {A B : Prop}, (A ↔ B) → B → A from fun i b => i.mpr b) (downA (n := (cs_S s).length) (P := fun k => (Go (d + 4) 293 26 [some (.ref 148), some (.int (ii (q : Nat))), some (.int (ii (w : Nat))), some (.int (ii (lsK (cs_S s) (cs_P s) ways k).1)), some (.int (ii (k : Nat))), none] [] h (rI K)) ↔ (Go (d + 4) 293 26 [some (.ref 148), some (.int (ii (q : Nat))), some (.int (ii (w : Nat))), some (.int (ii (lsV (cs_S s) (cs_P s) q).1)), some (.int (ii ((cs_S s).length : Nat))), none] [] h (rI K))) ?_ (fun k hk ih => ?_) (Nat.zero_le _)) ?_
      · rw [lv0]
      · rw [b293_26]
        simp only [(RS.ok W.1), (RS.fr W.1), true_and, and_true, true_or, or_true, W.ns]
        rw [if_neg (by rw [ii_le (by omega) (by omega) (by omega) (by omega)]; omega), c289 W hq hk, ← gk k hk]
        have no : ¬ (ways.testBit k = true ∧ ((lsK (cs_S s) (cs_P s) ways k).1 = -2 ∨ gnS (cs_S s) (cs_P s) k < (lsK (cs_S s) (cs_P s) ways k).2)) → (Go (d + 4) 293 68 [some (.ref 148), some (.int (ii (q : Nat))), some (.int (ii (w : Nat))), some (.int (ii (lsK (cs_S s) (cs_P s) ways k).1)), some (.int (ii (k : Nat))), none] [] h (rI K) ↔ (Go (d + 4) 293 26 [some (.ref 148), some (.int (ii (q : Nat))), some (.int (ii (w : Nat))), some (.int (ii (lsV (cs_S s) (cs_P s) q).1)), some (.int (ii ((cs_S s).length : Nat))), none] [] h (rI K))) := fun n => by
          rw [b293_68, show ii (k : Nat) + ii 1 = ii ((k + 1 : Nat) : Int) from ii_add _ _]
          rw [lsK_s, if_neg n] at ih
          exact ih
        have yes : (ways.testBit k = true ∧ ((lsK (cs_S s) (cs_P s) ways k).1 = -2 ∨ gnS (cs_S s) (cs_P s) k < (lsK (cs_S s) (cs_P s) ways k).2)) → (Go (d + 4) 293 65 [some (.ref 148), some (.int (ii (q : Nat))), some (.int (ii (w : Nat))), some (.int (ii (lsK (cs_S s) (cs_P s) ways k).1)), some (.int (ii (k : Nat))), none] [] h (rI K) ↔ (Go (d + 4) 293 26 [some (.ref 148), some (.int (ii (q : Nat))), some (.int (ii (w : Nat))), some (.int (ii (lsV (cs_S s) (cs_P s) q).1)), some (.int (ii ((cs_S s).length : Nat))), none] [] h (rI K))) := fun n => by
          rw [b293_65, b293_68, show ii (k : Nat) + ii 1 = ii ((k + 1 : Nat) : Int) from ii_add _ _]
          rw [lsK_s, if_pos n] at ih
          exact ih
        cases e : ways.testBit k with
        | false =>
          rw [if_neg Bool.false_ne_true, if_pos rfl]
          exact no (fun g => by rw [e] at g; cases g.1)
        | true =>
          rw [if_pos rfl, if_neg (by decide)]
          rcases best2 k (by omega) with g | ⟨b, b1, b2, b3⟩
          · rw [if_pos (by rw [g])]
            exact yes ⟨e, Or.inl g⟩
          · have hb : b < (cs_S s).length := by omega
            have g1 : gnS (cs_S s) (cs_P s) k ≤ 256 := cB_256
            have g2 : gnS (cs_S s) (cs_P s) b ≤ 256 := cB_256
            rw [b2] at no yes ⊢
            rw [b3] at no yes
            rw [if_neg (by rw [show ii (-2) = ii (-2 : Int) from rfl, ii_eq (by omega) (by omega) (by omega) (by omega)]; omega)]
            (try simp only [(RS.ok W.1), (RS.fr W.1), true_and, and_true, true_or, or_true])
            rw [c248 W.1 (by omega), W.ss hk, W.br, ← gnS_g]
            (try simp only [(RS.ok W.1), (RS.fr W.1), true_and, and_true, true_or, or_true])
            rw [c248 W.1 (by omega), W.ss hb, W.br, ← gnS_g]
            by_cases c5 : gnS (cs_S s) (cs_P s) k < gnS (cs_S s) (cs_P s) b
            · rw [if_neg (by rw [ii_le (by omega) (by omega) (by omega) (by omega)]; omega)]
              exact yes ⟨e, Or.inr c5⟩
            · rw [if_pos (by rw [ii_le (by omega) (by omega) (by omega) (by omega)]; omega)]
              exact no (fun g => g.2.elim (fun g => by omega) (fun g => c5 g))
      · rw [b293_26]
        simp only [(RS.ok W.1), (RS.fr W.1), true_and, and_true, true_or, or_true, W.ns]
        rw [if_pos (Int32.le_refl _)]
        have bb := best2 (cs_S s).length (Nat.le_refl _)
        rw [← lv0] at bb
        generalize eB : (lsV (cs_S s) (cs_P s) q).1 = best at *
        by_cases c6 : best = -2
        · rw [if_pos (by rw [c6]), rI_s]
          have := hK h hI
          rw [if_pos (Or.inr c6)] at this
          exact this
        · rcases bb with g | ⟨b, b1, b2, _⟩
          · exact absurd g c6
          · subst b2
            rw [if_neg (by rw [show ii (-2) = ii (-2 : Int) from rfl, ii_eq (by omega) (by omega) (by omega) (by omega)]; omega)]
            by_cases c7 : w = 0
            · rw [if_neg (by rw [c7]; exact fun n => n rfl), rI_s]
              have := hK h hI
              rw [if_pos (Or.inl c7)] at this
              exact this
            · rw [if_pos (by rw [show ii 0 = ii (0 : Int) from rfl, ii_eq (by omega) (by omega) (by omega) (by omega)]; omega)]
              have hK2 : ∀ h1, RI h1 s → K (ii (othN (cs_S s) (cs_P s) (capW (mo_w (pg_m (cs_P s)) 0) (sy (cs_S s) b)) q (ld_q (pg_l (cs_P s))).length : Nat)) h1 := fun h1 i1 => by
                have := hK h1 i1
                rw [if_neg (fun g => g.elim c7 c6)] at this
                exact this
              (try simp only [(RS.ok W.1), (RS.fr W.1), true_and, and_true, true_or, or_true])
              refine c291w hI hC (fun h1 z1 e1 p1 W1 I1 => ?_)
              (try simp only [(RS.ok W1.1), (RS.fr W1.1), true_and, and_true, true_or, or_true])
              rw [show ii 6 = ii ((6 : Nat) : Int) from rfl]
              refine c249 W1.1 (by decide) (by omega) (fun h2 z2 => ?_)
              rw [W1.ss b1, W1.br] at z2
              have W2 := z2.hw W1 (Or.inr rfl) (capW_W2 (fun w hw => W1.mj.2.2.2 0 w (by decide) hw))
              rw [if_pos rfl] at W2
              generalize capW (mo_w (pg_m (cs_P s)) 0) (sy (cs_S s) b) = v at *
              have o6 : ∀ k, othN (cs_S s) (cs_P s) v q k ≤ k := fun k => cB_le _ _
              refine (show ∀ {A B : Prop}, (A ↔ B) → B → A from fun i b => i.mpr b) (downA (n := (ld_q (pg_l (cs_P s))).length) (P := fun k => (Go (d + 4) 293 103 [some (.ref 148), some (.int (ii (q : Nat))), some (.int (ii (w : Nat))), some (.int (ii (b : Int))), some (.int (ii (othN (cs_S s) (cs_P s) v q k : Nat))), some (.int (ii (k : Nat)))] [] h2 (rI K)) ↔ (Go (d + 4) 293 103 [some (.ref 148), some (.int (ii (q : Nat))), some (.int (ii (w : Nat))), some (.int (ii (b : Int))), some (.int (ii (othN (cs_S s) (cs_P s) v q (ld_q (pg_l (cs_P s))).length : Nat))), some (.int (ii ((ld_q (pg_l (cs_P s))).length : Nat)))] [] h2 (rI K))) Iff.rfl (fun k hk ih => ?_) (Nat.zero_le _)) ?_
              · have yes : othB (cs_S s) (cs_P s) v q k → (Go (d + 4) 293 152 [some (.ref 148), some (.int (ii (q : Nat))), some (.int (ii (w : Nat))), some (.int (ii (b : Int))), some (.int (ii (othN (cs_S s) (cs_P s) v q k : Nat))), some (.int (ii (k : Nat)))] [.int (ii 1), .int (ii (othN (cs_S s) (cs_P s) v q k : Nat))] h2 (rI K) ↔ (Go (d + 4) 293 103 [some (.ref 148), some (.int (ii (q : Nat))), some (.int (ii (w : Nat))), some (.int (ii (b : Int))), some (.int (ii (othN (cs_S s) (cs_P s) v q (ld_q (pg_l (cs_P s))).length : Nat))), some (.int (ii ((ld_q (pg_l (cs_P s))).length : Nat)))] [] h2 (rI K))) := fun n => by
                  rw [b293_152 rfl, show ii (k : Nat) + ii 1 = ii ((k + 1 : Nat) : Int) from ii_add _ _, show ii (othN (cs_S s) (cs_P s) v q k : Nat) + ii 1 = ii ((othN (cs_S s) (cs_P s) v q k + 1 : Nat) : Int) from ii_add _ _]
                  rw [othN_t n] at ih
                  exact ih
                have no : ¬ othB (cs_S s) (cs_P s) v q k → (Go (d + 4) 293 151 [some (.ref 148), some (.int (ii (q : Nat))), some (.int (ii (w : Nat))), some (.int (ii (b : Int))), some (.int (ii (othN (cs_S s) (cs_P s) v q k : Nat))), some (.int (ii (k : Nat)))] [.int (ii (othN (cs_S s) (cs_P s) v q k : Nat))] h2 (rI K) ↔ (Go (d + 4) 293 103 [some (.ref 148), some (.int (ii (q : Nat))), some (.int (ii (w : Nat))), some (.int (ii (b : Int))), some (.int (ii (othN (cs_S s) (cs_P s) v q (ld_q (pg_l (cs_P s))).length : Nat))), some (.int (ii ((ld_q (pg_l (cs_P s))).length : Nat)))] [] h2 (rI K))) := fun n => by
                  rw [b293_151, b293_152 rfl, show ii (k : Nat) + ii 1 = ii ((k + 1 : Nat) : Int) from ii_add _ _, show ii (othN (cs_S s) (cs_P s) v q k : Nat) + ii 0 = ii ((othN (cs_S s) (cs_P s) v q k + 0 : Nat) : Int) from ii_add _ _, Nat.add_zero]
                  rw [othN_f n] at ih
                  exact ih
                rw [b293_103]
                simp only [(RS.ok W2.1), (RS.fr W2.1), true_and, and_true, true_or, or_true, W2.1.l149, W2.nq]
                rw [if_neg (by rw [ii_le (by omega) (by omega) (by omega) (by omega)]; omega)]
                by_cases c8 : k = q
                · rw [if_pos (by rw [c8])]
                  exact no (fun g => g.1 c8)
                · rw [if_neg (by rw [ii_eq (by omega) (by omega) (by omega) (by omega)]; omega)]
                  simp only [(RS.ok W2.1), (RS.fr W2.1), true_and, and_true, true_or, or_true, W2.1.x150 (show k < 6 by omega), W2.1.x150 (show q < 6 by omega), (W2.mo hk).1, (W2.mo hq).1]
                  have es : mo_s (mo_sw (pg_m (cs_P s)) 0 v) = mo_s (pg_m (cs_P s)) := rfl
                  rw [es]
                  by_cases c9 : mo_s (pg_m (cs_P s)) k = mo_s (pg_m (cs_P s)) q
                  · rw [if_neg (fun n => n (btE.mpr c9))]
                    (try simp only [(RS.ok W2.1), (RS.fr W2.1), true_and, and_true, true_or, or_true])
                    rw [c290 W2 hk]
                    have ck := cO_knw (P := cs_P s) (S := cs_S s) (v := v) (q := k)
                    cases e : cO (pg_l (cs_P s)) (mo_sw (pg_m (cs_P s)) 0 v) (cs_S s) k with
                    | true =>
                      rw [if_pos rfl, if_neg (by decide)]
                      exact yes ⟨c8, c9, ck.mp e⟩
                    | false =>
                      rw [if_neg Bool.false_ne_true, if_pos rfl]
                      exact no (fun g => by have := ck.mpr g.2.2; rw [e] at this; cases this)
                  · rw [if_pos (fun n => c9 (btE.mp n))]
                    exact no (fun g => c9 g.2.1)
              · rw [b293_103]
                simp only [(RS.ok W2.1), (RS.fr W2.1), true_and, and_true, true_or, or_true, W2.1.l149, W2.nq]
                rw [if_pos (Int32.le_refl _)]
                have zz : RF (59 :: scF) (200 :: (pgR ++ scR)) h h2 := (z1.wd (by decide) (by decide)).tr (z2.1.wd (by decide) (by decide))
                have e2 : xA h2 200 = xA h1 200 := z2.1.ae (by decide) (by decide)
                refine c292w hI hC zz (fun i hi => by rw [e2]; exact e1 i hi) (RPg_cong p1 hC.1.1 (by rw [iv_at, iv_at, e2]) (fun r i _ _ _ _ _ _ _ => by rw [iv_at, iv_at, e2])) (fun h3 z3 e3 I3 => ?_)
                rw [rI_s]
                exact hK2 h3 I3
    · rw [if_neg c2, if_neg (by decide), rI_s]
      have := hK h hI
      rw [if_neg (fun g => c2 ⟨g.2.1, by omega⟩)] at this
      exact this
  · rw [if_neg c, if_pos rfl, rI_s]
    have := hK h hI
    rw [if_neg (fun g => c g.1)] at this
    exact this
end Sa
