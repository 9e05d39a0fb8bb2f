/-! THE REFERENCE: walks -/
def rrK (X : Nat → Nat) : Nat → Nat → Nat → Nat
  | 0, fr, _ => X fr
  | k + 1, fr, ot => if ot = 0 then X fr else mnI (fun p => ot.testBit p) (fun p => rrK X k p (ot - 2 ^ p) + X (6 * p + fr)) 100000 6
def rwk (X : Nat → Nat) (fr ot : Nat) : Nat := rrK X (bc ot) fr ot
def hv (l : Ld) (set k : Nat) : Nat := if set.testBit k = true then rwk (ry l) k (set - 2 ^ k) else 100000
section Sd
variable {d : Nat} {h h1 h0 : mHeap} {l : Ld} {m m' : Mo} {S : List Wd} {P : Pg} {s : Cs} {K : Int32 → mHeap → Prop} {x y z : Int} {q k n o set p fr ot : Nat} {v : Wd} {X f : Nat → Nat} {Q : Option Value → mHeap → Prop}
theorem rrK_m : rrK X (k + 1) fr ot = if ot = 0 then X fr else mnI (fun p => ot.testBit p) (fun p => rrK X k p (ot - 2 ^ p) + X (6 * p + fr)) 100000 6 := rfl
theorem rrK_fu : ∀ k fr ot, ot < 64 → bc ot ≤ k → rrK X k fr ot = rrK X (bc ot) fr ot := by
  intro k
  induction k with
  | zero => intro fr ot _ h; rw [show bc ot = 0 by omega]
  | succ k ih =>
    intro fr ot h64 h
    by_cases c : ot = 0
    · subst c
      rw [rrK_m, if_pos rfl]
      rfl
    · have b0 : ¬ bc ot = 0 := fun e => c ((bc_00 ot h64).mp e)
      obtain ⟨b, hb⟩ : ∃ b, bc ot = b + 1 := ⟨bc ot - 1, by omega⟩
      rw [hb, rrK_m, rrK_m, if_neg c, if_neg c]
      refine mnI_cong 6 (fun p hp gp => ?_)
      have b1 := bc_1 p hp ot h64 gp
      rw [ih p (ot - 2 ^ p) (by omega) (by omega)]
      rw [show b = bc (ot - 2 ^ p) by omega]
theorem rwk_0 : rwk X fr 0 = X fr := rfl
theorem rwk_s (h64 : ot < 64) (c : ¬ ot = 0) : rwk X fr ot = mnI (fun p => ot.testBit p) (fun p => rwk X p (ot - 2 ^ p) + X (6 * p + fr)) 100000 6 := by
  have b0 : ¬ bc ot = 0 := fun e => c ((bc_00 ot h64).mp e)
  obtain ⟨b, hb⟩ : ∃ b, bc ot = b + 1 := ⟨bc ot - 1, by omega⟩
  unfold rwk
  rw [hb, rrK_m, if_neg c]
  refine mnI_cong 6 (fun p hp gp => ?_)
  have b1 := bc_1 p hp ot h64 gp
  rw [show b = bc (ot - 2 ^ p) by omega]
theorem rwk_le (hX : ∀ i, X i ≤ 100000) (h64 : ot < 64) : rwk X fr ot ≤ 100000 := by
  by_cases c : ot = 0
  · rw [c, rwk_0]; exact hX _
  · rw [rwk_s h64 c]; exact (mnI_is 6).1
theorem mnI_ext {g : Nat → Bool} {m0 : Nat} : ∀ j n, (∀ p, n ≤ p → p < n + j → g p = false) → mnI g f m0 (n + j) = mnI g f m0 n := by
  intro j
  induction j with
  | zero => intro n _; rfl
  | succ j ih =>
    intro n h
    rw [show n + (j + 1) = (n + j) + 1 by omega, mnI_s, h (n + j) (by omega) (by omega), if_neg Bool.false_ne_true]
    exact ih n (fun p a b => h p a (by omega))
/-- both are far, or they are the same -/
def Qe (a b : Nat) : Prop := (a = b ∧ a < 1000) ∨ (1000 ≤ a ∧ 1000 ≤ b)
theorem mnI_Q {g : Nat → Bool} {f f' : Nat → Nat} : ∀ n, (∀ p, p < n → g p = true → Qe (f p) (f' p)) → Qe (mnI g f 1000 n) (mnI g f' 100000 n) := by
  intro n
  induction n with
  | zero => intro _; exact Or.inr ⟨by show 1000 ≤ 1000; decide, by show 1000 ≤ 100000; decide⟩
  | succ n ih =>
    intro h
    have g0 := ih (fun p hp => h p (by omega))
    rw [mnI_s, mnI_s]
    by_cases q : g n = true
    · have g1 := h n (by omega) q
      rw [if_pos q, if_pos q]
      unfold Qe at *
      split <;> split <;> omega
    · rw [if_neg q, if_neg q]; exact g0
theorem wr_Q (ok : LdOk l) : ∀ n ot, bc ot = n → ot < 64 → inP (ld_p l).length ot → 0 < (ld_p l).length → ∀ fr, fr < (ld_p l).length → Qe (tw (wy l) fr ot) (rwk (ry l) fr ot) := by
  have M := wy_met ok
  have p6 := ok.2.2.2.1
  have e0 : ∀ i j, i < (ld_p l).length → j < (ld_p l).length → Qe (wy l (6 * i + j)) (ry l (6 * j + i)) := fun i j hi hj => by
    have a := ry_wy ok hj hi
    have b := M.2.1 i j hi hj
    rw [b]
    unfold Qe
    omega
  intro n
  induction n with
  | zero =>
    intro ot hb h64 _ h0 fr hf
    have := (bc_00 ot h64).mp hb
    subst this
    rw [tw_0, rwk_0]
    have := e0 fr 0 hf h0
    rw [Nat.add_zero, Nat.mul_zero, Nat.zero_add] at this
    exact this
  | succ n ih =>
    intro ot hb h64 hin h0 fr hf
    have c : ¬ ot = 0 := fun e => by rw [e] at hb; cases hb
    rw [tw_s h64 c, rwk_s h64 c]
    refine mnI_Q 6 (fun p hp gp => ?_)
    have b1 := bc_1 p hp ot h64 gp
    have r := ih (ot - 2 ^ p) (by omega) (by omega) (inP_sub h64 hp gp hin) h0 p (hin p gp)
    have e := e0 fr p hf (hin p gp)
    unfold Qe at *
    omega
theorem bc_6 : ∀ N, N < 64 → bc N ≤ 6 := by decide +kernel
theorem half_b : ∀ N, N < 64 → 2 * (N / 2) = (if N.testBit 0 = true then N - 1 else N) := by decide +kernel
theorem wkH_Q (ok : LdOk (pg_l P)) (hs : set < 2 ^ (ld_p (pg_l P)).length) : Qe (wkH P set) (rwk (ry (pg_l P)) 0 set) := by
  have p6 := ok.2.2.2.1
  have p64 := p2_64 p6
  have M := wy_met ok
  have hin : inP (ld_p (pg_l P)).length set := fun i hi => by
    apply Classical.byContradiction
    intro n
    rw [Nat.testBit_lt_two_pow (Nat.lt_of_lt_of_le hs (p2_6 (Nat.le_of_not_lt n)))] at hi
    cases hi
  have e1 : wkH P set = tw (wy (pg_l P)) 0 (2 * (set / 2)) := hrT_fu 6 0 _ (by omega) (bc_6 _ (by omega))
  rw [e1, half_b set (by omega)]
  by_cases c : 0 < (ld_p (pg_l P)).length
  · have r := wr_Q ok (bc set) set rfl (by omega) hin c 0 c
    by_cases b : set.testBit 0 = true
    · rw [if_pos b, ← tw_z2 p6 M (wy_le _) c (by omega) hin b]
      exact r
    · rw [if_neg b]; exact r
  · have z : (ld_p (pg_l P)).length = 0 := by omega
    rw [z] at hs
    have : set = 0 := by omega
    subst this
    rw [if_neg (by decide), tw_0, rwk_0]
    have a0 : ry (pg_l P) (6 * 0 + 0) = 0 := by
      have p0 := Rel_p0 p6
      have R := Rel_all p6 (Rel_path p6 (ld_w (pg_l P)) wy0 ry0 (fun w hw => by
        have := ok.2.2.2.2.2.2.2.2.1 w hw
        exact ⟨this.1, this.2.1, this.2.2.1, by omega⟩) p0.1 p0.2)
      exact (R.2.2 0 (by decide)).1
    have w0 : ld_p (pg_l P) = [] := List.eq_nil_of_length_eq_zero z
    have a1 : wy (pg_l P) (6 * 0) = 0 := by
      have ww : ld_w (pg_l P) = [] := by
        cases e : ld_w (pg_l P) with
        | nil => rfl
        | cons w ws =>
          have := ok.2.2.2.2.2.2.2.2.1 w (by rw [e]; exact List.mem_cons_self)
          omega
      unfold wy wyP
      rw [w0, ww]
      rfl
    have a0 : ry (pg_l P) 0 = 0 := a0
    rw [a0, a1]
    exact Or.inl ⟨rfl, by decide⟩
def HrR (h : mHeap) (l : Ld) (n : Nat) : Prop := ∀ set k, set < n → k < (ld_p l).length → xA h 198 (6 * set + k) = ii (hv l set k : Nat)
theorem hv_le (hX : ∀ i, ry l i ≤ 100000) (h64 : set < 64) : hv l set k ≤ 100000 := by
  unfold hv
  split
  · exact rwk_le hX (Nat.lt_of_le_of_lt (Nat.sub_le _ _) h64)
  · exact Nat.le_refl _
theorem c299_87 {l5 : Option Value} (W : Rw h l m S) (hX : ∀ i, ry l i ≤ 100000) (hF : FaR h (ry l)) (hs : set < 2 ^ (ld_p l).length) (hH : HrR h l set) (hk : k < (ld_p l).length) (b : set.testBit k = true) {a0 : Nat} (ea : a0 = if set - 2 ^ k = 0 then ry l k else 100000) (hG : ∀ l4 l5, Go (d + 2) 299 153 [some (.ref 148), some (.int (ii (set : Nat))), some (.int (ii (k : Nat))), some (.int (ii (hv l set k : Nat))), l4, l5] [] h Q) : Go (d + 2) 299 87 [some (.ref 148), some (.int (ii (set : Nat))), some (.int (ii (k : Nat))), some (.int (ii (a0 : Nat))), some (.int (ii 0)), l5] [] h Q := by
  have p6 := W.p6
  have p64 := p2_64 p6
  have b1 := (bc_1 k (by omega) set (by omega) b).2
  have a5 : a0 ≤ 100000 := by rw [ea]; split; exact hX _; omega
  have L := downA (n := (ld_p l).length) (P := fun j => ∀ l5 : Option Value, Go (d + 2) 299 87 [some (.ref 148), some (.int (ii (set : Nat))), some (.int (ii (k : Nat))), some (.int (ii (mnI (fun p => (set - 2 ^ k).testBit p) (fun p => rwk (ry l) p (set - 2 ^ k - 2 ^ p) + ry l (6 * p + k)) a0 j : Nat))), some (.int (ii (j : Nat))), l5] [] h Q) (fun l5 => by
    rw [b299_87]
    simp only [(RS.ok W.1), (RS.fr W.1), true_and, and_true, true_or, or_true, W.1.l149, W.np]
    rw [if_pos (Int32.le_refl _)]
    have e : mnI (fun p => (set - 2 ^ k).testBit p) (fun p => rwk (ry l) p (set - 2 ^ k - 2 ^ p) + ry l (6 * p + k)) a0 (ld_p l).length = hv l set k := by
      have ex := mnI_ext (f := fun p => rwk (ry l) p (set - 2 ^ k - 2 ^ p) + ry l (6 * p + k)) (g := fun p => (set - 2 ^ k).testBit p) (m0 := a0) (6 - (ld_p l).length) (ld_p l).length (fun p h1 h2 => by
        have : 2 ^ (ld_p l).length ≤ 2 ^ p := p2_6 h1
        exact Nat.testBit_lt_two_pow (by omega))
      rw [← ex, show (ld_p l).length + (6 - (ld_p l).length) = 6 by omega]
      unfold hv
      rw [if_pos b]
      by_cases c : set - 2 ^ k = 0
      · rw [c, rwk_0]
        have e2 := mnI_ext (f := fun p => rwk (ry l) p (0 - 2 ^ p) + ry l (6 * p + k)) (g := fun p => (0 : Nat).testBit p) (m0 := a0) 6 0 (fun p _ _ => Nat.zero_testBit p)
        rw [show 0 + 6 = 6 from rfl] at e2
        rw [e2, ea, if_pos c]
        rfl
      · rw [rwk_s (by omega) c, ea, if_neg c]
    rw [e]
    exact hG _ _) (fun j hj ih l5 => by
    clear ea
    have bs := mnI_is (g := fun p => (set - 2 ^ k).testBit p) (f := fun p => rwk (ry l) p (set - 2 ^ k - 2 ^ p) + ry l (6 * p + k)) (m0 := a0) j
    have ih := ih
    rw [mnI_s] at ih
    generalize mnI (fun p => (set - 2 ^ k).testBit p) (fun p => rwk (ry l) p (set - 2 ^ k - 2 ^ p) + ry l (6 * p + k)) a0 j = cur at *
    have b6 := bs.1
    have ij : 6 * (set - 2 ^ k) + j < 384 := by omega
    have hh := hH (set - 2 ^ k) j (by omega) hj
    have hl := hv_le (l := l) (set := set - 2 ^ k) (k := j) hX (by omega)
    have xj := hX (6 * j + k)
    rw [b299_87]
    simp only [(RS.ok W.1), (RS.fr W.1), true_and, and_true, true_or, or_true, W.1.l149, W.np]
    rw [if_neg (by rw [ii_le (by omega) (by omega) (by omega) (by omega)]; omega), c185 (by omega), wb_ii (by omega), b, if_pos rfl, if_neg (by decide)]
    rw [shl1 (by omega), clr6 k (by omega) set (by omega) b, ix6]
    simp only [(RS.ok W.1), (RS.fr W.1), true_and, and_true, true_or, or_true, W.1.x198 ij, hh]
    rw [c258 W.1 hF (by omega) (by omega)]
    rw [show ii (hv l (set - 2 ^ k) j : Nat) + ii (ry l (6 * j + k) : Nat) = ii ((hv l (set - 2 ^ k) j + ry l (6 * j + k) : Nat) : Int) from ii_add _ _]
    cases bj : (set - 2 ^ k).testBit j with
    | true =>
      have ev : hv l (set - 2 ^ k) j = rwk (ry l) j (set - 2 ^ k - 2 ^ j) := by unfold hv; rw [if_pos bj]
      rw [if_pos bj] at ih
      rw [ev] at hl ⊢
      generalize rwk (ry l) j (set - 2 ^ k - 2 ^ j) = A at ih hl ⊢
      generalize ry l (6 * j + k) = B at ih xj ⊢
      clear hh ev
      by_cases c : A + B < cur
      · rw [if_neg (by rw [ii_le (by omega) (by omega) (by omega) (by omega)]; omega), b299_146, show ii (j : Nat) + ii 1 = ii ((j + 1 : Nat) : Int) from ii_add _ _]
        rw [if_pos c] at ih
        exact ih _
      · rw [if_pos (by rw [ii_le (by omega) (by omega) (by omega) (by omega)]; omega), b299_146, show ii (j : Nat) + ii 1 = ii ((j + 1 : Nat) : Int) from ii_add _ _]
        rw [if_neg c] at ih
        exact ih _
    | false =>
      have ev : hv l (set - 2 ^ k) j = 100000 := by unfold hv; rw [if_neg (by rw [bj]; exact Bool.false_ne_true)]
      rw [if_neg (by rw [bj]; exact Bool.false_ne_true)] at ih
      rw [ev]
      rw [if_pos (by rw [ii_le (by omega) (by omega) (by omega) (by omega)]; omega), b299_146, show ii (j : Nat) + ii 1 = ii ((j + 1 : Nat) : Int) from ii_add _ _]
      exact ih _) (Nat.zero_le _) l5
  exact L
theorem c299_46 {l3 l4 l5 : Option Value} (W : Rw h l m S) (hX : ∀ i, ry l i ≤ 100000) (hF : FaR h (ry l)) (hs : set < 2 ^ (ld_p l).length) (hH : HrR h l set) (hG : ∀ h1 l2 l3 l4 l5, RF [] [198] h h1 → HrR h1 l (set + 1) → Go (d + 2) 299 32 [some (.ref 148), some (.int (ii ((set + 1 : Nat) : Int))), l2, l3, l4, l5] [] h1 Q) : Go (d + 2) 299 46 [some (.ref 148), some (.int (ii (set : Nat))), some (.int (ii 0)), l3, l4, l5] [] h Q := by
  have p6 := W.p6
  have p64 := p2_64 p6
  refine Go_loop (fun k L h' => (∃ l3 l4 l5, L = [some (.ref 148), some (.int (ii (set : Nat))), some (.int (ii (k : Nat))), l3, l4, l5]) ∧ RF [] [198] h h' ∧ HrR h' l set ∧ ∀ j, j < k → j < (ld_p l).length → xA h' 198 (6 * set + j) = ii (hv l set j : Nat)) (ld_p l).length ?_ ?_ 0 _ h (Nat.zero_le _) ⟨⟨_, _, _, rfl⟩, RF.rf, hH, fun j hj => absurd hj (Nat.not_lt_zero _)⟩
  · rintro k L h' hk ⟨⟨l3, l4, l5, rfl⟩, z, H1, H2⟩ nx
    have W' : Rw h' l m S := W.sc z (by decide) (by decide) (by decide)
    have F' : FaR h' (ry l) := fun i hi => by rw [z.ae (by decide) (by decide)]; exact hF i hi
    have ik : 6 * set + k < 384 := by omega
    have fin : ∀ l4 l5, Go (d + 2) 299 153 [some (.ref 148), some (.int (ii (set : Nat))), some (.int (ii (k : Nat))), some (.int (ii (hv l set k : Nat))), l4, l5] [] h' Q := fun l4 l5 => by
      rw [b299_153]
      simp only [(RS.ok W'.1), (RS.fr W'.1), true_and, and_true, true_or, or_true, ix6, W'.1.x198 ik]
      refine ⟨by decide, ?_⟩
      rw [show ii (k : Nat) + ii 1 = ii ((k + 1 : Nat) : Int) from ii_add _ _]
      refine nx _ _ ⟨⟨_, _, _, rfl⟩, z.tr RF.sI, fun set' j h1 h2 => ?_, fun j h1 h2 => ?_⟩
      · rw [W'.1.s198 ik, if_pos rfl]
        unfold upf
        rw [if_neg (by omega)]
        exact H1 set' j h1 h2
      · rw [W'.1.s198 ik, if_pos rfl]
        unfold upf
        by_cases c : j = k
        · rw [c, if_pos rfl]
        · rw [if_neg (by omega)]
          exact H2 j (by omega) h2
    rw [b299_46]
    simp only [(RS.ok W'.1), (RS.fr W'.1), true_and, and_true, true_or, or_true, W'.1.l149, W'.np]
    rw [if_neg (by rw [ii_le (by omega) (by omega) (by omega) (by omega)]; omega), c185 (by omega), wb_ii (by omega)]
    cases b : set.testBit k with
    | false =>
      rw [if_neg Bool.false_ne_true, if_pos rfl, b299_80, b299_83, b299_87]
      simp only [(RS.ok W'.1), (RS.fr W'.1), true_and, and_true, true_or, or_true, W'.1.l149, W'.np]
      rw [if_neg (by rw [show ii 0 = ii ((0 : Nat) : Int) from rfl, ii_le (by omega) (by omega) (by omega) (by omega)]; omega), c185 (by omega), wb_ii (by omega), b, if_neg Bool.false_ne_true, if_pos rfl]
      have e : ii 100000 = ii (hv l set k : Nat) := by
        unfold hv
        rw [if_neg (by rw [b]; exact Bool.false_ne_true)]
        exact congrArg ii (by omega)
      rw [e]
      exact fin _ _
    | true =>
      have b1 := (bc_1 k (by omega) set (by omega) b).2
      rw [if_pos rfl, if_neg (by decide), shl1 (by omega)]
      by_cases c : set = 2 ^ k
      · rw [if_neg (by rw [← c]; exact fun n => n rfl)]
        (try simp only [(RS.ok W'.1), (RS.fr W'.1), true_and, and_true, true_or, or_true])
        rw [show ii 0 = ii ((0 : Nat) : Int) from rfl, c258 W'.1 F' (by decide) (by omega), b299_83]
        have := c299_87 (d := d) (Q := Q) (l5 := l5) W' hX F' hs H1 hk b (a0 := ry l (6 * 0 + k)) (by rw [if_pos (by omega)]; exact congrArg _ (by omega)) fin
        exact this
      · rw [if_pos (by rw [ii_eq (by omega) (by omega) (by omega) (by omega)]; omega), b299_80, b299_83]
        have := c299_87 (d := d) (Q := Q) (l5 := l5) W' hX F' hs H1 hk b (a0 := 100000) (by rw [if_neg (by omega)]) fin
        rw [show ii ((100000 : Nat) : Int) = ii 100000 from congrArg ii (by omega)] at this
        exact this
  · rintro L h' ⟨⟨l3, l4, l5, rfl⟩, z, H1, H2⟩
    have W' : Rw h' l m S := W.sc z (by decide) (by decide) (by decide)
    rw [b299_46]
    simp only [(RS.ok W'.1), (RS.fr W'.1), true_and, and_true, true_or, or_true, W'.1.l149, W'.np]
    rw [if_pos (Int32.le_refl _), show ii (set : Nat) + ii 1 = ii ((set + 1 : Nat) : Int) from ii_add _ _]
    refine hG h' _ _ _ _ z (fun set' j h1 h2 => ?_)
    by_cases c : set' = set
    · rw [c]; exact H2 j h2 h2
    · exact H1 set' j (by omega) h2
theorem c299 {K : mHeap → Prop} (W : Rw h l m S) (hK : ∀ h1, RF [] [190, 198] h h1 → (∀ i, ry l i ≤ 100000) → FaR h1 (ry l) → HrR h1 l (2 ^ (ld_p l).length) → K h1) : GoCv (d + 3) 299 [.ref 148] h K := by
  have p6 := W.p6
  have p64 := p2_64 p6
  rw [e299, b299_0]
  (try simp only [(RS.ok W.1), (RS.fr W.1), true_and, and_true, true_or, or_true])
  refine c257 W (fun h1 z1 B1 F1 => ?_)
  have W1 : Rw h1 l m S := W.sc z1 (by decide) (by decide) (by decide)
  refine Go_loop (fun k L h' => L = [some (.ref 148), some (.int (ii (k : Nat))), none, none, none, none] ∧ RF [] [198] h1 h' ∧ ∀ j, j < k → xA h' 198 j = ii 100000) 384 ?_ ?_ 0 _ h1 (Nat.zero_le _) ⟨rfl, RF.rf, fun j hj => absurd hj (Nat.not_lt_zero _)⟩
  · rintro k L h' hk ⟨rfl, z, H⟩ nx
    have R' : RS h' := z.rs W1.1 (by decide)
    rw [b299_6]
    simp only [(RS.ok R'), (RS.fr R'), true_and, and_true, true_or, or_true, okL_kd, nL_kd, R'.k198, lnK, List.headD_cons]
    refine ⟨by decide, ?_⟩
    rw [if_neg (show ¬ (1 : Nat) = 4 by decide), if_neg (by rw [ii_le (by omega) (by omega) (by omega) (by omega)]; omega)]
    refine ⟨⟨by decide, (R'.x198 hk).1⟩, ?_⟩
    rw [show ii (k : Nat) + ii 1 = ii ((k + 1 : Nat) : Int) from ii_add _ _]
    refine nx _ _ ⟨rfl, z.tr RF.sI, fun j hj => ?_⟩
    rw [R'.s198 hk, if_pos rfl]
    unfold upf
    by_cases c : j = k
    · rw [if_pos c]
    · rw [if_neg c]; exact H j (by omega)
  · rintro L h2 ⟨rfl, z2, H⟩
    have R2 : RS h2 := z2.rs W1.1 (by decide)
    have W2 : Rw h2 l m S := W1.sc z2 (by decide) (by decide) (by decide)
    have F2 : FaR h2 (ry l) := fun i hi => by rw [z2.ae (by decide) (by decide)]; exact F1 i hi
    rw [b299_6]
    simp only [(RS.ok R2), (RS.fr R2), true_and, and_true, true_or, or_true, okL_kd, nL_kd, R2.k198, lnK, List.headD_cons]
    refine ⟨by decide, ?_⟩
    rw [if_neg (show ¬ (1 : Nat) = 4 by decide), if_pos (show ii ((384 : Nat) : Int) ≤ ii ((384 : Nat) : Int) from Int32.le_refl _)]
    have p0 : 0 < 2 ^ (ld_p l).length := Nat.pow_pos (by decide)
    refine Go_loop (fun k L h' => (∃ l2 l3 l4 l5, L = [some (.ref 148), some (.int (ii ((k + 1 : Nat) : Int))), l2, l3, l4, l5]) ∧ RF [] [198] h2 h' ∧ HrR h' l (k + 1)) (2 ^ (ld_p l).length - 1) ?_ ?_ 0 _ h2 (Nat.zero_le _) ⟨⟨none, none, none, none, rfl⟩, RF.rf, fun set k h1 h2 => ?_⟩
    · rintro k L h' hk ⟨⟨l2, l3, l4, l5, rfl⟩, z, H'⟩ nx
      have W' : Rw h' l m S := W2.sc z (by decide) (by decide) (by decide)
      have F' : FaR h' (ry l) := fun i hi => by rw [z.ae (by decide) (by decide)]; exact F2 i hi
      rw [b299_32]
      simp only [(RS.ok W'.1), (RS.fr W'.1), true_and, and_true, true_or, or_true, W'.1.l149, W'.np]
      rw [shl1 (by omega), if_neg (by rw [ii_le (by omega) (by omega) (by omega) (by omega)]; omega)]
      exact c299_46 W' B1 F' (by omega) H' (fun h3 l2 l3 l4 l5 z3 H3 => nx _ _ ⟨⟨_, _, _, _, rfl⟩, z.tr z3, H3⟩)
    · rintro L h' ⟨⟨l2, l3, l4, l5, rfl⟩, z, H'⟩
      have W' : Rw h' l m S := W2.sc z (by decide) (by decide) (by decide)
      have F' : FaR h' (ry l) := fun i hi => by rw [z.ae (by decide) (by decide)]; exact F2 i hi
      rw [b299_32]
      simp only [(RS.ok W'.1), (RS.fr W'.1), true_and, and_true, true_or, or_true, W'.1.l149, W'.np]
      rw [shl1 (by omega), if_pos (by rw [ii_le (by omega) (by omega) (by omega) (by omega)]; omega), rV_s]
      rw [show 2 ^ (ld_p l).length - 1 + 1 = 2 ^ (ld_p l).length by omega] at H'
      exact hK h' ((z1.wd (by decide) (by decide)).tr ((z2.tr z).wd (by decide) (by decide))) B1 F' H'
    · have : set = 0 := by omega
      subst this
      rw [H _ (by omega)]
      unfold hv
      rw [Nat.zero_testBit, if_neg Bool.false_ne_true]
      exact congrArg ii (by omega)
theorem ry_00 (ok : LdOk l) : ry l 0 = 0 := by
  have p6 := ok.2.2.2.1
  have p0 := Rel_p0 p6
  have R := Rel_all p6 (Rel_path p6 (ld_w l) wy0 ry0 (fun w hw => by
    have := ok.2.2.2.2.2.2.2.2.1 w hw
    exact ⟨this.1, this.2.1, this.2.2.1, by omega⟩) p0.1 p0.2)
  exact (R.2.2 0 (by decide)).1
theorem c300 {K : Int32 → mHeap → Prop} (W : Rw h l m S) (hX : ∀ i, ry l i ≤ 100000) (hF : FaR h (ry l)) (hH : HrR h l (2 ^ (ld_p l).length)) (hs : set < 2 ^ (ld_p l).length) : GoCi (d + 2) 300 [.ref 148, .int (ii (set : Nat))] h K ↔ K (ii (rwk (ry l) 0 set : Nat)) h := by
  have p6 := W.p6
  have p64 := p2_64 p6
  have main : ∀ a0 : Nat, (a0 = if set = 0 then 0 else 100000) → (Go (d + 1) 300 11 [some (.ref 148), some (.int (ii (set : Nat))), none, none, none] [.int (ii (a0 : Nat))] h (rI K) ↔ K (ii (rwk (ry l) 0 set : Nat)) h) := fun a0 ea => by
    have a5 : a0 ≤ 100000 := by rw [ea]; split <;> omega
    have L := downA (n := (ld_p l).length) (P := fun j => ∀ l4 : Option Value, (Go (d + 1) 300 14 [some (.ref 148), some (.int (ii (set : Nat))), some (.int (ii (mnI (fun p => set.testBit p) (fun p => rwk (ry l) p (set - 2 ^ p) + ry l (6 * p + 0)) a0 j : Nat))), some (.int (ii (j : Nat))), l4] [] h (rI K) ↔ K (ii (rwk (ry l) 0 set : Nat)) h)) (fun l4 => by
      rw [b300_14]
      simp only [(RS.ok W.1), (RS.fr W.1), true_and, and_true, true_or, or_true, W.1.l149, W.np]
      rw [if_pos (Int32.le_refl _), rI_s]
      have e : mnI (fun p => set.testBit p) (fun p => rwk (ry l) p (set - 2 ^ p) + ry l (6 * p + 0)) a0 (ld_p l).length = rwk (ry l) 0 set := by
        have ex := mnI_ext (f := fun p => rwk (ry l) p (set - 2 ^ p) + ry l (6 * p + 0)) (g := fun p => set.testBit p) (m0 := a0) (6 - (ld_p l).length) (ld_p l).length (fun p h1 h2 => by
          have : 2 ^ (ld_p l).length ≤ 2 ^ p := p2_6 h1
          exact Nat.testBit_lt_two_pow (by omega))
        rw [← ex, show (ld_p l).length + (6 - (ld_p l).length) = 6 by omega]
        by_cases c : set = 0
        · rw [c, rwk_0, ry_00 W.ok]
          have e2 := mnI_ext (f := fun p => rwk (ry l) p (0 - 2 ^ p) + ry l (6 * p + 0)) (g := fun p => (0 : Nat).testBit p) (m0 := a0) 6 0 (fun p _ _ => Nat.zero_testBit p)
          rw [show 0 + 6 = 6 from rfl] at e2
          rw [e2, ea, if_pos c]
          rfl
        · rw [rwk_s (by omega) c, ea, if_neg c]
      rw [e]) (fun j hj ih l4 => by
      have bs := mnI_is (g := fun p => set.testBit p) (f := fun p => rwk (ry l) p (set - 2 ^ p) + ry l (6 * p + 0)) (m0 := a0) j
      rw [mnI_s] at ih
      generalize mnI (fun p => set.testBit p) (fun p => rwk (ry l) p (set - 2 ^ p) + ry l (6 * p + 0)) a0 j = cur at *
      have b6 := bs.1
      have ij : 6 * set + j < 384 := by omega
      have hh := hH set j hs hj
      have hl := hv_le (l := l) (set := set) (k := j) hX (by omega)
      have xj := hX (6 * j + 0)
      rw [b300_14]
      simp only [(RS.ok W.1), (RS.fr W.1), true_and, and_true, true_or, or_true, W.1.l149, W.np]
      rw [if_neg (by rw [ii_le (by omega) (by omega) (by omega) (by omega)]; omega), c185 (by omega), wb_ii (by omega)]
      cases bj : set.testBit j with
      | true =>
        have ev : hv l set j = rwk (ry l) j (set - 2 ^ j) := by unfold hv; rw [if_pos bj]
        rw [if_pos bj] at ih
        rw [if_pos rfl, if_neg (by decide), ix6]
        simp only [(RS.ok W.1), (RS.fr W.1), true_and, and_true, true_or, or_true, W.1.x198 ij, hh]
        rw [show ii 0 = ii ((0 : Nat) : Int) from rfl, c258 W.1 hF (by omega) (by decide), ev]
        rw [ev] at hl
        rw [show ii (rwk (ry l) j (set - 2 ^ j) : Nat) + ii (ry l (6 * j + 0) : Nat) = ii ((rwk (ry l) j (set - 2 ^ j) + ry l (6 * j + 0) : Nat) : Int) from ii_add _ _]
        rw [b300_56]
        by_cases c : rwk (ry l) j (set - 2 ^ j) + ry l (6 * j + 0) < cur
        · rw [if_neg (by rw [ii_le (by omega) (by omega) (by omega) (by omega)]; omega), b300_70, show ii (j : Nat) + ii 1 = ii ((j + 1 : Nat) : Int) from ii_add _ _]
          rw [if_pos c] at ih
          exact ih _
        · rw [if_pos (by rw [ii_le (by omega) (by omega) (by omega) (by omega)]; omega), b300_70, show ii (j : Nat) + ii 1 = ii ((j + 1 : Nat) : Int) from ii_add _ _]
          rw [if_neg c] at ih
          exact ih _
      | false =>
        rw [if_neg (by rw [bj]; exact Bool.false_ne_true)] at ih
        rw [if_neg Bool.false_ne_true, if_pos rfl, b300_56]
        rw [if_pos (by rw [show ii 100000 = ii (100000 : Int) from rfl, ii_le (by omega) (by omega) (by omega) (by omega)]; omega), b300_70, show ii (j : Nat) + ii 1 = ii ((j + 1 : Nat) : Int) from ii_add _ _]
        exact ih _) (Nat.zero_le _) none
    rw [b300_11]
    exact L
  rw [e300, b300_0]
  by_cases c : set = 0
  · rw [if_neg (by rw [c]; exact fun n => n rfl)]
    exact main 0 (by rw [if_pos c])
  · rw [if_pos (by rw [show ii 0 = ii (0 : Int) from rfl, ii_eq (by omega) (by omega) (by omega) (by omega)]; omega)]
    have := main 100000 (by rw [if_neg c])
    rw [show ii ((100000 : Nat) : Int) = ii 100000 from congrArg ii (by omega)] at this
    exact this
end Sd
