/-! THE REFERENCE: a fact forgotten, a day passes -/
section Rq
variable {d : Nat} {h h1 h2 : mHeap} {l : Ld} {m m' : Mo} {S : List Wd} {k n q f w b : Nat} {V : Wd} {x : Nat → Int32} {v : Int32} {Q : Option Value → mHeap → Prop}
theorem c276_10 {x1 x2 : Int32} {l4 : Option Value} (hR : RS h) (hG : ∀ h1, RF [] [193] h h1 → (∀ i, i < 8 → xA h1 193 i = ii 0) → Go d 276 31 [some (.ref 148), some (.int x1), some (.int x2), some (.int (ii 0)), l4] [] h1 Q) : Go d 276 10 [some (.ref 148), some (.int x1), some (.int x2), some (.int (ii 0)), l4] [] h Q := by
  refine Go_loop (fun j L h' => L = [some (.ref 148), some (.int x1), some (.int x2), some (.int (ii (j : Nat))), l4] ∧ RF [] [193] h h' ∧ ∀ i, i < j → xA h' 193 i = ii 0) 8 ?_ ?_ 0 _ h (Nat.zero_le _) ⟨rfl, RF.rf, fun i hi => absurd hi (Nat.not_lt_zero _)⟩
  · rintro j L h' hj ⟨rfl, z, x1⟩ nx
    have hR' : RS h' := z.rs hR (by decide)
    rw [b276_10, if_neg (by rw [show ii 8 = ii (8 : Int) from rfl, ii_le (by omega) (by omega) (by omega) (by omega)]; omega)]
    simp only [(RS.ok hR'), (RS.fr hR'), true_and, and_true, true_or, or_true, hR'.x193 (show j < 8 by omega)]
    refine ⟨by decide, ?_⟩
    rw [show ii (j : Nat) + ii 1 = ii ((j + 1 : Nat) : Int) from ii_add _ _]
    refine nx _ _ ⟨rfl, z.tr RF.sI, fun i hi => ?_⟩
    rw [hR'.s193 (show j < 8 by omega), if_pos rfl]
    unfold upf
    by_cases c : i = j
    · rw [if_pos c]
    · rw [if_neg c]; exact x1 i (by omega)
  · rintro L h' ⟨rfl, z, x1⟩
    rw [b276_10, if_pos (show ii 8 ≤ ii ((8 : Nat) : Int) by decide)]
    exact hG h' z x1
theorem wb_ors (hk : k < 32) {j : Nat} (hj : j < 32) {y : Int32} : wb (y ||| shl (ii 1) (ii (k : Nat))) j = (wb y j || decide (k = j)) := by rw [wb_or, wb_shl hj hk]
theorem c276_31 {l4 : Option Value} (hR : RS h) (e : xA h 149 0 = ii (n : Nat)) (hn : n ≤ 8) (hq : q < 7) (hf : f < n) (h0 : ∀ i, i < 8 → xA h 193 i = ii 0) (hG : ∀ h1 l4', RF [] [193] h h1 → (∀ w, rw8 (xA h1 193) 0 w = (decide (w < 2 ^ n) && (rw8 (xA h 163) q w || rw8 (xA h 163) q (w ^^^ 2 ^ f)))) → Go (d + 3) 276 95 [some (.ref 148), some (.int (ii (f : Nat))), some (.int (ii (q : Nat))), some (.int (ii 0)), l4'] [] h1 Q) : Go (d + 3) 276 31 [some (.ref 148), some (.int (ii (f : Nat))), some (.int (ii (q : Nat))), some (.int (ii 0)), l4] [] h Q := by
  have n256 : 2 ^ n ≤ 256 := pow_le hn
  refine Go_loop (fun j L h' => (∃ l4', L = [some (.ref 148), some (.int (ii (f : Nat))), some (.int (ii (q : Nat))), some (.int (ii (j : Nat))), l4']) ∧ RF [] [193] h h' ∧ ∀ w, rw8 (xA h' 193) 0 w = (decide (w < j) && (rw8 (xA h 163) q w || rw8 (xA h 163) q (w ^^^ 2 ^ f)))) (2 ^ n) ?_ ?_ 0 _ h (Nat.zero_le _) ⟨⟨l4, rfl⟩, RF.rf, fun w => ?_⟩
  · rintro j L h' hj ⟨⟨l4', rfl⟩, z, x2⟩ nx
    have hR' : RS h' := z.rs hR (by decide)
    have e0 : xA h' 149 0 = ii (n : Nat) := by rw [z.ae (by decide) (by decide)]; exact e
    have e1 : xA h' 163 = xA h 163 := z.ae (by decide) (by decide)
    have ex : (j ^^^ 2 ^ f) < 2 ^ n := Nat.xor_lt_two_pow hj (Nat.pow_lt_pow_right (by decide) hf)
    rw [b276_31]
    simp only [(RS.ok hR'), (RS.fr hR'), true_and, and_true, true_or, or_true]
    rw [c191r hR' e0 hn]
    rw [if_neg (by rw [ii_le (by omega) (by omega) (by omega) (by omega)]; omega)]
    simp only [(RS.ok hR'), (RS.fr hR'), true_and, and_true, true_or, or_true, wx j (show j < 256 by omega), hR'.x193 (show j / 32 < 8 by omega), i32n]
    rw [c251 hR' hq (by omega), e1]
    have yes : (rw8 (xA h 163) q j || rw8 (xA h 163) q (j ^^^ 2 ^ f)) = true → ∀ l4'', Go (d + 3) 276 75 [some (.ref 148), some (.int (ii (f : Nat))), some (.int (ii (q : Nat))), some (.int (ii (j : Nat))), l4''] [.int (xA h' 193 (j / 32)), .int (ii ((j / 32 : Nat) : Int)), .ref 193] h' Q := fun y l4'' => by
      rw [b276_75, b276_85]
      simp only [(RS.ok hR'), (RS.fr hR'), true_and, and_true, true_or, or_true, wx j (show j < 256 by omega), hR'.x193 (show j / 32 < 8 by omega), i32n]
      refine ⟨by decide, ?_⟩
      rw [show ii (j : Nat) + ii 1 = ii ((j + 1 : Nat) : Int) from ii_add _ _]
      refine nx _ _ ⟨⟨_, rfl⟩, z.tr RF.sI, fun w => ?_⟩
      rw [hR'.s193 (show j / 32 < 8 by omega), if_pos rfl]
      have g := rw8_up (x := xA h' 193) (q := 0) (k := j / 32) (v := xA h' 193 (j / 32) ||| shl (ii 1) (ii ((j % 32 : Nat) : Int))) (w := w) (by omega)
      rw [show 8 * 0 + j / 32 = j / 32 by omega] at g
      rw [g]
      by_cases c : w < 256 ∧ w / 32 = j / 32
      · rw [if_pos c, wb_ors (by omega) (by omega)]
        have g2 : rw8 (xA h' 193) 0 w = wb (xA h' 193 (j / 32)) (w % 32) := by
          rw [show w = 32 * (j / 32) + w % 32 by omega, rw8_at (by omega) (by omega), show (32 * (j / 32) + w % 32) % 32 = w % 32 by omega, show 8 * 0 + j / 32 = j / 32 by omega]
        rw [← g2, x2]
        by_cases c2 : w = j
        · subst c2
          rw [y, decide_eq_true (show w % 32 = w % 32 from rfl), decide_eq_true (show w < w + 1 by omega)]
          simp
        · rw [decide_eq_false (show ¬ j % 32 = w % 32 by omega), Bool.or_false]
          have e : decide (w < j) = decide (w < j + 1) := decide_eq_decide.mpr ⟨fun g => by omega, fun g => by omega⟩
          rw [e]
      · rw [if_neg c, x2]
        have e : decide (w < j) = decide (w < j + 1) := decide_eq_decide.mpr ⟨fun g => by omega, fun g => by
          by_cases c2 : w = j
          · exact absurd (show w < 256 ∧ w / 32 = j / 32 by subst c2; exact ⟨by omega, rfl⟩) c
          · omega⟩
        rw [e]
    cases e2 : rw8 (xA h 163) q j with
    | true =>
      rw [if_pos rfl, if_pos (by decide)]
      exact yes (by rw [e2]; rfl) _
    | false =>
      rw [if_neg Bool.false_ne_true, if_neg (fun n => n rfl)]
      simp only [(RS.ok hR'), (RS.fr hR'), true_and, and_true, true_or, or_true]
      rw [shl1 (by omega), xor_ii, c251 hR' hq (by omega), e1]
      cases e3 : rw8 (xA h 163) q (j ^^^ 2 ^ f) with
      | true =>
        rw [if_pos rfl, if_neg (by decide)]
        exact yes (by rw [e3, Bool.or_true]) _
      | false =>
        rw [if_neg Bool.false_ne_true, if_pos rfl, b276_85]
        simp only [(RS.ok hR'), (RS.fr hR'), true_and, and_true, true_or, or_true, hR'.x193 (show j / 32 < 8 by omega)]
        refine ⟨by decide, ?_⟩
        rw [show ii (j : Nat) + ii 1 = ii ((j + 1 : Nat) : Int) from ii_add _ _]
        refine nx _ _ ⟨⟨_, rfl⟩, z.tr RF.sI, fun w => ?_⟩
        rw [hR'.s193 (show j / 32 < 8 by omega), if_pos rfl]
        have g0 : upf (xA h' 193) (j / 32) (xA h' 193 (j / 32) ||| ii 0) = xA h' 193 := by
          funext i
          unfold upf
          by_cases c : i = j / 32
          · rw [if_pos c, c]
            exact wb_ext fun k hk => by rw [wb_or, wb_0, Bool.or_false]
          · rw [if_neg c]
        rw [g0, x2]
        by_cases c2 : w = j
        · subst c2
          rw [e2, e3]
          simp
        · have e : decide (w < j) = decide (w < j + 1) := decide_eq_decide.mpr ⟨fun g => by omega, fun g => by omega⟩
          rw [e]
  · rintro L h' ⟨⟨l4', rfl⟩, z, x2⟩
    have hR' : RS h' := z.rs hR (by decide)
    have e0 : xA h' 149 0 = ii (n : Nat) := by rw [z.ae (by decide) (by decide)]; exact e
    rw [b276_31]
    simp only [(RS.ok hR'), (RS.fr hR'), true_and, and_true, true_or, or_true]
    rw [c191r hR' e0 hn, if_pos (Int32.le_refl _)]
    exact hG h' _ z x2
  · rw [decide_eq_false (Nat.not_lt_zero _), Bool.false_and]
    unfold rw8
    by_cases c : w < 256
    · rw [show 8 * 0 + w / 32 = w / 32 by omega, h0 _ (by omega), wb_0, Bool.and_false]
    · rw [decide_eq_false c, Bool.false_and]
theorem c276_95 {x1 : Int32} {l4 : Option Value} (hR : RS h) (hq : q < 7) (hG : ∀ h1, Hw h h1 q (rw8 (xA h 193) 0) → Go d 276 2 [some (.ref 148), some (.int x1), some (.int (ii ((q + 1 : Nat) : Int))), some (.int (ii 8)), l4] [] h1 Q) : Go d 276 95 [some (.ref 148), some (.int x1), some (.int (ii (q : Nat))), some (.int (ii 0)), l4] [] h Q := by
  refine Go_loop (fun j L h' => L = [some (.ref 148), some (.int x1), some (.int (ii (q : Nat))), some (.int (ii (j : Nat))), l4] ∧ RF [] [163] h h' ∧ ∀ i, xA h' 163 i = if 8 * q ≤ i ∧ i < 8 * q + j then xA h 193 (i - 8 * q) else xA h 163 i) 8 ?_ ?_ 0 _ h (Nat.zero_le _) ⟨rfl, RF.rf, fun i => by rw [if_neg (by omega)]⟩
  · rintro j L h' hj ⟨rfl, z, x2⟩ nx
    have hR' : RS h' := z.rs hR (by decide)
    rw [b276_95, if_neg (by rw [show ii 8 = ii (8 : Int) from rfl, ii_le (by omega) (by omega) (by omega) (by omega)]; omega)]
    simp only [(RS.ok hR'), (RS.fr hR'), true_and, and_true, true_or, or_true, ix8, hR'.x193 hj, hR'.x163 (show 8 * q + j < 56 by omega)]
    refine ⟨by decide, ?_⟩
    rw [show ii (j : Nat) + ii 1 = ii ((j + 1 : Nat) : Int) from ii_add _ _]
    refine nx _ _ ⟨rfl, z.tr RF.sI, fun i => ?_⟩
    rw [hR'.s163 (show 8 * q + j < 56 by omega), if_pos rfl]
    unfold upf
    by_cases c : i = 8 * q + j
    · rw [if_pos c, if_pos (by omega), z.ae (by decide) (by decide)]
      exact congrArg _ (by omega)
    · rw [if_neg c, x2]
      by_cases c2 : 8 * q ≤ i ∧ i < 8 * q + j
      · rw [if_pos c2, if_pos (by omega)]
      · rw [if_neg c2, if_neg (by omega)]
  · rintro L h' ⟨rfl, z, x2⟩
    rw [b276_95, if_pos (show ii 8 ≤ ii ((8 : Nat) : Int) by decide)]
    rw [show ii (q : Nat) + ii 1 = ii ((q + 1 : Nat) : Int) from ii_add _ _]
    refine hG h' ⟨z, rw8_ext (fun j i hj hi => ?_) (fun w hw => rw8_ge hw), fun b hb => rw8_cong fun j hj => ?_⟩
    · rw [x2, if_pos (by omega), rw8_at hj hi]
      exact congrArg (fun t => wb (xA h 193 t) i) (by omega)
    · rw [x2, if_neg (by omega)]
theorem c276 {K : mHeap → Prop} (W : Rw h l m S) (hf : f < ld_n l) (hK : ∀ h1, RF [] [163, 193] h h1 → (∀ b, b < 7 → (∀ w, rw8 (xA h 163) b w = true → w < 2 ^ ld_n l) → rw8 (xA h1 163) b = spr f (rw8 (xA h 163) b)) → K h1) : GoCv (d + 4) 276 [.ref 148, .int (ii (f : Nat))] h K := by
  have n8 := W.n8
  rw [e276, b276_0]
  refine Go_loop (fun j L h' => (∃ l3 l4, L = [some (.ref 148), some (.int (ii (f : Nat))), some (.int (ii (j : Nat))), l3, l4]) ∧ RF [] [163, 193] h h' ∧ ∀ b, b < 7 → if b < j then ((∀ w, rw8 (xA h 163) b w = true → w < 2 ^ ld_n l) → rw8 (xA h' 163) b = spr f (rw8 (xA h 163) b)) else rw8 (xA h' 163) b = rw8 (xA h 163) b) 7 ?_ ?_ 0 _ h (Nat.zero_le _) ⟨⟨_, _, rfl⟩, RF.rf, fun b _ => by rw [if_neg (by omega)]⟩
  · rintro j L h' hj ⟨⟨l3, l4, rfl⟩, z, x2⟩ nx
    have hR' : RS h' := z.rs W.1 (by decide)
    rw [b276_2, if_neg (by rw [show ii 6 = ii (6 : Int) from rfl, ii_lt (by omega) (by omega) (by omega) (by omega)]; omega)]
    refine c276_10 hR' (fun h1 z1 y1 => ?_)
    have hR1 : RS h1 := z1.rs hR' (by decide)
    refine c276_31 hR1 (n := ld_n l) (by rw [z1.ae (by decide) (by decide), z.ae (by decide) (by decide)]; exact W.n) n8 hj hf y1 (fun h2 l4' z2 y2 => ?_)
    have hR2 : RS h2 := z2.rs hR1 (by decide)
    refine c276_95 hR2 hj (fun h3 z3 => ?_)
    refine nx _ _ ⟨⟨_, _, rfl⟩, z.tr ((z1.wd (by decide) (by decide)).tr ((z2.wd (by decide) (by decide)).tr (z3.1.wd (by decide) (by decide)))), fun b hb => ?_⟩
    have e0 : xA h2 163 = xA h' 163 := (z2.ae (by decide) (by decide)).trans (z1.ae (by decide) (by decide))
    have e1 : xA h1 163 = xA h' 163 := z1.ae (by decide) (by decide)
    have g := x2 b hb
    by_cases c : b = j
    · subst c
      rw [if_neg (by omega)] at g
      rw [if_pos (by omega)]
      intro hV
      rw [z3.2.1]
      funext w
      rw [y2, e1, g]
      unfold spr
      by_cases c1 : w < 2 ^ ld_n l
      · have n256 := W.n256
        rw [decide_eq_true c1, decide_eq_true (show w < 256 by omega)]
      · rw [decide_eq_false c1, Bool.false_and]
        have a1 : rw8 (xA h 163) b w = false := by
          cases e : rw8 (xA h 163) b w with
          | false => rfl
          | true => exact absurd (hV w e) c1
        have a2 : rw8 (xA h 163) b (w ^^^ 2 ^ f) = false := by
          cases e : rw8 (xA h 163) b (w ^^^ 2 ^ f) with
          | false => rfl
          | true =>
            have g1 := hV _ e
            have g2 := Nat.xor_lt_two_pow g1 (Nat.pow_lt_pow_right (by decide : 1 < 2) hf)
            rw [xor_back] at g2
            exact absurd g2 c1
        rw [a1, a2]
        simp
    · rw [z3.2.2 b c, e0]
      by_cases c1 : b < j
      · rw [if_pos c1] at g
        rw [if_pos (by omega)]
        exact g
      · rw [if_neg c1] at g
        rw [if_neg (by omega)]
        exact g
  · rintro L h' ⟨⟨l3, l4, rfl⟩, z, x2⟩
    rw [b276_2, if_pos (by decide), rV_s]
    refine hK h' z (fun b hb => ?_)
    have g := x2 b hb
    rw [if_pos hb] at g
    exact g
end Rq
