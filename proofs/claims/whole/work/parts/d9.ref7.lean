/-! THE REFERENCE: what one knows becomes less, or more -/
section Ro
variable {d : Nat} {h h1 h2 : mHeap} {l : Ld} {m m' : Mo} {S : List Wd} {k n q f w b : Nat} {V : Wd} {x : Nat → Int32} {v : Int32}
def Hw (h h1 : mHeap) (q : Nat) (V : Wd) : Prop := RF [] [163] h h1 ∧ rw8 (xA h1 163) q = V ∧ ∀ b, ¬ b = q → rw8 (xA h1 163) b = rw8 (xA h 163) b
theorem rw8_up (hk : k < 8) : rw8 (upf x (8 * q + k) v) q w = if w < 256 ∧ w / 32 = k then wb v (w % 32) else rw8 x q w := by
  unfold rw8 upf
  by_cases c : w < 256
  · rw [decide_eq_true c, Bool.true_and, Bool.true_and]
    by_cases e : w / 32 = k
    · rw [if_pos (by omega), if_pos ⟨c, e⟩]
    · rw [if_neg (by omega), if_neg (fun g => e g.2)]
  · rw [decide_eq_false c, Bool.false_and, Bool.false_and, if_neg (fun g => c g.1)]
theorem rw8_up_o (hk : k < 8) (hb : ¬ b = q) : rw8 (upf x (8 * q + k) v) b = rw8 x b := rw8_cong fun j hj => by
  unfold upf
  rw [if_neg (by omega)]
theorem c249 {K : mHeap → Prop} (hR : RS h) (hq : q < 7) (hk : k < 24) (hK : ∀ h1, Hw h h1 q (capW (rw8 (xA h 163) q) (rw8 (xA h 183) k)) → K h1) : GoCv (d + 1) 249 [.ref 148, .int (ii (q : Nat)), .int (ii (k : Nat))] h K := by
  rw [e249, b249_0]
  refine Go_loop (fun j L h' => L = [some (.ref 148), some (.int (ii (q : Nat))), some (.int (ii (k : Nat))), some (.int (ii (j : Nat)))] ∧ RF [] [163] h h' ∧ (∀ b, ¬ b = q → rw8 (xA h' 163) b = rw8 (xA h 163) b) ∧ ∀ w, rw8 (xA h' 163) q w = if w < 32 * j then rw8 (xA h 163) q w && rw8 (xA h 183) k w else rw8 (xA h 163) q w) 8 ?_ ?_ 0 _ h (Nat.zero_le _) ⟨rfl, RF.rf, fun _ _ => rfl, fun w => by rw [if_neg (by omega)]⟩
  · rintro j L h' hj ⟨rfl, z, x1, x2⟩ nx
    have hR' : RS h' := z.rs hR (by decide)
    rw [b249_2]
    rw [if_neg (by rw [show ii 8 = ii (8 : Int) from rfl, ii_le (by omega) (by omega) (by omega) (by omega)]; omega)]
    simp only [(RS.ok hR'), (RS.fr hR'), true_and, and_true, true_or, or_true, ix8, hR'.x163 (show 8 * q + j < 56 by omega), hR'.x183 (show 8 * k + j < 192 by omega)]
    refine ⟨by decide, ?_⟩
    rw [show ii (j : Nat) + ii 1 = ii ((j + 1 : Nat) : Int) from ii_add _ _]
    refine nx _ _ ⟨rfl, z.tr RF.sI, fun b hb => ?_, fun w => ?_⟩
    · rw [hR'.s163 (show 8 * q + j < 56 by omega), if_pos rfl, rw8_up_o hj hb]
      exact x1 b hb
    · rw [hR'.s163 (show 8 * q + j < 56 by omega), if_pos rfl, rw8_up hj]
      by_cases c : w < 256 ∧ w / 32 = j
      · rw [if_pos c, wb_and, if_pos (by omega)]
        have g := x2 w
        rw [if_neg (by omega), show w = 32 * j + w % 32 by omega, rw8_at hj (by omega), rw8_at hj (by omega)] at g
        rw [show w = 32 * j + w % 32 by omega, rw8_at hj (by omega), rw8_at hj (by omega), show (32 * j + w % 32) % 32 = w % 32 by omega, z.ae (show ¬ 183 = 148 by decide) (by decide)]
        have g2 : wb (xA h' 163 (8 * q + j)) (w % 32) = wb (xA h 163 (8 * q + j)) (w % 32) := by
          have := x2 (32 * j + w % 32)
          rw [if_neg (by omega), rw8_at hj (by omega), rw8_at hj (by omega)] at this
          exact this
        rw [g2]
      · rw [if_neg c, x2]
        by_cases c2 : w < 32 * j
        · rw [if_pos c2, if_pos (by omega)]
        · rw [if_neg c2]
          by_cases c3 : w < 32 * (j + 1)
          · exact absurd (show w < 256 ∧ w / 32 = j from ⟨by omega, by omega⟩) c
          · rw [if_neg c3]
  · rintro L h' ⟨rfl, z, x1, x2⟩
    rw [b249_2, if_pos (show ii 8 ≤ ii ((8 : Nat) : Int) by decide), rV_s]
    refine hK h' ⟨z, ?_, x1⟩
    funext w
    rw [x2]
    unfold capW
    by_cases c : w < 32 * 8
    · rw [if_pos c, decide_eq_true (show w < 256 by omega), Bool.true_and]
    · rw [if_neg c, decide_eq_false (show ¬ w < 256 by omega), Bool.false_and]
      exact rw8_ge (by omega)
theorem Hw.rs (z : Hw h h1 q V) (hR : RS h) : RS h1 := z.1.rs hR (by decide)
/-- the moment behind a change of what one knows -/
theorem Hw.hw (z : Hw h h1 q V) (W : Rw h l m S) (hq : q < (ld_q l).length ∨ q = 6) (hV : ∀ w, V w = true → w < 2 ^ ld_n l) : Rw h1 l (mo_sw m (if q = 6 then 0 else q + 1) V) S := by
  have q6 := W.q6
  refine W.mv z.1 (by decide) (by decide) (by decide) (fun i _ _ _ _ => by rw [z.1.ae (by decide) (by decide)]) ⟨⟨?_, ?_⟩, fun p hp => ?_, ?_⟩ ⟨W.mj.1, W.mj.2.1, W.mj.2.2.1, fun i w hi hw => ?_⟩
  · exact (z.1.lv (by decide) (by decide) 6).trans W.day
  · exact (z.1.lv (by decide) (by decide) 1).trans W.so
  · have g := W.mo hp
    refine ⟨(z.1.lv (by decide) (by decide) p).trans g.1, (z.1.lv (by decide) (by decide) p).trans g.2.1, (z.1.lv (by decide) (by decide) p).trans g.2.2.1, ?_⟩
    show rw8 (lv h1 163) p = upf (mo_w m) (if q = 6 then 0 else q + 1) V (p + 1)
    rw [lv_x (by decide)]
    unfold upf
    by_cases c : p = q
    · subst c
      rw [if_pos (by rw [if_neg (by omega)])]
      exact z.2.1
    · rw [if_neg (by split <;> omega), z.2.2 p c]
      exact g.2.2.2
  · show rw8 (lv h1 163) 6 = upf (mo_w m) (if q = 6 then 0 else q + 1) V 0
    rw [lv_x (by decide)]
    unfold upf
    by_cases c : q = 6
    · subst c
      rw [if_pos (by rw [if_pos rfl])]
      exact z.2.1
    · rw [if_neg (by rw [if_neg c]; omega), z.2.2 6 (fun e => c e.symm)]
      exact W.br
  · have e : mo_w (mo_sw m (if q = 6 then 0 else q + 1) V) = upf (mo_w m) (if q = 6 then 0 else q + 1) V := rfl
    rw [e] at hw
    unfold upf at hw
    by_cases c : i = (if q = 6 then 0 else q + 1)
    · rw [if_pos c] at hw
      exact hV w hw
    · rw [if_neg c] at hw
      exact W.mj.2.2.2 i w hi hw
theorem c191r {K : Int32 → mHeap → Prop} (hR : RS h) (e : xA h 149 0 = ii (n : Nat)) (hn : n ≤ 8) : GoCi (d + 1) 191 [.ref 148] h K ↔ K (ii ((2 ^ n : Nat) : Int)) h := by
  rw [e191, b191_0]
  simp only [(RS.ok hR), (RS.fr hR), true_and, and_true, true_or, or_true, hR.l149, e, rI_s]
  rw [shl1 (by omega)]
theorem c253 {K : mHeap → Prop} (W : Rw h l m S) (hq : q < 7) (hf : f < 8) (hV : ∀ w, rw8 (xA h 163) q w = true → w < 2 ^ ld_n l) (hK : ∀ h1, Hw h h1 q (seeW (rw8 (xA h 163) q) f (mo_f m)) → K h1) : GoCv (d + 2) 253 [.ref 148, .int (ii (q : Nat)), .int (ii (f : Nat))] h K := by
  have n256 := W.n256
  have f8 := W.f8
  rw [e253, b253_0]
  refine Go_loop (fun j L h' => L = [some (.ref 148), some (.int (ii (q : Nat))), some (.int (ii (f : Nat))), some (.int (ii (j : Nat)))] ∧ RF [] [163] h h' ∧ (∀ b, ¬ b = q → rw8 (xA h' 163) b = rw8 (xA h 163) b) ∧ ∀ w, rw8 (xA h' 163) q w = (rw8 (xA h 163) q w && (decide (j ≤ w) || (w.testBit f == (mo_f m).testBit f)))) (2 ^ ld_n l) ?_ ?_ 0 _ h (Nat.zero_le _) ⟨rfl, RF.rf, fun _ _ => rfl, fun w => by rw [decide_eq_true (Nat.zero_le w), Bool.true_or, Bool.and_true]⟩
  · rintro j L h' hj ⟨rfl, z, x1, x2⟩ nx
    have hR' : RS h' := z.rs W.1 (by decide)
    have e0 : xA h' 149 0 = ii (ld_n l : Nat) := by rw [z.ae (by decide) (by decide)]; exact W.n
    have e1 : xA h' 149 1 = ii (mo_f m : Nat) := by rw [z.ae (by decide) (by decide)]; exact W.so
    rw [b253_2]
    simp only [(RS.ok hR'), (RS.fr hR'), true_and, and_true, true_or, or_true]
    rw [c191r hR' e0 W.n8]
    rw [if_neg (by rw [ii_le (by omega) (by omega) (by omega) (by omega)]; omega)]
    rw [c185 (by omega), wb_ii (by omega)]
    simp only [(RS.ok hR'), (RS.fr hR'), true_and, and_true, true_or, or_true, hR'.l149, e1]
    rw [c185 (by omega), wb_ii (by omega)]
    by_cases c : j.testBit f = (mo_f m).testBit f
    · rw [if_pos (b1eq.mpr c), b253_53, show ii (j : Nat) + ii 1 = ii ((j + 1 : Nat) : Int) from ii_add _ _]
      refine nx _ _ ⟨rfl, z, x1, fun w => ?_⟩
      rw [x2]
      by_cases c2 : w = j
      · rw [c2, c]
        simp
      · have : decide (j ≤ w) = decide (j + 1 ≤ w) := decide_eq_decide.mpr ⟨fun g => by omega, fun g => by omega⟩
        rw [this]
    · rw [if_neg (fun g => c (b1eq.mp g))]
      simp only [(RS.ok hR'), (RS.fr hR'), true_and, and_true, true_or, or_true, wx j (show j < 256 by omega), ix8, hR'.x163 (show 8 * q + j / 32 < 56 by omega), i32n]
      refine ⟨by decide, ?_⟩
      rw [b253_53, show ii (j : Nat) + ii 1 = ii ((j + 1 : Nat) : Int) from ii_add _ _]
      refine nx _ _ ⟨rfl, z.tr RF.sI, fun b hb => ?_, fun w => ?_⟩
      · rw [hR'.s163 (show 8 * q + j / 32 < 56 by omega), if_pos rfl, rw8_up_o (by omega) hb]
        exact x1 b hb
      · rw [hR'.s163 (show 8 * q + j / 32 < 56 by omega), if_pos rfl, rw8_up (by omega)]
        by_cases c3 : w < 256 ∧ w / 32 = j / 32
        · rw [if_pos c3, wb_and, wb_no (by omega), wb_shl (by omega) (by omega)]
          have g := x2 w
          have g3 : rw8 (xA h' 163) q w = wb (xA h' 163 (8 * q + j / 32)) (w % 32) := by
            rw [show w = 32 * (j / 32) + w % 32 by omega, rw8_at (by omega) (by omega), show (32 * (j / 32) + w % 32) % 32 = w % 32 by omega]
          rw [← g3, g]
          by_cases c2 : w = j
          · subst c2
            have c' : (w.testBit f == (mo_f m).testBit f) = false := by
              revert c
              cases w.testBit f <;> cases (mo_f m).testBit f <;> simp
            rw [c', decide_eq_true (show w % 32 = w % 32 from rfl), decide_eq_false (show ¬ w + 1 ≤ w by omega)]
            simp
          · have e : decide (j ≤ w) = decide (j + 1 ≤ w) := decide_eq_decide.mpr ⟨fun g => by omega, fun g => by omega⟩
            rw [e, decide_eq_false (show ¬ j % 32 = w % 32 by omega)]
            simp
        · rw [if_neg c3, x2]
          have e : decide (j ≤ w) = decide (j + 1 ≤ w) := decide_eq_decide.mpr ⟨fun g => by
            by_cases c2 : w = j
            · exact absurd (show w < 256 ∧ w / 32 = j / 32 by subst c2; exact ⟨by omega, rfl⟩) c3
            · omega, fun g => by omega⟩
          rw [e]
  · rintro L h' ⟨rfl, z, x1, x2⟩
    have hR' : RS h' := z.rs W.1 (by decide)
    have e0 : xA h' 149 0 = ii (ld_n l : Nat) := by rw [z.ae (by decide) (by decide)]; exact W.n
    rw [b253_2]
    simp only [(RS.ok hR'), (RS.fr hR'), true_and, and_true, true_or, or_true]
    rw [c191r hR' e0 W.n8, if_pos (Int32.le_refl _), rV_s]
    refine hK h' ⟨z, ?_, x1⟩
    funext w
    rw [x2]
    unfold seeW
    cases e : rw8 (xA h 163) q w with
    | false => simp
    | true =>
      have := hV w e
      rw [decide_eq_true (show w < 256 by omega), decide_eq_false (show ¬ 2 ^ ld_n l ≤ w by omega)]
      simp
theorem c252 {K : Int32 → mHeap → Prop} (W : Rw h l m S) (hq : q < 7) (hf : f < 8) : GoCi (d + 3) 252 [.ref 148, .int (ii (q : Nat)), .int (ii (f : Nat))] h K ↔ K (bP (∀ w, w < 2 ^ ld_n l → rw8 (xA h 163) q w = true → w.testBit f = (mo_f m).testBit f)) h := by
  have n256 := W.n256
  rw [e252, b252_0]
  have L := downA (n := 2 ^ ld_n l) (P := fun j => (Go (d + 2) 252 5 [some (.ref 148), some (.int (ii (q : Nat))), some (.int (ii (f : Nat))), some (.int (bP (∀ w, w < j → rw8 (xA h 163) q w = true → w.testBit f = (mo_f m).testBit f))), some (.int (ii (j : Nat)))] [] h (rI K) ↔ K (bP (∀ w, w < 2 ^ ld_n l → rw8 (xA h 163) q w = true → w.testBit f = (mo_f m).testBit f)) h)) (by
    rw [b252_5]
    simp only [(RS.ok W.1), (RS.fr W.1), true_and, and_true, true_or, or_true]
    rw [c191 W, if_pos (Int32.le_refl _), bP_01, true_and, rI_s]) (fun j hj ih => by
    rw [b252_5]
    simp only [(RS.ok W.1), (RS.fr W.1), true_and, and_true, true_or, or_true]
    rw [c191 W, if_neg (by rw [ii_le (by omega) (by omega) (by omega) (by omega)]; omega)]
    have nxt : ∀ b : Prop, (b ↔ ∀ w, w < j + 1 → rw8 (xA h 163) q w = true → w.testBit f = (mo_f m).testBit f) → (Go (d + 2) 252 5 [some (.ref 148), some (.int (ii (q : Nat))), some (.int (ii (f : Nat))), some (.int (bP b)), some (.int (ii (j : Nat) + ii 1))] [] h (rI K) ↔ K (bP (∀ w, w < 2 ^ ld_n l → rw8 (xA h 163) q w = true → w.testBit f = (mo_f m).testBit f)) h) := fun b hb => by
      rw [bP_cong hb, show ii (j : Nat) + ii 1 = ii ((j + 1 : Nat) : Int) from ii_add _ _]
      exact ih
    by_cases g : ∀ w, w < j → rw8 (xA h 163) q w = true → w.testBit f = (mo_f m).testBit f
    · rw [if_neg (by rw [bP_0]; exact fun n => n g)]
      simp only [(RS.ok W.1), (RS.fr W.1), true_and, and_true, true_or, or_true]
      rw [c251 W.1 hq (by omega)]
      have yes : (rw8 (xA h 163) q j = true → j.testBit f = (mo_f m).testBit f) → (Go (d + 2) 252 47 [some (.ref 148), some (.int (ii (q : Nat))), some (.int (ii (f : Nat))), some (.int (bP (∀ w, w < j → rw8 (xA h 163) q w = true → w.testBit f = (mo_f m).testBit f))), some (.int (ii (j : Nat)))] [] h (rI K) ↔ K (bP (∀ w, w < 2 ^ ld_n l → rw8 (xA h 163) q w = true → w.testBit f = (mo_f m).testBit f)) h) := fun y => by
        rw [b252_47, b252_52]
        have := nxt True ⟨fun _ w hw a => by
          by_cases c : w = j
          · rw [c] at a ⊢; exact y a
          · exact g w (by omega) a, fun _ => trivial⟩
        rw [bP_t trivial] at this
        exact this
      cases e : rw8 (xA h 163) q j with
      | false =>
        rw [if_neg Bool.false_ne_true, if_pos rfl]
        exact yes (fun a => by rw [e] at a; cases a)
      | true =>
        rw [if_pos rfl, if_neg (by decide)]
        rw [c185 (by omega), wb_ii (by omega)]
        simp only [(RS.ok W.1), (RS.fr W.1), true_and, and_true, true_or, or_true, W.1.l149, W.so]
        rw [c185 (by omega), wb_ii (by omega)]
        by_cases c : j.testBit f = (mo_f m).testBit f
        · rw [if_neg (fun n => n (b1eq.mpr c))]
          exact yes (fun _ => c)
        · rw [if_pos (fun n => c (b1eq.mp n)), b252_51, b252_52]
          have := nxt False ⟨fun n => n.elim, fun n => c (n j (by omega) e)⟩
          rw [bP_f (fun n : False => n)] at this
          exact this
    · rw [if_pos (by rw [bP_0]; exact g), b252_51, b252_52]
      have := nxt False ⟨fun n => n.elim, fun n => g (fun w hw => n w (by omega))⟩
      rw [bP_f (fun n : False => n)] at this
      exact this) (Nat.zero_le _)
  rw [show bP (∀ w, w < 0 → rw8 (xA h 163) q w = true → w.testBit f = (mo_f m).testBit f) = ii 1 from bP_t (fun w hw => absurd hw (Nat.not_lt_zero _))] at L
  exact L
end Ro
