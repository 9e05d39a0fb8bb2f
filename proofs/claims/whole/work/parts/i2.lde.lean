/-! THE REFERENCE: a land laid -/
section Tw
variable {d : Nat} {h h1 h2 h3 : mHeap} {B : Bt} {n p q t i k f c a b nth w so kn len : Nat} {T : List (Nat × Nat)} {F R : List Nat} {l : Ld} {s : Cs} {x : Nat → Int32}
theorem c225 {K : mHeap → Prop} (hx : Tx h B n) (hK : ∀ h1, RF [27, 28, 29, 33, 34, 35] ldR h h1 → fI h1 148 27 = ii ((0 : Nat) : Int) → lnR h1 (laL (lex B n) (lex B n).length 0 0 ld0) → K h1) : GoCv (d + 8) 225 [.ref 148] h K := by
  rw [e225, b225_0]
  (try simp only [(RS.ok hx.1), (RS.fr hx.1), true_and, and_true, true_or, or_true])
  refine c224 hx.1 (fun h1 z1 p1 f1 _ _ _ => ?_)
  have x1 : Tx h1 B n := hx.z z1 (by decide) (by decide) (by decide)
  refine Go_loop (fun k L h' => (∃ l2, L = [some (.ref 148), some (.int (ii (k : Nat))), l2]) ∧ RF [] [164] h1 h' ∧ ∀ i, i < k → xA h' 164 i = ii 0) 6 ?_ ?_ 0 _ h1 (Nat.zero_le _) ⟨⟨_, rfl⟩, RF.rf, fun i hi => absurd hi (Nat.not_lt_zero i)⟩
  · rintro k L h' hk ⟨⟨l2, rfl⟩, z, y1⟩ nx
    have R2 : RS h' := z.rs x1.1 (by decide)
    rw [b225_6, if_neg (by rw [show ii 6 = ii (6 : Int) from rfl, ii_le (by omega) (by omega) (by omega) (by omega)]; omega)]
    simp only [(RS.ok R2), (RS.fr R2), true_and, and_true, true_or, or_true, R2.x164 hk]
    refine ⟨by decide, ?_⟩
    rw [show ii (k : Nat) + ii 1 = ii ((k + 1 : Nat) : Int) from ii_add _ _]
    refine nx _ _ ⟨⟨_, rfl⟩, z.tr RF.sI, fun i hi => ?_⟩
    rw [R2.s164 hk, if_pos rfl]
    unfold upf
    by_cases c : i = k
    · rw [if_pos c]
    · rw [if_neg c]; exact y1 i (by omega)
  · rintro L h' ⟨⟨l2, rfl⟩, z, y1⟩
    rw [b225_6, if_pos (show ii 6 ≤ ii ((6 : Nat) : Int) by decide)]
    have x2 : Tx h' B n := x1.z z (by decide) (by decide) (by decide)
    have p2 : fI h' 148 28 = ii ((0 : Nat) : Int) := by rw [z.fe (by decide)]; exact p1
    have f2 : fI h' 148 29 = ii 0 := by rw [z.fe (by decide)]; exact f1
    refine c225_L (i := 0) (nth := 0) (l := ld0) (T := lex B n) (lex B n).length (by omega) x2 ⟨⟨0, p2, AtT.st⟩, f2⟩ ⟨⟨y1 0 (by decide), y1 1 (by decide), y1 2 (by decide), y1 3 (by decide), y1 4 (by decide), y1 5 (by decide)⟩, fun q hq => absurd hq (Nat.not_lt_zero q), fun q hq => absurd hq (Nat.not_lt_zero q), fun q hq => absurd hq (Nat.not_lt_zero q), fun q hq => absurd hq (Nat.not_lt_zero q)⟩ LdOk0 (fun _ => rfl) (fun y => absurd rfl y) (by decide) (fun h3 x z3 r3 => ?_)
    have x3 : Tx h3 B n := x2.z z3 (by decide) (by decide) (by decide)
    have t27 : tgK (kd h3 148) 27 = some 0 := x3.1.tg.1
    have z4 := RF.sF (x := ii 0) t27
    rw [b225_29, if_pos rfl]
    simp only [x3.1.op, true_and, rV_s]
    refine hK _ ((z1.wd (by decide) (by decide)).tr ((z.wd (by decide) (by decide)).tr ((z3.wd (by decide) (by decide)).tr (z4.1.wd (by decide) (by decide))))) z4.2 ?_
    generalize laL (lex B n) (lex B n).length 0 0 ld0 = r at *
    cases r with
    | inl f => exact ⟨by rw [z4.1.fe (by decide)]; exact r3.1, r3.2⟩
    | inr l => exact ⟨by rw [z4.1.fe (by decide)]; exact r3.1, r3.2.1.z z4.1 (by decide), r3.2.2⟩
/-- one row from another -/
theorem c222g {K : mHeap → Prop} (ka : kd h a = (1, 1, [len])) (kb : kd h b = (1, 1, [len])) (hb : 64 ≤ b) (ne : ¬ b = a) (b148 : ¬ a = 148) (hl : len ≤ 10) (hK : ∀ h1, RF [] [b] h h1 → (∀ i, i < len → xA h1 b i = xA h a i) → K h1) : GoCv (d + 1) 222 [.ref a, .ref b] h K := by
  rw [e222, b222_0]
  refine Go_loop (fun k L h' => L = [some (.ref a), some (.ref b), some (.int (ii (k : Nat)))] ∧ RF [] [b] h h' ∧ ∀ j, j < k → xA h' b j = xA h a j) len ?_ ?_ 0 _ h (Nat.zero_le _) ⟨rfl, RF.rf, fun j hj => absurd hj (Nat.not_lt_zero _)⟩
  · rintro k L h' hk ⟨rfl, z, H⟩ nx
    have ka' : kd h' a = (1, 1, [len]) := by rw [z.1.1]; exact ka
    have kb' : kd h' b = (1, 1, [len]) := by rw [z.1.1]; exact kb
    have ra := row_ok ka' hk (by omega)
    have rb := row_ok kb' hk (by omega)
    rw [b222_2]
    simp only [okL_kd, nL_kd, ka', lnK, List.headD_cons, ra, rb]
    refine ⟨by decide, ?_⟩
    rw [if_neg (show ¬ (1 : Nat) = 4 by decide), if_neg (by rw [ii_le (by omega) (by omega) (by omega) (by omega)]; omega)]
    refine ⟨trivial, ⟨hb, trivial⟩, ?_⟩
    rw [show ii (k : Nat) + ii 1 = ii ((k + 1 : Nat) : Int) from ii_add _ _]
    refine nx _ _ ⟨rfl, z.tr RF.sI, fun j hj => ?_⟩
    rw [sI_row kb' hk (by omega), if_pos rfl]
    unfold upf
    by_cases c : j = k
    · rw [if_pos c, c, z.ae b148 (fun y => ne (List.mem_singleton.mp y).symm)]
    · rw [if_neg c]; exact H j (by omega)
  · rintro L h' ⟨rfl, z, H⟩
    have ka' : kd h' a = (1, 1, [len]) := by rw [z.1.1]; exact ka
    rw [b222_2]
    simp only [okL_kd, nL_kd, ka', lnK, List.headD_cons]
    refine ⟨by decide, ?_⟩
    rw [if_neg (show ¬ (1 : Nat) = 4 by decide), if_pos (Int32.le_refl _), rV_s]
    exact hK h' z H
/-- a bit put in -/
theorem rw8_bit {j : Nat} (hj : j < 256) {b : Bool} {v : Int32} (ev : v = if b = true then shl (ii 1) (ii ((j % 32 : Nat) : Int)) else ii 0) : rw8 (upf x (8 * q + j / 32) (x (8 * q + j / 32) ||| v)) q w = (rw8 x q w || (decide (w = j) && b)) := by
  rw [rw8_up (show j / 32 < 8 by omega)]
  by_cases c : w < 256 ∧ w / 32 = j / 32
  · have g2 : rw8 x q w = wb (x (8 * q + j / 32)) (w % 32) := by
      rw [show w = 32 * (j / 32) + w % 32 by omega, rw8_at (by omega) (by omega), show (32 * (j / 32) + w % 32) % 32 = w % 32 by omega]
    rw [if_pos c, wb_or, g2, ev]
    cases b with
    | true =>
      rw [if_pos rfl, wb_shl (by omega) (by omega), Bool.and_true]
      have e : decide (j % 32 = w % 32) = decide (w = j) := decide_eq_decide.mpr ⟨fun g => by omega, fun g => by rw [g]⟩
      rw [e]
    | false => rw [if_neg Bool.false_ne_true, wb_0, Bool.and_false]
  · rw [if_neg c]
    by_cases c2 : w = j
    · exact absurd (show w < 256 ∧ w / 32 = j / 32 by subst c2; exact ⟨hj, rfl⟩) c
    · rw [decide_eq_false c2, Bool.false_and, Bool.or_false]
theorem knK_i (hn : n ≤ 8) (hk : kn < 2 ^ n) (hw : w < 2 ^ n) : knK n so kn n w = decide (((w ^^^ so) &&& kn) = 0) := by
  have p := pow_le hn
  unfold knK allW
  rw [decide_eq_true (show w < 256 by omega), decide_eq_true hw, Bool.true_and, Bool.true_and]
  by_cases g : ((w ^^^ so) &&& kn) = 0
  · rw [decide_eq_true g, List.all_eq_true]
    intro f _
    have e : ((w ^^^ so) &&& kn).testBit f = false := by rw [g, Nat.zero_testBit]
    rw [Nat.testBit_and, Nat.testBit_xor] at e
    cases c1 : kn.testBit f with
    | false => rfl
    | true =>
      rw [c1, Bool.and_true] at e
      revert e
      cases w.testBit f <;> cases so.testBit f <;> decide
  · rw [decide_eq_false g]
    cases c : (List.range n).all (fun f => !kn.testBit f || (w.testBit f == so.testBit f)) with
    | false => rfl
    | true =>
      exfalso
      rw [List.all_eq_true] at c
      refine g (Nat.eq_of_testBit_eq (fun f => ?_))
      rw [Nat.testBit_and, Nat.testBit_xor, Nat.zero_testBit]
      by_cases hf : f < n
      · have := c f (List.mem_range.mpr hf)
        revert this
        cases kn.testBit f <;> cases w.testBit f <;> cases so.testBit f <;> decide
      · have : kn.testBit f = false := Nat.testBit_lt_two_pow (Nat.lt_of_lt_of_le hk (Nat.pow_le_pow_right (by decide) (by omega)))
        rw [this, Bool.and_false]
theorem CsI.tx (hC : CsI s) {B' : Bt} : CsI (sTx s B' 0) := ⟨hC.1, hC.2.1, hC.2.2.1, ⟨fun i hi => absurd hi (Nat.not_lt_zero i), Nat.zero_le _⟩, hC.2.2.2.2⟩
/-- what is held, world by world -/
def hlW (l : Ld) (q : Nat) : Wd := fun w => if q = 6 then true else decide (((w ^^^ ld_so l) &&& (la_q l q).2.2.1) = 0)
theorem c226_180 {K : Int32 → mHeap → Prop} {l2 : Option Value} (hR : RS h) (ok : LdOk l) (e0 : xA h 149 0 = ii (ld_n l : Nat)) (e1 : xA h 149 1 = ii (ld_so l : Nat)) (e2 : xA h 149 2 = ii ((ld_q l).length : Nat)) (e167 : ∀ q, q < (ld_q l).length → xA h 167 q = ii ((la_q l q).2.2.1 : Nat)) (h0 : ∀ i, i < 56 → xA h 163 i = ii 0) (hK : ∀ h1 l2, RF [] [163] h h1 → rw8 (xA h1 163) 6 = allW (ld_n l) → (∀ q, q < (ld_q l).length → rw8 (xA h1 163) q = knK (ld_n l) (ld_so l) (la_q l q).2.2.1 (ld_n l)) → Go (d + 1) 226 280 [some (.ref 148), some (.int (ii 0)), l2] [] h1 (rI K)) : Go (d + 1) 226 180 [some (.ref 148), some (.int (ii 0)), l2] [] h (rI K) := by
  have n8 := ok.1
  have q6 := ok.2.2.1
  have p := pow_le n8
  have z0 : ∀ q, q < 7 → ∀ w, rw8 (xA h 163) q w = false := fun q hq w => by
    unfold rw8
    by_cases c : w < 256
    · rw [decide_eq_true c, Bool.true_and, h0 _ (by omega), wb_0]
    · rw [decide_eq_false c, Bool.false_and]
  refine Go_loop (fun j L h' => (∃ l2, L = [some (.ref 148), some (.int (ii (j : Nat))), l2]) ∧ RF [] [163] h h' ∧ ∀ q, (q = 6 ∨ q < (ld_q l).length) → ∀ w, rw8 (xA h' 163) q w = (decide (w < j) && hlW l q w)) (2 ^ ld_n l) ?_ ?_ 0 _ h (Nat.zero_le _) ⟨⟨_, rfl⟩, RF.rf, fun q hq w => by rw [z0 q (by omega), decide_eq_false (by omega)]; rfl⟩
  · rintro j L h' hj ⟨⟨l2', rfl⟩, z, y1⟩ nx
    have R1 : RS h' := z.rs hR (by decide)
    have g149 : xA h' 149 = xA h 149 := z.ae (by decide) (by decide)
    have j256 : j < 256 := by omega
    rw [b226_180]
    (try simp only [(RS.ok R1), (RS.fr R1), true_and, and_true, true_or, or_true])
    rw [c191r R1 (by rw [g149]; exact e0) n8, if_neg (by rw [ii_le (by omega) (by omega) (by omega) (by omega)]; omega)]
    have i48 : ii 48 + ii ((j / 32 : Nat) : Int) = ii ((8 * 6 + j / 32 : Nat) : Int) := ii_add 48 _
    simp only [(RS.ok R1), (RS.fr R1), true_and, and_true, true_or, or_true, wx j j256, i32n, i48, R1.x163 (show 8 * 6 + j / 32 < 56 by omega)]
    refine ⟨by decide, ?_⟩
    have z2 : RF [] [163] h' (sI h' 163 (ii ((8 * 6 + j / 32 : Nat) : Int)) (xA h' 163 (8 * 6 + j / 32) ||| shl (ii 1) (ii ((j % 32 : Nat) : Int)))) := RF.sI
    have s2 : ∀ b, xA (sI h' 163 (ii ((8 * 6 + j / 32 : Nat) : Int)) (xA h' 163 (8 * 6 + j / 32) ||| shl (ii 1) (ii ((j % 32 : Nat) : Int)))) b = if 163 = b then upf (xA h' 163) (8 * 6 + j / 32) (xA h' 163 (8 * 6 + j / 32) ||| shl (ii 1) (ii ((j % 32 : Nat) : Int))) else xA h' b := fun b => R1.s163 (by omega)
    generalize sI h' 163 (ii ((8 * 6 + j / 32 : Nat) : Int)) (xA h' 163 (8 * 6 + j / 32) ||| shl (ii 1) (ii ((j % 32 : Nat) : Int))) = H2 at *
    have R2 : RS H2 := z2.rs R1 (by decide)
    have step : ∀ (u : Bool) (w : Nat) (c : Bool), (w = j → c = u) → ((decide (w < j) && c) || (decide (w = j) && u)) = (decide (w < j + 1) && c) := fun u w c g => by
      by_cases c1 : w = j
      · rw [g c1, decide_eq_true c1, decide_eq_false (show ¬ w < j by omega), decide_eq_true (show w < j + 1 by omega)]
        simp
      · rw [decide_eq_false c1, Bool.false_and, Bool.or_false]
        have e : decide (w < j) = decide (w < j + 1) := decide_eq_decide.mpr ⟨fun g => by omega, fun g => by omega⟩
        rw [e]
    refine Go_loop (fun q0 L h'' => L = [some (.ref 148), some (.int (ii (j : Nat))), some (.int (ii (q0 : Nat)))] ∧ RF [] [163] H2 h'' ∧ ∀ q, (q = 6 ∨ q < (ld_q l).length) → ∀ w, rw8 (xA h'' 163) q w = (decide (w < (if q = 6 ∨ q < q0 then j + 1 else j)) && hlW l q w)) (ld_q l).length ?_ ?_ 0 _ H2 (Nat.zero_le _) ⟨rfl, RF.rf, fun q hq w => ?_⟩
    · rintro q0 L h'' hq0 ⟨rfl, z3, y3⟩ nx2
      have R3 : RS h'' := z3.rs R2 (by decide)
      have g149' : xA h'' 149 = xA h 149 := by rw [z3.ae (by decide) (by decide), z2.ae (by decide) (by decide), g149]
      have g167 : xA h'' 167 q0 = ii ((la_q l q0).2.2.1 : Nat) := by rw [z3.ae (by decide) (by decide), z2.ae (by decide) (by decide), z.ae (by decide) (by decide)]; exact e167 q0 hq0
      have kn8 := (ok.2.2.2.2.2.2.1 _ (la_q_mem hq0)).2.2.1
      have kn8 : (la_q l q0).2.2.1 < 2 ^ ld_n l := kn8
      have so8 := ok.2.1
      have eq0 : ii (q0 : Nat) + ii 1 = ii ((q0 + 1 : Nat) : Int) := ii_add _ _
      have fin : ∀ (u : Bool) (v : Int32), v = (if u = true then shl (ii 1) (ii ((j % 32 : Nat) : Int)) else ii 0) → hlW l q0 j = u → Go (d + 1) 226 264 [some (.ref 148), some (.int (ii (j : Nat))), some (.int (ii (q0 : Nat)))] [.int v, .int (xA h'' 163 (8 * q0 + j / 32)), .int (ii ((8 * q0 + j / 32 : Nat) : Int)), .ref 163] h'' (rI K) := fun u v ev eu => by
        have s4 : xA (sI h'' 163 (ii ((8 * q0 + j / 32 : Nat) : Int)) (xA h'' 163 (8 * q0 + j / 32) ||| v)) 163 = upf (xA h'' 163) (8 * q0 + j / 32) (xA h'' 163 (8 * q0 + j / 32) ||| v) := (R3.s163 (by omega)).trans (if_pos rfl)
        rw [b226_264]
        simp only [R3.x163 (show 8 * q0 + j / 32 < 56 by omega)]
        refine ⟨by decide, ?_⟩
        rw [eq0]
        refine nx2 _ _ ⟨rfl, z3.tr RF.sI, fun q hq w => ?_⟩
        rw [s4]
        by_cases c : q = q0
        · subst c
          rw [rw8_bit j256 ev, y3 q hq, if_neg (by omega), if_pos (by omega)]
          exact step u w _ (fun g => by rw [g]; exact eu)
        · rw [rw8_up_o (by omega) c, y3 q hq]
          by_cases c2 : q = 6 ∨ q < q0
          · rw [if_pos c2, if_pos (by omega)]
          · rw [if_neg c2, if_neg (by omega)]
      rw [b226_211]
      simp only [(RS.ok R3), (RS.fr R3), true_and, and_true, true_or, or_true, R3.l149, g149', e1, e2, g167, wx j j256, i32n, ix8, R3.x163 (show 8 * q0 + j / 32 < 56 by omega), R3.x167 (show q0 < 6 by omega)]
      rw [if_neg (by rw [ii_le (by omega) (by omega) (by omega) (by omega)]; omega), xor_ii, and_ii]
      have lt : ((j ^^^ ld_so l) &&& (la_q l q0).2.2.1) < 2 ^ ld_n l := Nat.and_lt_two_pow _ kn8
      have hl : hlW l q0 j = decide (((j ^^^ ld_so l) &&& (la_q l q0).2.2.1) = 0) := if_neg (by omega)
      by_cases c : ((j ^^^ ld_so l) &&& (la_q l q0).2.2.1) = 0
      · rw [if_neg (by rw [c]; exact fun y => y rfl)]
        rw [decide_eq_true c] at hl
        exact fin true _ (if_pos rfl).symm hl
      · rw [if_pos (by rw [show ii 0 = ii ((0 : Nat) : Int) from rfl, ii_eq (by omega) (by omega) (by omega) (by omega)]; omega)]
        rw [decide_eq_false c] at hl
        exact fin false _ (if_neg Bool.false_ne_true).symm hl
    · rintro L h'' ⟨rfl, z3, y3⟩
      have R3 : RS h'' := z3.rs R2 (by decide)
      have g149' : xA h'' 149 = xA h 149 := by rw [z3.ae (by decide) (by decide), z2.ae (by decide) (by decide), g149]
      rw [b226_211]
      simp only [(RS.ok R3), (RS.fr R3), true_and, and_true, true_or, or_true, R3.l149, g149', e2]
      rw [if_pos (Int32.le_refl _), show ii (j : Nat) + ii 1 = ii ((j + 1 : Nat) : Int) from ii_add _ _]
      refine nx _ _ ⟨⟨_, rfl⟩, z.tr (z2.tr z3), fun q hq w => ?_⟩
      rw [y3 q hq, if_pos (by omega)]
    · rw [s2, if_pos rfl]
      by_cases c : q = 6
      · subst c
        rw [rw8_bit (b := true) j256 (if_pos rfl).symm, y1 6 (Or.inl rfl), if_pos (Or.inl rfl)]
        exact step true w _ (fun _ => rfl)
      · rw [rw8_up_o (by omega) c, y1 q hq, if_neg (by omega)]
  · rintro L h' ⟨⟨l2', rfl⟩, z, y1⟩
    have R1 : RS h' := z.rs hR (by decide)
    rw [b226_180]
    (try simp only [(RS.ok R1), (RS.fr R1), true_and, and_true, true_or, or_true])
    rw [c191r R1 (by rw [z.ae (by decide) (by decide)]; exact e0) n8, if_pos (Int32.le_refl _)]
    refine hK h' _ z ?_ (fun q hq => ?_)
    · funext w
      rw [y1 6 (Or.inl rfl)]
      unfold allW hlW
      rw [if_pos rfl, Bool.and_true]
      by_cases c : w < 2 ^ ld_n l
      · rw [decide_eq_true c, decide_eq_true (show w < 256 by omega)]; rfl
      · rw [decide_eq_false c, Bool.and_false]
    · funext w
      rw [y1 q (Or.inr hq)]
      have kn8 := (ok.2.2.2.2.2.2.1 _ (la_q_mem hq)).2.2.1
      have kn8 : (la_q l q).2.2.1 < 2 ^ ld_n l := kn8
      by_cases c : w < 2 ^ ld_n l
      · rw [decide_eq_true c, Bool.true_and, knK_i n8 kn8 c]
        exact if_neg (by omega)
      · rw [decide_eq_false c, Bool.false_and]
        unfold knK allW
        rw [decide_eq_false c, Bool.and_false, Bool.false_and]
end Tw
