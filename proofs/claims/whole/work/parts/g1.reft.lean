/-! THE REFERENCE: days by a rule -/
section Tb
variable {d : Nat} {h h1 h0 H : mHeap} {l : Ld} {m m' : Mo} {S : List Wd} {P : Pg} {s : Cs} {X f : Nat → Int64} {x y z : Int} {q k n r o : Nat} {C : Ru}
theorem c240 {K : Int64 → mHeap → Prop} (hR : RS h) (hr : r < 6) (hC : RRr h r C) (ok : RuOk C) (hX : ∀ i, i < 10 → xJ h 188 i = X i) (hK : ∀ h1, RF [] [189] h h1 → K (ruV X C) h1) : GoCj (d + 4) 240 [.ref 148, .int (ii (r : Nat))] h K := by
  obtain ⟨c300, e178, c12, cc⟩ := hC
  have sub : ∀ c, c < C.length → off C c + (ru_c C c).1.length + (ru_c C c).2.length ≤ 300 := fun c hc => by
    have := off_le (C := C) (c := c + 1) C.length (by omega)
    rw [off_s] at this
    omega
  -- the clause that counts
  have hit : ∀ c, c < C.length → ∀ h1, RF [] [189] h h1 → (∀ h2, RF [] [189] h h2 → K (ruE X (ru_c C c).1) h2) → Go (d + 3) 240 57 [some (.ref 148), some (.int (ii (r : Nat))), some (.int (ii ((12 * r + c : Nat) : Int)))] [] h1 (rJ K) := fun c hc h1 z hG => by
    have R1 := z.rs hR (by decide)
    have q := cc c hc
    rw [← z.ae (show ¬ 179 = 148 by decide) (by decide), ← z.ae (show ¬ 180 = 148 by decide) (by decide), ← z.ae (show ¬ 181 = 148 by decide) (by decide), ← z.ae (show ¬ 176 = 148 by decide) (by decide), ← z.ae (show ¬ 177 = 148 by decide) (by decide)] at q
    have sc := sub c hc
    rw [b240_57]
    simp only [(RS.ok R1), (RS.fr R1), true_and, and_true, true_or, or_true, R1.x179 (show 12 * r + c < 72 by omega), R1.x180 (show 12 * r + c < 72 by omega), q.1, q.2.1]
    refine c244 (X := X) (l := (ru_c C c).1) (b := false) R1 hr (by omega) (fun i hi => ?_) (ok.2 c hc).2.1 (fun i hi => by rw [z.je (by decide) (by decide)]; exact hX i hi) (ok.2 c hc).1 (fun h2 z2 => ?_)
    · have := q.2.2.2 i (by rw [List.length_append]; omega)
      rw [List.getD_eq_getElem?_getD, List.getElem?_append_left hi, ← List.getD_eq_getElem?_getD] at this
      exact this
    · rw [rJ_s]
      exact hG h2 (z.tr z2)
  have L := downA (n := C.length) (P := fun c => ∀ h1, RF [] [189] h h1 → (∀ h2, RF [] [189] h h2 → K (ruK X C (C.length - c) c) h2) → Go (d + 3) 240 5 [some (.ref 148), some (.int (ii (r : Nat))), some (.int (ii ((12 * r + c : Nat) : Int)))] [] h1 (rJ K)) (fun h1 z hG => by
    have R1 := z.rs hR (by decide)
    have e1 : xA h1 178 r = ii (C.length : Nat) := by rw [z.ae (by decide) (by decide)]; exact e178
    rw [b240_5]
    simp only [(RS.ok R1), (RS.fr R1), true_and, and_true, true_or, or_true, R1.x178 hr, e1]
    rw [show ii 12 * ii (r : Nat) + ii (C.length : Nat) = ii ((12 * r + C.length : Nat) : Int) by rw [ii_mul, ii_add]; exact congrArg ii (by omega), if_pos (Int32.le_refl _), rJ_s]
    have := hG h1 z
    rw [Nat.sub_self] at this
    exact this) (fun c hc ih h1 z hG => by
    have R1 := z.rs hR (by decide)
    have e1 : xA h1 178 r = ii (C.length : Nat) := by rw [z.ae (by decide) (by decide)]; exact e178
    have q := cc c hc
    rw [← z.ae (show ¬ 179 = 148 by decide) (by decide), ← z.ae (show ¬ 180 = 148 by decide) (by decide), ← z.ae (show ¬ 181 = 148 by decide) (by decide), ← z.ae (show ¬ 176 = 148 by decide) (by decide), ← z.ae (show ¬ 177 = 148 by decide) (by decide)] at q
    have sc := sub c hc
    have hk : C.length - c = (C.length - (c + 1)) + 1 := by omega
    rw [hk] at hG
    have kr : ruK X C (C.length - (c + 1) + 1) c = if (ru_c C c).2 = [] ∨ ¬ ruE X (ru_c C c).2 = jj 0 then ruE X (ru_c C c).1 else ruK X C (C.length - (c + 1)) (c + 1) := rfl
    rw [kr] at hG
    rw [b240_5]
    simp only [(RS.ok R1), (RS.fr R1), true_and, and_true, true_or, or_true, R1.x178 hr, e1]
    rw [show ii 12 * ii (r : Nat) + ii (C.length : Nat) = ii ((12 * r + C.length : Nat) : Int) by rw [ii_mul, ii_add]; exact congrArg ii (by omega), if_neg (by rw [ii_le (by omega) (by omega) (by omega) (by omega)]; omega)]
    simp only [R1.x180 (show 12 * r + c < 72 by omega), R1.x181 (show 12 * r + c < 72 by omega), q.2.1, q.2.2.1, true_and]
    rw [off_s]
    by_cases c1 : (ru_c C c).2 = []
    · rw [if_pos (by rw [c1, List.length_nil]; rfl)]
      refine hit c hc h1 z (fun h2 z2 => ?_)
      have := hG h2 z2
      rw [if_pos (Or.inl c1)] at this
      exact this
    · have l0 : 0 < (ru_c C c).2.length := List.length_pos_iff.mpr c1
      rw [if_neg (by rw [ii_eq (by omega) (by omega) (by omega) (by omega)]; omega)]
      have ty : tyL (ru_c C c).2 [] = some [true] := (ok.2 c hc).2.2.2.elim (fun g => absurd g c1) id
      refine c244 (X := X) (l := (ru_c C c).2) (b := true) R1 hr (by omega) (fun i hi => ?_) (ok.2 c hc).2.2.1 (fun i hi => by rw [z.je (by decide) (by decide)]; exact hX i hi) ty (fun h2 z2 => ?_)
      · have := q.2.2.2 ((ru_c C c).1.length + i) (by rw [List.length_append]; omega)
        rw [List.getD_eq_getElem?_getD, List.getElem?_append_right (by omega), show (ru_c C c).1.length + i - (ru_c C c).1.length = i by omega, ← List.getD_eq_getElem?_getD] at this
        rw [show off C c + (ru_c C c).1.length + i = off C c + ((ru_c C c).1.length + i) by omega]
        exact this
      · rcases ruE_01 (X := X) ty with e | e
        · rw [e, if_pos (fun g => by have := lcmp_eq.mp g; exact absurd this (by decide)), show ii ((12 * r + c : Nat) : Int) + ii 1 = ii ((12 * r + (c + 1) : Nat) : Int) from ii_add _ _]
          refine ih h2 (z.tr z2) (fun h3 z3 => ?_)
          have := hG h3 z3
          rw [if_neg (fun g => g.elim c1 (fun n => n e))] at this
          exact this
        · rw [e, if_neg (fun g => g (lcmp_eq.mpr rfl))]
          refine hit c hc h2 (z.tr z2) (fun h3 z3 => ?_)
          have := hG h3 z3
          rw [if_pos (Or.inr (by rw [e]; decide))] at this
          exact this) (Nat.zero_le _) h RF.rf hK
  rw [e240, b240_0]
  rw [show ii 12 * ii (r : Nat) = ii ((12 * r + 0 : Nat) : Int) by rw [ii_mul]; exact congrArg ii (by omega)]
  exact L
theorem c279 {K : Int32 → mHeap → Prop} (W : Rw h l m S) (hq : q < (ld_q l).length) : GoCi (d + 1) 279 [.ref 148, .int (ii (q : Nat))] h K ↔ K (ii (besN m q (ld_q l).length : Nat)) h := by
  have q6 := W.q6
  rw [e279, b279_0]
  have L := downA (n := (ld_q l).length) (P := fun k => (Go d 279 4 [some (.ref 148), some (.int (ii (q : Nat))), some (.int (ii (besN m q k : Nat))), some (.int (ii (k : Nat)))] [] h (rI K) ↔ K (ii (besN m q (ld_q l).length : Nat)) h)) (by
    rw [b279_4]
    simp only [(RS.ok W.1), (RS.fr W.1), true_and, and_true, true_or, or_true, W.1.l149, W.nq]
    rw [if_pos (Int32.le_refl _), rI_s]) (fun k hk ih => by
    rw [besN_s] at ih
    rw [b279_4]
    simp only [(RS.ok W.1), (RS.fr W.1), true_and, and_true, true_or, or_true, W.1.l149, W.nq, W.1.x150 (show k < 6 by omega), W.1.x150 (show q < 6 by omega), (W.mo hk).1, (W.mo hq).1]
    rw [if_neg (by rw [ii_le (by omega) (by omega) (by omega) (by omega)]; omega)]
    have no : ¬ (¬ k = q ∧ mo_s m k = mo_s m q) → (Go d 279 39 [some (.ref 148), some (.int (ii (q : Nat))), some (.int (ii (besN m q k : Nat))), some (.int (ii (k : Nat)))] [.int (ii (besN m q k : Nat))] h (rI K) ↔ K (ii (besN m q (ld_q l).length : Nat)) h) := fun n => by
      rw [if_neg n, Nat.add_zero] at ih
      rw [b279_39, b279_40, show ii (k : Nat) + ii 1 = ii ((k + 1 : Nat) : Int) from ii_add _ _, show ii (besN m q k : Nat) + ii 0 = ii (besN m q k : Nat) by rw [ii_add]; exact congrArg ii (by omega)]
      exact ih
    by_cases c : k = q
    · rw [if_pos (by rw [c])]
      exact no (fun g => g.1 c)
    · rw [if_neg (by rw [ii_eq (by omega) (by omega) (by omega) (by omega)]; omega)]
      by_cases c2 : mo_s m k = mo_s m q
      · rw [if_neg (fun n => n (btE.mpr c2)), b279_40, show ii (k : Nat) + ii 1 = ii ((k + 1 : Nat) : Int) from ii_add _ _, show ii (besN m q k : Nat) + ii 1 = ii ((besN m q k + 1 : Nat) : Int) from ii_add _ _]
        rw [if_pos ⟨c, c2⟩] at ih
        exact ih
      · rw [if_pos (fun n => c2 (btE.mp n))]
        exact no (fun g => c2 g.2)) (Nat.zero_le _)
  exact L
theorem as_st {v : Int64} (hR : RS H) (hk : k < 10) (z : RF [] [188] h H) (hx : ∀ i, i < k → xJ H 188 i = X i) (hv : v = X k) : RF [] [188] h (sJ H 188 (ii (k : Nat)) v) ∧ RS (sJ H 188 (ii (k : Nat)) v) ∧ ∀ i, i < k + 1 → xJ (sJ H 188 (ii (k : Nat)) v) 188 i = X i := by
  refine ⟨z.tr RF.sJ, hR.sj (by decide), fun i hi => ?_⟩
  rw [hR.js188 hk, if_pos rfl]
  unfold upf
  by_cases c : i = k
  · rw [if_pos c, hv, c]
  · rw [if_neg c]; exact hx i (by omega)
theorem RS.jl188 (hR : RS h) : okJ h 188 (ii 0) ∧ okJ h 188 (ii 1) ∧ okJ h 188 (ii 2) ∧ okJ h 188 (ii 3) ∧ okJ h 188 (ii 4) ∧ okJ h 188 (ii 5) ∧ okJ h 188 (ii 6) ∧ okJ h 188 (ii 7) ∧ okJ h 188 (ii 8) ∧ okJ h 188 (ii 9) := ⟨(hR.jk188 (i := 0) (by decide)).1, (hR.jk188 (i := 1) (by decide)).1, (hR.jk188 (i := 2) (by decide)).1, (hR.jk188 (i := 3) (by decide)).1, (hR.jk188 (i := 4) (by decide)).1, (hR.jk188 (i := 5) (by decide)).1, (hR.jk188 (i := 6) (by decide)).1, (hR.jk188 (i := 7) (by decide)).1, (hR.jk188 (i := 8) (by decide)).1, (hR.jk188 (i := 9) (by decide)).1⟩
theorem c280 {K : mHeap → Prop} (W : Rw h l m S) (hq : q < (ld_q l).length) (hk : k < S.length) (hK : ∀ h1, RF [] [188] h h1 → (∀ i, i < 10 → xJ h1 188 i = asX l m S q k i) → K h1) : GoCv (d + 3) 280 [.ref 148, .int (ii (q : Nat)), .int (ii (k : Nat))] h K := by
  have q6 := W.q6
  have s24 := W.s24
  have c6 : (64 ≤ 188) = True := by decide
  have wt : (la_q l q).2.1 ≤ 128 := PgI.w (P := (l, m, [], [], 0)) W.ok q hq
  have pr : (la_q l q).2.2.2 ≤ 99 := (W.ok.2.2.2.2.2.2.1 _ (la_q_mem hq)).2.2.2
  have btb : ∀ b : Bool, -2147483648 ≤ bt b ∧ bt b < 2147483648 := fun b => by cases b <;> decide
  rw [e280, b280_0]
  simp only [(RS.ok W.1), (RS.fr W.1), true_and, and_true, true_or, or_true, W.1.jl188, c6]
  obtain ⟨z1, R1, x1⟩ := as_st (k := 0) (X := asX l m S q k) (v := (ii (q : Nat)).toInt64) W.1 (by decide) RF.rf (fun i hi => absurd hi (Nat.not_lt_zero _)) (by rw [i2l_ii (by omega) (by omega)]; rfl)
  have z1 : RF [] [188] h (sJ h 188 (ii 0) (ii (q : Nat)).toInt64) := z1
  have R1 : RS (sJ h 188 (ii 0) (ii (q : Nat)).toInt64) := R1
  have x1 : ∀ i, i < 0 + 1 → xJ (sJ h 188 (ii 0) (ii (q : Nat)).toInt64) 188 i = asX l m S q k i := x1
  generalize sJ h 188 (ii 0) (ii (q : Nat)).toInt64 = H1 at *
  have W1 := W.sc z1 (by decide) (by decide) (by decide)
  simp only [(RS.ok R1), (RS.fr R1), true_and, and_true, true_or, or_true, R1.jl188, c6, R1.x150 (show q < 6 by omega), (W1.mo hq).1]
  obtain ⟨z2, R2, x2⟩ := as_st (k := 1) (X := asX l m S q k) (v := (ii (bt (mo_s m q))).toInt64) R1 (by decide) z1 x1 (by rw [i2l_ii (btb _).1 (btb _).2]; rfl)
  have z2 : RF [] [188] h (sJ H1 188 (ii 1) (ii (bt (mo_s m q))).toInt64) := z2
  have R2 : RS (sJ H1 188 (ii 1) (ii (bt (mo_s m q))).toInt64) := R2
  have x2 : ∀ i, i < 1 + 1 → xJ (sJ H1 188 (ii 1) (ii (bt (mo_s m q))).toInt64) 188 i = asX l m S q k i := x2
  generalize sJ H1 188 (ii 1) (ii (bt (mo_s m q))).toInt64 = H2 at *
  have W2 := W.sc z2 (by decide) (by decide) (by decide)
  simp only [(RS.ok R2), (RS.fr R2), true_and, and_true, true_or, or_true, R2.jl188, c6, R2.x151 (show q < 6 by omega), (W2.qq hq).1]
  obtain ⟨z3, R3, x3⟩ := as_st (k := 2) (X := asX l m S q k) (v := (ii ((la_q l q).2.1 : Nat)).toInt64) R2 (by decide) z2 x2 (by rw [i2l_ii (by omega) (by omega)]; rfl)
  have z3 : RF [] [188] h (sJ H2 188 (ii 2) (ii ((la_q l q).2.1 : Nat)).toInt64) := z3
  have R3 : RS (sJ H2 188 (ii 2) (ii ((la_q l q).2.1 : Nat)).toInt64) := R3
  have x3 : ∀ i, i < 2 + 1 → xJ (sJ H2 188 (ii 2) (ii ((la_q l q).2.1 : Nat)).toInt64) 188 i = asX l m S q k i := x3
  generalize sJ H2 188 (ii 2) (ii ((la_q l q).2.1 : Nat)).toInt64 = H3 at *
  simp only [(RS.ok R3), (RS.fr R3), true_and, and_true, true_or, or_true, R3.jl188, c6]
  obtain ⟨z4, R4, x4⟩ := as_st (k := 3) (X := asX l m S q k) (v := (ii (k : Nat)).toInt64) R3 (by decide) z3 x3 (by rw [i2l_ii (by omega) (by omega)]; rfl)
  have z4 : RF [] [188] h (sJ H3 188 (ii 3) (ii (k : Nat)).toInt64) := z4
  have R4 : RS (sJ H3 188 (ii 3) (ii (k : Nat)).toInt64) := R4
  have x4 : ∀ i, i < 3 + 1 → xJ (sJ H3 188 (ii 3) (ii (k : Nat)).toInt64) 188 i = asX l m S q k i := x4
  generalize sJ H3 188 (ii 3) (ii (k : Nat)).toInt64 = H4 at *
  have W4 := W.sc z4 (by decide) (by decide) (by decide)
  simp only [(RS.ok R4), (RS.fr R4), true_and, and_true, true_or, or_true, R4.jl188, c6]
  rw [c247 R4 (by omega) (by omega), W4.ss hk, (W4.mo hq).2.2.2]
  have rest : ∀ v : Int64, v = asX l m S q k 4 → Go (d + 2) 280 61 [some (.ref 148), some (.int (ii (q : Nat))), some (.int (ii (k : Nat)))] [.long v, .int (ii 4), .ref 188] H4 (rV K) := fun v hv => by
    rw [b280_61]
    obtain ⟨z5, R5, x5⟩ := as_st (k := 4) (X := asX l m S q k) (v := v) R4 (by decide) z4 x4 hv
    have z5 : RF [] [188] h (sJ H4 188 (ii 4) v) := z5
    have R5 : RS (sJ H4 188 (ii 4) v) := R5
    have x5 : ∀ i, i < 4 + 1 → xJ (sJ H4 188 (ii 4) v) 188 i = asX l m S q k i := x5
    simp only [R4.jl188, c6, true_and]
    generalize sJ H4 188 (ii 4) v = H5 at *
    have W5 := W.sc z5 (by decide) (by decide) (by decide)
    simp only [(RS.ok R5), (RS.fr R5), true_and, and_true, true_or, or_true, R5.jl188, c6]
    have g5 : gainW (mo_w m 0) (sy S k) ≤ 256 := cB_256
    rw [c248 R5 (by omega), W5.ss hk, W5.br]
    obtain ⟨z6, R6, x6⟩ := as_st (k := 5) (X := asX l m S q k) (v := (ii (gainW (mo_w m 0) (sy S k) : Nat)).toInt64) R5 (by decide) z5 x5 (by rw [i2l_ii (by omega) (by omega)]; rfl)
    have z6 : RF [] [188] h (sJ H5 188 (ii 5) (ii (gainW (mo_w m 0) (sy S k) : Nat)).toInt64) := z6
    have R6 : RS (sJ H5 188 (ii 5) (ii (gainW (mo_w m 0) (sy S k) : Nat)).toInt64) := R6
    have x6 : ∀ i, i < 5 + 1 → xJ (sJ H5 188 (ii 5) (ii (gainW (mo_w m 0) (sy S k) : Nat)).toInt64) 188 i = asX l m S q k i := x6
    simp only [R5.jl188, c6, true_and]
    generalize sJ H5 188 (ii 5) (ii (gainW (mo_w m 0) (sy S k) : Nat)).toInt64 = H6 at *
    have W6 := W.sc z6 (by decide) (by decide) (by decide)
    simp only [(RS.ok R6), (RS.fr R6), true_and, and_true, true_or, or_true, R6.jl188, c6]
    have g6 : cB (mo_w m 0) 256 ≤ 256 := cB_256
    rw [show ii 6 = ii ((6 : Nat) : Int) from rfl, c246 R6 (by decide), W6.br]
    obtain ⟨z7, R7, x7⟩ := as_st (k := 6) (X := asX l m S q k) (v := (ii (cB (mo_w m 0) 256 : Nat)).toInt64) R6 (by decide) z6 x6 (by rw [i2l_ii (by omega) (by omega)]; rfl)
    have o6 : okJ H6 188 (ii ((6 : Nat) : Int)) := (R6.jk188 (by decide)).1
    simp only [o6, c6, true_and]
    generalize sJ H6 188 (ii ((6 : Nat) : Int)) (ii (cB (mo_w m 0) 256 : Nat)).toInt64 = H7 at *
    have W7 := W.sc z7 (by decide) (by decide) (by decide)
    simp only [(RS.ok R7), (RS.fr R7), true_and, and_true, true_or, or_true, R7.jl188, c6]
    have g7 : besN m q (ld_q l).length ≤ 6 := by
      have : besN m q (ld_q l).length ≤ (ld_q l).length := cB_le _ _
      omega
    rw [c279 W7 hq]
    obtain ⟨z8, R8, x8⟩ := as_st (k := 7) (X := asX l m S q k) (v := (ii (besN m q (ld_q l).length : Nat)).toInt64) R7 (by decide) z7 x7 (by rw [i2l_ii (by omega) (by omega)]; rfl)
    have z8 : RF [] [188] h (sJ H7 188 (ii 7) (ii (besN m q (ld_q l).length : Nat)).toInt64) := z8
    have R8 : RS (sJ H7 188 (ii 7) (ii (besN m q (ld_q l).length : Nat)).toInt64) := R8
    have x8 : ∀ i, i < 7 + 1 → xJ (sJ H7 188 (ii 7) (ii (besN m q (ld_q l).length : Nat)).toInt64) 188 i = asX l m S q k i := x8
    simp only [R7.jl188, c6, true_and]
    generalize sJ H7 188 (ii 7) (ii (besN m q (ld_q l).length : Nat)).toInt64 = H8 at *
    have W8 := W.sc z8 (by decide) (by decide) (by decide)
    have l6 : okA H8 149 .int (ii ((6 : Nat) : Int)) ∧ eI H8 149 (ii ((6 : Nat) : Int)) = xA H8 149 6 := R8.x149 (by decide)
    have dd := W8.mj.2.1
    simp only [(RS.ok R8), (RS.fr R8), true_and, and_true, true_or, or_true, R8.jl188, R8.l149, l6, c6, W8.day]
    obtain ⟨z9, R9, x9⟩ := as_st (k := 8) (X := asX l m S q k) (v := (ii (mo_d m : Nat)).toInt64) R8 (by decide) z8 x8 (by rw [i2l_ii (by omega) (by omega)]; rfl)
    have z9 : RF [] [188] h (sJ H8 188 (ii 8) (ii (mo_d m : Nat)).toInt64) := z9
    have R9 : RS (sJ H8 188 (ii 8) (ii (mo_d m : Nat)).toInt64) := R9
    have x9 : ∀ i, i < 8 + 1 → xJ (sJ H8 188 (ii 8) (ii (mo_d m : Nat)).toInt64) 188 i = asX l m S q k i := x9
    generalize sJ H8 188 (ii 8) (ii (mo_d m : Nat)).toInt64 = H9 at *
    have W9 := W.sc z9 (by decide) (by decide) (by decide)
    simp only [(RS.ok R9), (RS.fr R9), true_and, and_true, true_or, or_true, R9.jl188, c6, R9.x152 (show q < 6 by omega), (W9.qq hq).2, rV_s]
    obtain ⟨z10, R10, x10⟩ := as_st (k := 9) (X := asX l m S q k) (v := (ii ((la_q l q).2.2.2 : Nat)).toInt64) R9 (by decide) z9 x9 (by rw [i2l_ii (by omega) (by omega)]; rfl)
    exact hK _ z10 x10
  have a4 : asX l m S q k 4 = jj (knI (mo_w m (q + 1)) (sy S k)) := rfl
  by_cases c : sub (mo_w m (q + 1)) (sy S k)
  · rw [bP_t c, if_neg (by decide)]
    exact rest _ (by rw [a4]; unfold knI; rw [iteP_t c])
  · rw [bP_f c, if_pos rfl]
    exact rest _ (by rw [a4]; unfold knI; rw [iteP_f c])
theorem c281 {K : Int32 → mHeap → Prop} (W : Rw h l m S) (hr : r < 6) (hC : RRr h r C) (ok : RuOk C) (hq : q < (ld_q l).length) (hK : ∀ h1, RF [] [188, 189] h h1 → K (ii (chA l m S C q)) h1) : GoCi (d + 5) 281 [.ref 148, .int (ii (r : Nat)), .int (ii (q : Nat))] h K := by
  have s24 := W.s24
  rw [e281, b281_0]
  refine Go_loop (fun k L h' => (∃ l7 l8, L = [some (.ref 148), some (.int (ii (r : Nat))), some (.int (ii (q : Nat))), some (.int (ii (itr (chF l m S C q) (-1, jj 0) k).1)), some (.long (itr (chF l m S C q) (-1, jj 0) k).2), none, some (.int (ii (k : Nat))), l7, l8]) ∧ RF [] [188, 189] h h') S.length ?_ ?_ 0 _ h (Nat.zero_le _) ⟨⟨_, _, rfl⟩, RF.rf⟩
  · rintro k L h' hk ⟨⟨l7, l8, rfl⟩, z⟩ nx
    have W' := W.sc z (by decide) (by decide) (by decide)
    rw [b281_8]
    simp only [(RS.ok W'.1), (RS.fr W'.1), true_and, and_true, true_or, or_true, W'.ns]
    rw [if_neg (by rw [ii_le (by omega) (by omega) (by omega) (by omega)]; omega)]
    refine c280 W' hq hk (fun h2 z2 x2 => ?_)
    have W2 := W'.sc z2 (by decide) (by decide) (by decide)
    have zz : RF [] [188, 189] h h2 := z.tr (z2.wd (by decide) (by decide))
    have C2 : RRr h2 r C := RRr_eq hC (fun a h1 h2 => zz.ae (by omega) (by
      intro g
      rcases List.mem_cons.mp g with e | g
      · omega
      · have := List.mem_singleton.mp g; omega))
    (try simp only [(RS.ok W2.1), (RS.fr W2.1), true_and, and_true, true_or, or_true])
    refine c240 (X := asX l m S q k) W2.1 hr C2 ok x2 (fun h3 z3 => ?_)
    have nx := fun l3 l4 l7 l8 h4 => nx [some (.ref 148), some (.int (ii (r : Nat))), some (.int (ii (q : Nat))), l3, l4, none, some (.int (ii ((k + 1 : Nat) : Int))), l7, l8] h4
    have zt : RF [] [188, 189] h h3 := zz.tr (z3.wd (by decide) (by decide))
    have eF : itr (chF l m S C q) (-1, jj 0) (k + 1) = chF l m S C q (itr (chF l m S C q) (-1, jj 0) k) k := rfl
    by_cases c : ruV (asX l m S q k) C ≤ (itr (chF l m S C q) (-1, jj 0) k).2
    · rw [if_pos (lg_le.mpr c), b281_46, show ii (k : Nat) + ii 1 = ii ((k + 1 : Nat) : Int) from ii_add _ _]
      have e : itr (chF l m S C q) (-1, jj 0) (k + 1) = itr (chF l m S C q) (-1, jj 0) k := eF.trans (if_pos c)
      rw [e] at nx
      exact nx _ _ _ _ h3 ⟨⟨_, _, rfl⟩, zt⟩
    · rw [if_neg (fun g => c (lg_le.mp g)), b281_46, show ii (k : Nat) + ii 1 = ii ((k + 1 : Nat) : Int) from ii_add _ _]
      have e : itr (chF l m S C q) (-1, jj 0) (k + 1) = ((k : Int), ruV (asX l m S q k) C) := eF.trans (if_neg c)
      rw [e] at nx
      exact nx _ _ _ _ h3 ⟨⟨_, _, rfl⟩, zt⟩
  · rintro L h' ⟨⟨l7, l8, rfl⟩, z⟩
    have W' := W.sc z (by decide) (by decide) (by decide)
    rw [b281_8]
    simp only [(RS.ok W'.1), (RS.fr W'.1), true_and, and_true, true_or, or_true, W'.ns]
    rw [if_pos (Int32.le_refl _), rI_s]
    exact hK h' z
end Tb
