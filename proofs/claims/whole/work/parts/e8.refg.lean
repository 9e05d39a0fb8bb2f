/-! THE REFERENCE: person, count, way, look, seed, trial, feed, end -/
section Ry2
variable {d : Nat} {h h1 : mHeap} {l : Ld} {m : Mo} {S : List Wd} {P : Pg} {s : Cs} {K : Int32 → mHeap → Prop} {x y z : Int} {q f w k n : Nat} {B : Bt} {C : List Ru}
theorem stl_so {hw : Wd} {N so f : Nat} (h1 : ∀ v, hw v = true → v < N) (h2 : hw so = true) (n256 : N ≤ 256) : (∀ v, v < N → hw v = true → v.testBit f = so.testBit f) ↔ (sub hw (fun i => i.testBit f) ∨ dis hw (fun i => i.testBit f)) := by
  have so256 : so < 256 := by have := h1 so h2; omega
  constructor
  · intro g
    cases e : so.testBit f with
    | true => exact Or.inl (fun i _ a => by rw [← e]; exact g i (h1 i a) a)
    | false => exact Or.inr (fun i _ a => by rw [← e]; exact g i (h1 i a) a)
  · rintro (g | g) v hv a
    · have a1 : v.testBit f = true := g v (by omega) a
      have a2 : so.testBit f = true := g so so256 h2
      rw [a1, a2]
    · have a1 : v.testBit f = false := g v (by omega) a
      have a2 : so.testBit f = false := g so so256 h2
      rw [a1, a2]
theorem c254 (W : Rw h (pg_l P) (pg_m P) S) (hI : PgI S P) (hx : i32 x) (hy : i32 y) : GoCi (d + 4) 254 [.ref 148, .int (ii x), .int (ii y)] h K ↔ K (ii (vPerson P x y)) h := by
  have q6 := W.q6
  have n8 := W.n8
  have E : ∀ k : Nat, k < 2147483648 → ((ii y = ii k) ↔ y = k) := fun k hk => i32_eq hy k hk
  have E0 : (ii y = ii 0) ↔ y = 0 := E 0 (by decide)
  have E1 : (ii y = ii 1) ↔ y = 1 := E 1 (by decide)
  have E2 : (ii y = ii 2) ↔ y = 2 := E 2 (by decide)
  have E3 : (ii y = ii 3) ↔ y = 3 := E 3 (by decide)
  have E4 : (ii y = ii 4) ↔ y = 4 := E 4 (by decide)
  have E5 : (ii y = ii 5) ↔ y = 5 := E 5 (by decide)
  have E6 : (ii y = ii 6) ↔ y = 6 := E 6 (by decide)
  rw [e254, b254_0]
  (try simp only [(RS.ok W.1), (RS.fr W.1), true_and, and_true, true_or, or_true])
  rw [c187 W hx]
  unfold vPerson
  by_cases c : 0 ≤ x ∧ x < (ld_q (pg_l P)).length
  · rw [if_pos c, if_pos (by decide), if_pos (show isPe P x from c)]
    obtain ⟨q, rfl⟩ := nat_of c.1
    have hq : q < (ld_q (pg_l P)).length := by omega
    show _ ↔ K (ii (if y = 0 then bt (mo_s (pg_m P) q) else if y = 1 then ((la_q (pg_l P) q).2.1 : Int) else if y = 2 then ((la_q (pg_l P) q).2.2.2 : Int) else if y = 3 then (mo_h (pg_m P) q : Int) else if y = 4 then bt (mo_l (pg_m P) q) else if y = 5 then (cB (mo_w (pg_m P) (q + 1)) 256 : Int) else if y = 6 then (stl (mo_w (pg_m P) (q + 1)) (ld_n (pg_l P)) : Int) else -1)) h
    simp only [(RS.ok W.1), (RS.fr W.1), true_and, and_true, true_or, or_true, W.1.x150 (show q < 6 by omega), W.1.x151 (show q < 6 by omega), W.1.x152 (show q < 6 by omega), W.1.x153 (show q < 6 by omega), W.1.x154 (show q < 6 by omega), W.mo hq, W.qq hq, E0, E1, E2, E3, E4, E5, E6, rI_s]
    by_cases k0 : y = 0
    · rw [if_pos k0, if_pos k0]
    rw [if_neg k0, if_neg k0]
    by_cases k1 : y = 1
    · rw [if_pos k1, if_pos k1]
    rw [if_neg k1, if_neg k1]
    by_cases k2 : y = 2
    · rw [if_pos k2, if_pos k2]
    rw [if_neg k2, if_neg k2]
    by_cases k3 : y = 3
    · rw [if_pos k3, if_pos k3]
    rw [if_neg k3, if_neg k3]
    by_cases k4 : y = 4
    · rw [if_pos k4, if_pos k4]
    rw [if_neg k4, if_neg k4]
    by_cases k5 : y = 5
    · rw [if_pos k5, if_pos k5]
      rw [c246 W.1 (by omega), (W.mo hq).2.2.2]
    rw [if_neg k5, if_neg k5]
    by_cases k6 : y = 6
    · rw [if_pos k6, if_pos k6]
      have pl := hI.1.2.2.2.2 (q + 1) (by omega) (hI.n0 (by omega))
      have pj := fun v => hI.1.2.2.2.1 (q + 1) v (by omega)
      have L := downA (n := ld_n (pg_l P)) (P := fun f => ∀ l2 : Option Value, (Go (d + 3) 254 98 [some (.ref 148), some (.int (ii (q : Nat))), some (.int (ii y)), some (.int (ii (btO (stlB (mo_w (pg_m P) (q + 1))) f : Nat))), some (.int (ii (f : Nat)))] [] h (rI K) ↔ K (ii (stl (mo_w (pg_m P) (q + 1)) (ld_n (pg_l P)) : Nat)) h)) (fun _ => by
        rw [b254_98]
        simp only [(RS.ok W.1), (RS.fr W.1), true_and, and_true, true_or, or_true, W.1.l149, W.n]
        rw [if_pos (Int32.le_refl _), rI_s]
        exact Iff.rfl) (fun f hf ih l2 => by
        rw [b254_98]
        simp only [(RS.ok W.1), (RS.fr W.1), true_and, and_true, true_or, or_true, W.1.l149, W.n]
        rw [if_neg (by rw [ii_le (by omega) (by omega) (by omega) (by omega)]; omega)]
        rw [c252 W (by omega) (by omega), (W.mo hq).2.2.2]
        have e : bP (∀ w, w < 2 ^ ld_n (pg_l P) → mo_w (pg_m P) (q + 1) w = true → w.testBit f = (mo_f (pg_m P)).testBit f) = bP (sub (mo_w (pg_m P) (q + 1)) (fun i => i.testBit f) ∨ dis (mo_w (pg_m P) (q + 1)) (fun i => i.testBit f)) := bP_cong (stl_so pj pl W.n256)
        rw [e]
        have := ih none
        rw [btO_s] at this
        by_cases c5 : sub (mo_w (pg_m P) (q + 1)) (fun i => i.testBit f) ∨ dis (mo_w (pg_m P) (q + 1)) (fun i => i.testBit f)
        · rw [bP_t c5, if_neg (by decide), b254_128 rfl, shl1 (by omega), or_ii, show ii (f : Nat) + ii 1 = ii ((f + 1 : Nat) : Int) from ii_add _ _]
          have sb : stlB (mo_w (pg_m P) (q + 1)) f = true := by unfold stlB; exact @decide_eq_true _ (Classical.propDecidable _) c5
          rw [if_pos sb] at this
          exact this
        · rw [bP_f c5, if_pos rfl, b254_128 rfl, show ii 0 = ii ((0 : Nat) : Int) from rfl, or_ii, Nat.or_zero, show ii (f : Nat) + ii 1 = ii ((f + 1 : Nat) : Int) from ii_add _ _]
          have sb : stlB (mo_w (pg_m P) (q + 1)) f = false := by unfold stlB; exact @decide_eq_false _ (Classical.propDecidable _) c5
          rw [if_neg (by rw [sb]; exact Bool.false_ne_true)] at this
          exact this) (Nat.zero_le _) none
      exact L
    rw [if_neg k6, if_neg k6]
  · rw [if_neg c, if_neg (by decide), if_neg (show ¬ isPe P x from c), rI_s]
theorem c312 (hI : RI h s) (hC : CsI s) (hx : i32 x) : GoCi (d + 3) 312 [.ref 148, .int (ii x)] h K ↔ K (ii (vCount s x)) h := by
  have W := hI.w hC
  have E : ∀ k : Nat, k < 2147483648 → ((ii x = ii k) ↔ x = k) := fun k hk => i32_eq hx k hk
  have E0 : (ii x = ii 0) ↔ x = 0 := E 0 (by decide)
  have E1 : (ii x = ii 1) ↔ x = 1 := E 1 (by decide)
  have E2 : (ii x = ii 2) ↔ x = 2 := E 2 (by decide)
  have E3 : (ii x = ii 3) ↔ x = 3 := E 3 (by decide)
  have E4 : (ii x = ii 4) ↔ x = 4 := E 4 (by decide)
  have E5 : (ii x = ii 5) ↔ x = 5 := E 5 (by decide)
  have E6 : (ii x = ii 6) ↔ x = 6 := E 6 (by decide)
  have E7 : (ii x = ii 7) ↔ x = 7 := E 7 (by decide)
  have E8 : (ii x = ii 8) ↔ x = 8 := E 8 (by decide)
  have E9 : (ii x = ii 9) ↔ x = 9 := E 9 (by decide)
  have E10 : (ii x = ii 10) ↔ x = 10 := E 10 (by decide)
  have E11 : (ii x = ii 11) ↔ x = 11 := E 11 (by decide)
  have E12 : (ii x = ii 12) ↔ x = 12 := E 12 (by decide)
  have E13 : (ii x = ii 13) ↔ x = 13 := E 13 (by decide)
  have p7 : xA h 149 7 = ii ((pg_t (cs_P s)).length : Nat) := hI.2.2.2.2.1.2.2.2.1.1
  have p8 : xA h 149 8 = ii (pg_x (cs_P s) : Nat) := hI.2.2.2.2.1.2.2.2.2
  have p59 : fI h 148 59 = ii ((pg_u (cs_P s)).length : Nat) := hI.2.2.2.2.1.2.2.1.1
  rw [e312, b312_0]
  simp only [(RS.ok W.1), (RS.fr W.1), true_and, and_true, true_or, or_true, W.1.l149, W.n, W.so, W.nq, W.np, W.nw, W.nt, W.day, W.ns, hI.2.2.2.1.1, hI.2.1.1, p7, p8, p59, E0, E1, E2, E3, E4, E5, E6, E7, E8, E9, E10, E11, E12, E13, rI_s]
  by_cases k0 : x = 0
  · subst k0; rw [if_pos rfl]; exact Iff.rfl
  rw [if_neg k0]
  by_cases k1 : x = 1
  · subst k1; rw [if_pos rfl]; exact Iff.rfl
  rw [if_neg k1]
  by_cases k2 : x = 2
  · subst k2; rw [if_pos rfl]; exact Iff.rfl
  rw [if_neg k2]
  by_cases k3 : x = 3
  · subst k3; rw [if_pos rfl]; exact Iff.rfl
  rw [if_neg k3]
  by_cases k4 : x = 4
  · subst k4; rw [if_pos rfl]; exact Iff.rfl
  rw [if_neg k4]
  by_cases k5 : x = 5
  · subst k5; rw [if_pos rfl]; exact Iff.rfl
  rw [if_neg k5]
  by_cases k6 : x = 6
  · subst k6; rw [if_pos rfl]; exact Iff.rfl
  rw [if_neg k6]
  by_cases k7 : x = 7
  · subst k7; rw [if_pos rfl]; exact Iff.rfl
  rw [if_neg k7]
  by_cases k8 : x = 8
  · subst k8; rw [if_pos rfl]; exact Iff.rfl
  rw [if_neg k8]
  by_cases k9 : x = 9
  · subst k9
    rw [if_pos rfl, c186 W]
    show _ ↔ K (ii (if 0 < ld_n (pg_l (cs_P s)) then (cB (mo_w (pg_m (cs_P s)) 0) 256 : Int) else -1)) h
    by_cases c3 : 0 < ld_n (pg_l (cs_P s))
    · rw [if_pos c3, if_neg (by decide), if_pos c3]
      (try simp only [(RS.ok W.1), (RS.fr W.1), true_and, and_true, true_or, or_true])
      rw [show ii 6 = ii ((6 : Nat) : Int) from rfl, c246 W.1 (by decide), W.br]
    · rw [if_neg c3, if_pos rfl, if_neg c3]
  rw [if_neg k9]
  by_cases k10 : x = 10
  · subst k10; rw [if_pos rfl]; exact Iff.rfl
  rw [if_neg k10]
  by_cases k11 : x = 11
  · subst k11; rw [if_pos rfl]; exact Iff.rfl
  rw [if_neg k11]
  by_cases k12 : x = 12
  · subst k12; rw [if_pos rfl]; exact Iff.rfl
  rw [if_neg k12]
  by_cases k13 : x = 13
  · subst k13; rw [if_pos rfl]; exact Iff.rfl
  rw [if_neg k13]
  unfold vCount vLand
  rw [if_neg k6, if_neg k7, if_neg k8, if_neg k9, if_neg k10, if_neg k11, if_neg k12, if_neg k13, if_neg k0, if_neg k1, if_neg k2, if_neg k3, if_neg k4, if_neg k5]
theorem ry_v {i j : Nat} (ok : LdOk l) (hi : i < (ld_p l).length) (hj : j < (ld_p l).length) : ∃ u v : Nat, wy l (6 * i + j) = u ∧ ry l (6 * i + j) = v ∧ ((u = 1000 ∧ v = 100000) ∨ (u = v ∧ u ≤ 576)) := ⟨_, _, rfl, rfl, ry_wy ok hi hj⟩
theorem vWay_y {a b u : Nat} (h1 : isPl P (a : Int)) (h2 : isPl P (b : Int)) (eu : wy (pg_l P) (6 * a + b) = u) : vWay P a b = if 1000 ≤ u then -2 else (u : Int) := by
  unfold vWay
  rw [if_pos ⟨h1, h2⟩]
  show (if 1000 ≤ wy (pg_l P) (6 * a + b) then -2 else ((wy (pg_l P) (6 * a + b) : Nat) : Int)) = _
  rw [eu]
theorem vWay_n (h1 : ¬ (isPl P y ∧ isPl P z)) : vWay P y z = -1 := by
  unfold vWay
  rw [if_neg h1]
theorem c259 (hI : RI h s) (hC : CsI s) (hy : i32 y) (hz : i32 z) (hK : ∀ h1, RI h1 s → K (ii (vWay (cs_P s) y z)) h1) : GoCi (d + 3) 259 [.ref 148, .int (ii y), .int (ii z)] h K := by
  have W := hI.w hC
  have p6 := W.p6
  rw [e259, b259_0]
  (try simp only [(RS.ok W.1), (RS.fr W.1), true_and, and_true, true_or, or_true])
  rw [c188 W hy]
  by_cases c : 0 ≤ y ∧ y < (ld_p (pg_l (cs_P s))).length
  · rw [if_pos c, if_neg (by decide)]
    (try simp only [(RS.ok W.1), (RS.fr W.1), true_and, and_true, true_or, or_true])
    rw [c188 W hz]
    by_cases c2 : 0 ≤ z ∧ z < (ld_p (pg_l (cs_P s))).length
    · rw [if_pos c2, if_pos (by decide)]
      obtain ⟨a, rfl⟩ := nat_of c.1
      obtain ⟨b, rfl⟩ := nat_of c2.1
      have ha : a < (ld_p (pg_l (cs_P s))).length := by omega
      have hb : b < (ld_p (pg_l (cs_P s))).length := by omega
      obtain ⟨u, v, eu, ev, hu⟩ := ry_v W.ok ha hb
      (try simp only [(RS.ok W.1), (RS.fr W.1), true_and, and_true, true_or, or_true])
      refine c257 W (fun h1 z1 B1 F1 => ?_)
      have W1 : Rw h1 (pg_l (cs_P s)) (pg_m (cs_P s)) (cs_S s) := W.sc z1 (by decide) (by decide) (by decide)
      have kk := hK h1 (hI.sc hC (z1.wd (by decide) (by decide)))
      rw [vWay_y c c2 eu] at kk
      (try simp only [(RS.ok W1.1), (RS.fr W1.1), true_and, and_true, true_or, or_true])
      rw [c258 W1.1 F1 (by omega) (by omega), ev]
      by_cases r1 : u = 1000
      · have r2 : v = 100000 := by omega
        rw [r2, show ii ((100000 : Nat) : Int) = ii 100000 from congrArg ii (by omega), if_neg (fun n => n rfl), rI_s]
        rw [if_pos (by omega)] at kk
        exact kk
      · have r0 : u = v ∧ u ≤ 576 := by omega
        rw [if_pos (by rw [show ii 100000 = ii (100000 : Int) from rfl, ii_eq (by omega) (by omega) (by omega) (by omega)]; omega)]
        (try simp only [(RS.ok W1.1), (RS.fr W1.1), true_and, and_true, true_or, or_true])
        rw [c258 W1.1 F1 (by omega) (by omega), rI_s, ev, ← r0.1]
        rw [if_neg (by omega)] at kk
        exact kk
    · rw [if_neg c2, if_neg (by decide), rI_s]
      have := hK h hI
      rw [vWay_n (fun g => c2 g.2)] at this
      exact this
  · rw [if_neg c, if_pos rfl, rI_s]
    have := hK h hI
    rw [vWay_n (fun g => c g.1)] at this
    exact this
theorem c275 (hI : RI h s) (hC : CsI s) (hy : i32 y) (hz : i32 z) (hK : ∀ h1, RI h1 (sPg s (aLook (cs_P s) y z).2) → K (ii (aLook (cs_P s) y z).1) h1) : GoCi (d + 5) 275 [.ref 148, .int (ii y), .int (ii z)] h K := by
  have W := hI.w hC
  have p6 := W.p6
  have q6 := W.q6
  have n8 := W.n8
  have no : ∀ h1, RI h1 s → ¬ ((isUpp (cs_P s) y ∧ isPl (cs_P s) z) ∧ mo_h (pg_m (cs_P s)) y.toNat + 2 * wy (pg_l (cs_P s)) z.toNat ≤ 24) → K (ii (-1)) h1 := fun h1 I1 n => by
    have := hK h1
    unfold aLook at this
    rw [if_neg n] at this
    exact this I1
  rw [e275, b275_0]
  (try simp only [(RS.ok W.1), (RS.fr W.1), true_and, and_true, true_or, or_true])
  rw [c187 W hy]
  by_cases c : 0 ≤ y ∧ y < (ld_q (pg_l (cs_P s))).length
  · rw [if_pos c, if_neg (by decide)]
    (try simp only [(RS.ok W.1), (RS.fr W.1), true_and, and_true, true_or, or_true])
    rw [c188 W hz]
    by_cases c2 : 0 ≤ z ∧ z < (ld_p (pg_l (cs_P s))).length
    · rw [if_pos c2, if_neg (by decide)]
      obtain ⟨q, rfl⟩ := nat_of c.1
      obtain ⟨k, rfl⟩ := nat_of c2.1
      have hq : q < (ld_q (pg_l (cs_P s))).length := by omega
      have hk : k < (ld_p (pg_l (cs_P s))).length := by omega
      simp only [(RS.ok W.1), (RS.fr W.1), true_and, and_true, true_or, or_true, W.1.x154 (show q < 6 by omega), W.mo hq]
      by_cases c3 : mo_l (pg_m (cs_P s)) q = true
      · rw [if_neg (fun n => n (bt1.mpr c3)), rI_s]
        exact no h hI (fun g => by
          have g2 : mo_l (pg_m (cs_P s)) q = false := g.1.1.2
          rw [c3] at g2; cases g2)
      · rw [if_pos (fun n => c3 (bt1.mp n))]
        (try simp only [(RS.ok W.1), (RS.fr W.1), true_and, and_true, true_or, or_true])
        refine c257 W (fun h1 z1 B1 F1 => ?_)
        have W1 : Rw h1 (pg_l (cs_P s)) (pg_m (cs_P s)) (cs_S s) := W.sc z1 (by decide) (by decide) (by decide)
        have I1 : RI h1 s := hI.sc hC (z1.wd (by decide) (by decide))
        have k0 : 6 * 0 + k = k := by omega
        obtain ⟨u, v, eu, ev, hu⟩ := ry_v W.ok (i := 0) (j := k) (by omega) hk
        rw [k0] at eu ev
        have hh := W.mj.2.2.1 q
        (try simp only [(RS.ok W1.1), (RS.fr W1.1), true_and, and_true, true_or, or_true])
        rw [show ii 0 = ii ((0 : Nat) : Int) from rfl, c258 W1.1 F1 (by decide) (by omega), k0, ev]
        by_cases r1 : u = 1000
        · have r2 : v = 100000 := by omega
          rw [r2, show ii ((100000 : Nat) : Int) = ii 100000 from congrArg ii (by omega), if_pos rfl, rI_s]
          exact no h1 I1 (fun g => by
            have g2 : mo_h (pg_m (cs_P s)) q + 2 * wy (pg_l (cs_P s)) k ≤ 24 := g.2
            rw [eu] at g2
            omega)
        · have r0 : u = v ∧ u ≤ 576 := by omega
          rw [← r0.1]
          rw [if_neg (by rw [show ii 100000 = ii (100000 : Int) from rfl, ii_eq (by omega) (by omega) (by omega) (by omega)]; omega)]
          simp only [(RS.ok W1.1), (RS.fr W1.1), true_and, and_true, true_or, or_true, W1.1.x153 (show q < 6 by omega), (W1.mo hq).2.1]
          rw [c258 W1.1 F1 (by decide) (by omega), k0, ev, ← r0.1]
          rw [show ii (mo_h (pg_m (cs_P s)) q : Nat) + ii 2 * ii (u : Nat) = ii ((mo_h (pg_m (cs_P s)) q + 2 * u : Nat) : Int) by rw [ii_mul, ii_add]; exact congrArg ii (by omega)]
          by_cases c4 : mo_h (pg_m (cs_P s)) q + 2 * u ≤ 24
          · rw [if_pos (by rw [show ii 24 = ii (24 : Int) from rfl, ii_le (by omega) (by omega) (by omega) (by omega)]; omega)]
            (try simp only [(RS.ok W1.1), (RS.fr W1.1), true_and, and_true, true_or, or_true])
            refine c270w I1 hC (fun h2 z2 e hU W2 => ?_)
            have F2 : FaR h2 (ry (pg_l (cs_P s))) := fun i hi => by rw [z2.ae (by decide) (by decide)]; exact F1 i hi
            simp only [(RS.ok W2.1), (RS.fr W2.1), true_and, and_true, true_or, or_true, W2.1.x153 (show q < 6 by omega), (W2.mo hq).2.1]
            rw [c258 W2.1 F2 (by decide) (by omega), k0, ev, ← r0.1]
            rw [show ii (mo_h (pg_m (cs_P s)) q : Nat) + ii 2 * ii (u : Nat) = ii ((mo_h (pg_m (cs_P s)) q + 2 * u : Nat) : Int) by rw [ii_mul, ii_add]; exact congrArg ii (by omega)]
            generalize eN : mo_h (pg_m (cs_P s)) q + 2 * u = N at *
            have z3 : RF [] [153] h2 (sI h2 153 (ii (q : Nat)) (ii (N : Nat))) := RF.sI
            have a3 : ∀ r, xA (sI h2 153 (ii (q : Nat)) (ii (N : Nat))) r = if 153 = r then upf (xA h2 153) q (ii (N : Nat)) else xA h2 r := fun r => W2.1.s153 (by omega)
            have W3 : Rw (sI h2 153 (ii (q : Nat)) (ii (N : Nat))) (pg_l (cs_P s)) ((pg_m (cs_P s)).1, (pg_m (cs_P s)).2.1, (pg_m (cs_P s)).2.2.1, (pg_m (cs_P s)).2.2.2.1, upf (mo_h (pg_m (cs_P s))) q N, (pg_m (cs_P s)).2.2.2.2.2) (cs_S s) := by
              refine W2.mv z3 (by decide) (by decide) (by decide) (fun i _ _ _ _ => by rw [a3, if_neg (by decide)]) ⟨⟨?_, ?_⟩, fun p hp => ⟨?_, ?_, ?_, ?_⟩, ?_⟩ ⟨W2.mj.1, W2.mj.2.1, fun p => ?_, W2.mj.2.2.2⟩
              · rw [lv_x (by decide), a3, if_neg (by decide)]; exact W2.day
              · rw [lv_x (by decide), a3, if_neg (by decide)]; exact W2.so
              · rw [lv_x (by decide), a3, if_neg (by decide)]; exact (W2.mo hp).1
              · rw [lv_x (by decide), a3, if_pos rfl]
                show upf (xA h2 153) q (ii (N : Nat)) p = ii (upf (mo_h (pg_m (cs_P s))) q N p : Nat)
                unfold upf
                by_cases c5 : p = q
                · rw [if_pos c5, if_pos c5]
                · rw [if_neg c5, if_neg c5]; exact (W2.mo hp).2.1
              · rw [lv_x (by decide), a3, if_neg (by decide)]; exact (W2.mo hp).2.2.1
              · rw [lv_x (by decide), a3, if_neg (by decide)]; exact (W2.mo hp).2.2.2
              · rw [lv_x (by decide), a3, if_neg (by decide)]; exact W2.br
              · show upf (mo_h (pg_m (cs_P s))) q N p ≤ 24
                unfold upf
                split
                · exact c4
                · exact W2.mj.2.2.1 p
            refine ⟨⟨by decide, (W2.1.x153 (show q < 6 by omega)).1⟩, ?_⟩
            generalize sI h2 153 (ii (q : Nat)) (ii (N : Nat)) = H at *
            have fl := (ld_p_lt W.ok hk).1
            simp only [(RS.ok W3.1), (RS.fr W3.1), true_and, and_true, true_or, or_true, W3.1.x155 (show k < 6 by omega), W3.pp hk]
            have e163 : rw8 (xA H 163) q = mo_w (pg_m (cs_P s)) (q + 1) := (W3.mo hq).2.2.2
            refine c253 W3 (by omega) fl (fun w hw => by rw [e163] at hw; exact W2.mj.2.2.2 (q + 1) w (by omega) hw) (fun h4 z4 => ?_)
            rw [e163] at z4
            have W4 := z4.hw W3 (Or.inl hq) (seeW_W2 (fun w hw => W2.mj.2.2.2 (q + 1) w (by omega) hw))
            rw [if_neg (show ¬ q = 6 by omega)] at W4
            simp only [(RS.ok W4.1), (RS.fr W4.1), true_and, and_true, true_or, or_true, W4.1.l149, W4.1.x155 (show k < 6 by omega), W4.pp hk, W4.so]
            have fm : mo_f (mo_sw ((pg_m (cs_P s)).1, (pg_m (cs_P s)).2.1, (pg_m (cs_P s)).2.2.1, (pg_m (cs_P s)).2.2.2.1, upf (mo_h (pg_m (cs_P s))) q N, (pg_m (cs_P s)).2.2.2.2.2) (q + 1) (seeW (mo_w (pg_m (cs_P s)) (q + 1)) ((ld_p (pg_l (cs_P s))).getD k 0) (mo_f (pg_m (cs_P s))))) = mo_f (pg_m (cs_P s)) := rfl
            rw [rI_s]
            have yes : (isUpp (cs_P s) (q : Int) ∧ isPl (cs_P s) (k : Int)) ∧ mo_h (pg_m (cs_P s)) (q : Int).toNat + 2 * wy (pg_l (cs_P s)) (k : Int).toNat ≤ 24 := ⟨⟨⟨c, Bool.eq_false_iff.mpr c3⟩, c2⟩, by show mo_h (pg_m (cs_P s)) q + 2 * wy (pg_l (cs_P s)) k ≤ 24; rw [eu]; omega⟩
            have kk := hK h4
            unfold aLook at kk
            rw [if_pos yes] at kk
            have zz : RF [59, 60, 61] [149, 150, 153, 154, 163, 191, 190] h h4 := (z1.wd (by decide) (by decide)).tr ((z2.wd (by decide) (by decide)).tr ((z3.wd (by decide) (by decide)).tr (z4.1.wd (by decide) (by decide))))
            have u4 := RPa_sc (RPa_sc hU z3 (by decide) (by decide)) z4.1 (by decide) (by decide)
            have i4 := hI.mo hC zz (by decide) (by decide) (fun i i6 i1 => by rw [z4.1.ae (by decide) (by decide), a3, if_neg (by decide), e 149 (by decide), z1.ae (by decide) (by decide)]) W4 u4
            have bb := bit_n (x := mo_f (pg_m (cs_P s))) (p := (ld_p (pg_l (cs_P s))).getD k 0) (Nat.lt_trans W.f8 (by decide)) (by omega)
            show K (shr (ii (mo_f (pg_m (cs_P s)) : Nat)) (ii ((ld_p (pg_l (cs_P s))).getD k 0 : Nat)) &&& ii 1) h4
            rw [bb]
            refine kk ?_
            rw [← eN, ← eu] at i4
            exact i4
          · rw [if_neg (by rw [show ii 24 = ii (24 : Int) from rfl, ii_le (by omega) (by omega) (by omega) (by omega)]; omega), rI_s]
            exact no h1 I1 (fun g => c4 (by
              have g2 : mo_h (pg_m (cs_P s)) q + 2 * wy (pg_l (cs_P s)) k ≤ 24 := g.2
              rw [eu] at g2
              exact g2))
    · rw [if_neg c2, if_pos rfl, rI_s]
      exact no h hI (fun g => c2 g.1.2)
  · rw [if_neg c, if_pos rfl, rI_s]
    exact no h hI (fun g => c g.1.1.1)
end Ry2
