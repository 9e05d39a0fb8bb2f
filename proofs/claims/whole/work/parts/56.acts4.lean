/-! TRIALS ADDED, A LAND SETTLED, A PAGE COPIED -/
section Acts4
variable {d b p q : Nat} {h h1 : mHeap} {P P2 : Pg}
theorem clr_dec : ∀ t, t < 10 → ∀ N, N < 1024 → ii (N : Nat) &&& (ii ((2 ^ t : Nat) : Int) ^^^ ii (-1)) = ii ((nb (upf (fun i => N.testBit i) t false) 10 : Nat) : Int) := by decide +kernel
theorem getD_app {α : Type} {xs : List α} {x dflt : α} {i : Nat} : (xs ++ [x]).getD i dflt = if i = xs.length then x else if i < xs.length then xs.getD i dflt else dflt := by
  rw [List.getD_eq_getElem?_getD]
  by_cases c : i < xs.length
  · rw [List.getElem?_append_left c, if_neg (by omega), if_pos c, List.getD_eq_getElem?_getD]
  · rw [List.getElem?_append_right (by omega)]
    by_cases e : i = xs.length
    · rw [if_pos e, e, Nat.sub_self]; rfl
    · rw [if_neg e, if_neg c, List.getElem?_eq_none (by simp; omega)]; rfl
/-- addTrial -/
theorem c61 {K : mHeap → Prop} (hP : PgR h p P) (hl : (pg_t P).length < 10) {s : Nat} {fell : Bool} (hK : ∀ h1, PgR h1 p (pg_l P, pg_m P, pg_u P, pg_t P ++ [(s, fell)], pg_x P) → FrP (PgT h p) 0 0 h h1 → xR h1 (p + 19) = xR h (p + 19) → fR h1 p 0 = fR h p 0 → K h1) : GoCv (d + 1) 61 [.ref p, .int (ii s), .int (if fell = true then ii 1 else ii 0)] h K := by
  obtain ⟨l0, l1, l2, l3, l4, l5, l6, l7, l8, ⟨N, hN, h6, hb⟩, l10, l11⟩ := hP.2
  have h64 := hP.1.1
  rw [e61, b61_0]
  simp only [PgS_okF hP.1, true_and, l6]
  have k20 := hP.1.2.2.2.1
  have r1 := row_ok k20 hl (by omega)
  have F1 : Fr (p + 20) 1 h (sI h (p + 20) (ii (pg_t P).length) (ii s)) := Fr.sI
  have S1 := PgS_fr hP.1 F1 (by omega)
  have e1 : ∀ j, fI (sI h (p + 20) (ii (pg_t P).length) (ii s)) p j = fI h p j := fun j => fI_sI
  have x20 : ∀ t, xA (sI h (p + 20) (ii (pg_t P).length) (ii s)) (p + 20) t = if t = (pg_t P).length then ii s else xA h (p + 20) t := fun t => by
    rw [sI_row k20 hl (by omega), if_pos rfl]; rfl
  generalize sI h (p + 20) (ii (pg_t P).length) (ii s) = H1 at *
  rw [e1, e1, h6, l6, shl1 (by omega), clr_dec _ hl N hN]
  generalize hN1 : nb (upf (fun i => N.testBit i) (pg_t P).length false) 10 = N1
  have hN1l : N1 < 1024 := by rw [← hN1]; exact nb_lt _ 10
  have hN1b : ∀ t, t < 10 → N1.testBit t = if t = (pg_t P).length then false else N.testBit t := fun t ht => by
    rw [← hN1, nb_bit, decide_eq_true ht]; rfl
  obtain ⟨S2, F2, g2⟩ := PgS_put S1 (k := 6) (Or.inr (Or.inr (Or.inl rfl))) (ii (N1 : Int))
  generalize sF H1 p 6 (.int (ii (N1 : Int))) = H2 at *
  refine ⟨⟨by omega, r1.1⟩, (PgS_okF S1).2.2.2.2.2.2.1, (PgS_okF S1).2.2.2.2.1, PgS_okP S1 (by decide), ?_⟩
  have xr : xR H2 (p + 19) = xR h (p + 19) := by rw [F2.1.2, F1.1.2]
  have f0 : fR H2 p 0 = fR h p 0 := by rw [fR_kd, F2.1.1, F1.1.1, ← fR_kd]
  have x22 : ∀ t, xA H2 (p + 20) t = if t = (pg_t P).length then ii s else xA h (p + 20) t := fun t => by
    rw [same_xA (F2.2.2.2 (p + 20) (by omega)), x20]
  have F12 : FrP (PgT h p) 0 0 h H2 := by
    refine ⟨⟨by rw [F2.2.1, F1.2.1]; omega, by rw [F2.2.1, F1.2.1]; omega, by rw [F2.2.2.1, F1.2.2.1]; omega, by rw [F2.2.2.1, F1.2.2.1]; omega⟩, fun a _ hT => ?_⟩
    have t1 : ¬ a = p := fun g => hT (Or.inl g)
    have t2 : ¬ (p + 9 ≤ a ∧ a < p + 21) := fun g => hT (Or.inr (Or.inl g))
    rw [F2.2.2.2 a (by omega), F1.2.2.2 a (by omega)]
  -- the end: one more, with fields as they then stand
  have fin : ∀ (H3 : mHeap) (N2 : Nat), N2 < 1024 → (∀ t, t < 10 → N2.testBit t = if t = (pg_t P).length then fell else N.testBit t) → PgS H3 p → (∀ j, fI H3 p j = if j = 6 then ii N2 else if j = 4 then ii (((pg_t P ++ [(s, fell)]).length : Nat) : Int) else fI h p j) → (∀ a, ¬ a = p → H3[a]? = H2[a]?) → (∀ c, kd H3 c = kd h c) → xR H3 (p + 19) = xR h (p + 19) → H3.length = h.length → mSlots H3 = mSlots h → K H3 := by
    intro H3 N2 n1 n2 n3 n4 n5 n6 n7 n8 n9
    have f03 : fR H3 p 0 = fR h p 0 := by rw [fR_kd, n6, ← fR_kd]
    have old : ∀ a, a < h.length → ¬ a = p → ¬ a = p + 20 → H3[a]? = h[a]? := fun a _ h1 h2 => by
      rw [n5 a h1, F2.2.2.2 a (by omega), F1.2.2.2 a (by omega)]
    have hd := PgS_La hP.1 l0.1
    have hlt := LaS_lt l0.1
    have hm9 := MoS_lt l2.1
    refine hK H3 ⟨n3, by rw [f03]; exact LaR_eq l0 (fun c h1 h2 => old c (by omega) (by omega) (by omega)), l1, MoR_eq l2 (fun a h1 h2 => old a (by omega) (by omega) (by omega)), by rw [n4]; exact l3, l4, fun i hi => ?_, by rw [n4]; rfl, by show (pg_t P ++ [(s, fell)]).length ≤ 10; rw [List.length_append]; show _ + 1 ≤ 10; omega, fun t ht => ?_, ⟨N2, n1, by rw [n4]; rfl, fun t ht => ?_⟩, by rw [n4]; exact l10, l11⟩ ⟨⟨by omega, by omega, by omega, by omega⟩, fun a ha hT => ?_⟩ n7 f03
    · obtain ⟨b, hb, hm⟩ := l5 i hi
      have pd := PgS_dis hP.1 (show i < 20 by have : i < (pg_u P).length := hi; omega) hb
      have hbl := MoS_lt hm.1
      exact ⟨b, by rw [n7]; exact hb, MoR_eq hm (fun a h1 h2 => old a (by omega) (by omega) (by omega))⟩
    · have ht : t < (pg_t P ++ [(s, fell)]).length := ht
      rw [List.length_append] at ht
      have ht : t < (pg_t P).length + 1 := ht
      show _ = ii (((pg_t P ++ [(s, fell)]).getD t (0, false)).1 : Int)
      rw [same_xA (n5 (p + 20) (by omega)), x22, getD_app]
      by_cases c : t = (pg_t P).length
      · rw [if_pos c, if_pos c]
      · rw [if_neg c, if_neg c, if_pos (by omega)]
        exact l8 t (by omega)
    · have ht : t < (pg_t P ++ [(s, fell)]).length := ht
      rw [List.length_append] at ht
      have ht : t < (pg_t P).length + 1 := ht
      show _ = ((pg_t P ++ [(s, fell)]).getD t (0, false)).2
      rw [n2 t (by omega), getD_app]
      by_cases c : t = (pg_t P).length
      · rw [if_pos c, if_pos c]
      · rw [if_neg c, if_neg c, if_pos (by omega)]
        exact hb t (by omega)
    · have t1 : ¬ a = p := fun g => hT (Or.inl g)
      have t2 : ¬ (p + 9 ≤ a ∧ a < p + 21) := fun g => hT (Or.inr (Or.inl g))
      exact old a ha t1 (by omega)
  have el : ii (((pg_t P).length : Nat) : Int) + ii 1 = ii (((pg_t P ++ [(s, fell)]).length : Nat) : Int) := by rw [ii_add, List.length_append]; rfl
  cases fell with
  | false =>
    rw [if_neg (show ¬ (false = true) by decide), if_pos rfl]
    have e4 : fI H2 p 4 = ii ((pg_t P).length : Nat) := by rw [g2, if_neg (by decide), e1, l6]
    rw [e4, el]
    obtain ⟨S3, F3, g3⟩ := PgS_put S2 (k := 4) (Or.inr (Or.inl rfl)) (ii (((pg_t P ++ [(s, false)]).length : Nat) : Int))
    refine ⟨(PgS_okF S2).2.2.2.2.1, PgS_okP S2 (by decide), ?_⟩
    rw [rV_s]
    refine fin _ N1 hN1l (fun t ht => by rw [hN1b t ht]) S3 (fun j => ?_) (fun a ha => F3.2.2.2 a (by omega)) (fun c => by rw [F3.1.1, F2.1.1, F1.1.1]) (by rw [F3.1.2, xr]) (by rw [F3.2.1, F2.2.1, F1.2.1]) (by rw [F3.2.2.1, F2.2.2.1, F1.2.2.1])
    rw [g3, g2, e1]
    by_cases c4 : j = 4
    · rw [if_pos c4, if_neg (by omega), if_pos c4]
    · rw [if_neg c4, if_neg c4]
  | true =>
    rw [if_pos rfl, if_neg (by decide)]
    have e4 : fI H2 p 4 = ii ((pg_t P).length : Nat) := by rw [g2, if_neg (by decide), e1, l6]
    have e6 : fI H2 p 6 = ii (N1 : Nat) := by rw [g2, if_pos rfl]
    have eo : ii (N1 : Nat) ||| ii ((2 ^ (pg_t P).length : Nat) : Int) = ii ((N1 ||| 2 ^ (pg_t P).length : Nat) : Int) := or_ii _ _
    rw [e4, e6, shl1 (by omega), eo]
    obtain ⟨S3, F3, g3⟩ := PgS_put S2 (k := 6) (Or.inr (Or.inr (Or.inl rfl))) (ii ((N1 ||| 2 ^ (pg_t P).length : Nat) : Int))
    have e43 : fI (sF H2 p 6 (.int (ii ((N1 ||| 2 ^ (pg_t P).length : Nat) : Int)))) p 4 = ii ((pg_t P).length : Nat) := by rw [g3, if_neg (by decide), e4]
    rw [e43, el]
    obtain ⟨S4, F4, g4⟩ := PgS_put S3 (k := 4) (Or.inr (Or.inl rfl)) (ii (((pg_t P ++ [(s, true)]).length : Nat) : Int))
    refine ⟨(PgS_okF S2).2.2.2.2.2.2.1, (PgS_okF S2).2.2.2.2.1, PgS_okP S2 (by decide), (PgS_okF S3).2.2.2.2.1, PgS_okP S3 (by decide), ?_⟩
    rw [rV_s]
    refine fin _ (N1 ||| 2 ^ (pg_t P).length) ?_ (fun t ht => ?_) S4 (fun j => ?_) (fun a ha => by rw [F4.2.2.2 a (by omega), F3.2.2.2 a (by omega)]) (fun c => by rw [F4.1.1, F3.1.1, F2.1.1, F1.1.1]) (by rw [F4.1.2, F3.1.2, xr]) (by rw [F4.2.1, F3.2.1, F2.2.1, F1.2.1]) (by rw [F4.2.2.1, F3.2.2.1, F2.2.2.1, F1.2.2.1])
    · exact Nat.or_lt_two_pow (n := 10) hN1l (Nat.pow_lt_pow_right (by decide) hl)
    · rw [Nat.testBit_or, hN1b t ht, Nat.testBit_two_pow]
      by_cases c : t = (pg_t P).length
      · rw [if_pos c, if_pos c]; simp [c]
      · rw [if_neg c, if_neg c]
        have : ¬ (pg_t P).length = t := fun g => c g.symm
        simp [this]
    · rw [g4, g3, g2, e1]
      by_cases c4 : j = 4
      · rw [if_pos c4, if_neg (by omega), if_pos c4]
      · rw [if_neg c4, if_neg c4]
        by_cases c6 : j = 6
        · rw [if_pos c6, if_pos c6]
        · rw [if_neg c6, if_neg c6, if_neg c6]
/-- another land put in a page -/
theorem PgS_land {la : Nat} (hP : PgS h p) : PgS (sF h p 0 (.ref la)) p ∧ fR (sF h p 0 (.ref la)) p 0 = la ∧ (∀ a, ¬ a = p → (sF h p 0 (.ref la))[a]? = h[a]?) ∧ (∀ j, ¬ j = 0 → fI (sF h p 0 (.ref la)) p j = fI h p j) ∧ (∀ c, xR (sF h p 0 (.ref la)) c = xR h c) := by
  have hP' := hP
  obtain ⟨t0, t1, t2, t3, t4, t5, t6⟩ := hP
  have gs : ∀ a, ¬ a = p → (sF h p 0 (.ref la))[a]? = h[a]? := fun a ha => by rw [sF_get, if_neg (fun g => ha g.symm)]
  have kp : kd (sF h p 0 (.ref la)) p = (4, 4, [la + 3, p + 12, p + 22, 0, 0, p + 23, 0, 0]) := by rw [kd_sF', t1, if_pos ⟨rfl, rfl⟩]; rfl
  have f0 : fR (sF h p 0 (.ref la)) p 0 = la := by rw [fR_kd, kp]; show la + 3 - 3 = la; omega
  have m9 : ∀ a, p + 9 ≤ a → a < p + 9 + 10 → (sF h p 0 (.ref la))[a]? = h[a]? := fun a h1 h2 => gs a (by omega)
  refine ⟨⟨t0, by rw [f0, kp], by rw [same_kd (gs _ (by omega))]; exact t2, by rw [same_kd (gs _ (by omega))]; exact t3, ?_, fun i b hi hb => ?_, fun i j b hi hj g g' => ?_⟩, f0, gs, fun j hj => fI_sF_o (fun g => hj g.2.symm), fun c => xR_sF⟩
  · obtain ⟨q0, q1, q2, q3, q4, q5⟩ := t4
    exact ⟨q0, by rw [same_kd (m9 _ (by omega) (by omega))]; exact q1, by rw [same_kd (m9 _ (by omega) (by omega))]; exact q2, by rw [same_kd (m9 _ (by omega) (by omega))]; exact q3, fun i hi => by rw [same_xR (m9 _ (by omega) (by omega))]; exact q4 i hi, fun i hi => ⟨(q5 i hi).1, by rw [same_kd (m9 _ (by omega) (by omega))]; exact (q5 i hi).2⟩⟩
  · rw [xR_sF] at hb
    obtain ⟨⟨m2, hm2⟩, hn⟩ := t5 i b hi hb
    have pd := PgS_dis hP' hi hb
    exact ⟨⟨m2, MoR_eq hm2 (fun a h1 h2 => gs a (by omega))⟩, hn⟩
  · rw [xR_sF] at g g'
    exact t6 i j b hi hj g g'
/-- settle -/
theorem c55 {K : mHeap → Prop} {la : Nat} {l : Ld} (hS : St h) (hP : PgR h p P) (hL : LaR h la l) (ok : LdOk l) (hK : ∀ h1, PgR h1 p (l, sta l, [], [], pg_x P) → FrP (PgT h p) 0 0 h h1 → xR h1 (p + 19) = xR h (p + 19) → fR h1 p 0 = la → K h1) : GoCv (d + 5) 55 [.ref p, .ref la] h K := by
  obtain ⟨l0, l1, l2, l3, l4, l5, l6, l7, l8, ⟨N, hN, h6, hb⟩, l10, l11⟩ := hP.2
  have h64 := hP.1.1
  obtain ⟨S1, f1, g1, i1, x1⟩ := PgS_land (la := la) hP.1
  have dd := PgS_La hP.1 hL.1
  rw [e55, b55_0, (PgS_okF S1).2.2.2.2.2.2.2.2.1]
  have m1 : MoR (sF h p 0 (.ref la)) (p + 9) (pg_m P) := MoR_eq l2 (fun a h1 h2 => g1 a (by omega))
  have L1 : LaR (sF h p 0 (.ref la)) la l := LaR_eq hL (fun c h1 h2 => g1 c (by omega))
  refine ⟨PgS_okP hP.1 (by decide), (PgS_okF S1).2.1, (MoS_okF m1.1).2.2.2.2.2.2.2.2, ?_⟩
  refine c45 (St_sF h64 hS) m1 L1 ok (by omega) (fun h2 F2 m2 => ?_)
  have e2 : ∀ a, a < p + 9 ∨ p + 19 ≤ a → h2[a]? = (sF h p 0 (.ref la))[a]? := fun a ha => F2.2.2.2 a (by omega)
  have S2 : PgS h2 p := by
    obtain ⟨t0, t1, t2, t3, t4, t5, t6⟩ := S1
    refine ⟨t0, by rw [F2.1.1, fR_kd, F2.1.1, ← fR_kd]; exact t1, by rw [F2.1.1]; exact t2, by rw [F2.1.1]; exact t3, m2.1, fun i b hi hb => ?_, fun i j b hi hj g g' => ?_⟩
    · rw [F2.1.2] at hb
      obtain ⟨⟨m3, hm3⟩, hn⟩ := t5 i b hi hb
      exact ⟨⟨m3, hm3.fr F2 (by have := MoS_dis hm3.1 m1.1 hn; omega)⟩, hn⟩
    · rw [F2.1.2] at g g'
      exact t6 i j b hi hj g g'
  obtain ⟨S3, F3, g3⟩ := PgS_put S2 (k := 3) (Or.inl rfl) (ii 0)
  obtain ⟨S4, F4, g4⟩ := PgS_put S3 (k := 4) (Or.inr (Or.inl rfl)) (ii 0)
  refine ⟨PgS_okP S2 (by decide), PgS_okP S3 (by decide), ?_⟩
  rw [rV_s]
  have gf : ∀ j, ¬ j = 0 → fI (sF (sF h2 p 3 (.int (ii 0))) p 4 (.int (ii 0))) p j = if j = 4 then ii 0 else if j = 3 then ii 0 else fI h p j := fun j hj => by
    rw [g4, g3, same_fI (e2 p (by omega)), i1 j hj]
  have f04 : fR (sF (sF h2 p 3 (.int (ii 0))) p 4 (.int (ii 0))) p 0 = la := by rw [fR_kd, F4.1.1, F3.1.1, F2.1.1, ← fR_kd, f1]
  refine hK _ ⟨S4, by rw [f04]; exact ((L1.fr F2 (by omega)).fr F3 (by omega)).fr F4 (by omega), ok, (m2.fr F3 (by omega)).fr F4 (by omega), by rw [gf 3 (by decide)]; rfl, Nat.zero_le _, fun i hi => absurd hi (Nat.not_lt_zero _), by rw [gf 4 (by decide)]; rfl, Nat.zero_le _, fun i hi => absurd hi (Nat.not_lt_zero _), ⟨N, hN, by rw [gf 6 (by decide)]; exact h6, fun t ht => absurd ht (Nat.not_lt_zero _)⟩, by rw [gf 7 (by decide)]; exact l10, l11⟩ ⟨⟨?_, ?_, ?_, ?_⟩, fun a ha hT => ?_⟩ (by rw [F4.1.2, F3.1.2, F2.1.2, x1]) f04
  · rw [F4.2.1, F3.2.1, F2.2.1, len_sF]; omega
  · rw [F4.2.1, F3.2.1, F2.2.1, len_sF]; omega
  · rw [F4.2.2.1, F3.2.2.1, F2.2.2.1, sl_sF]; omega
  · rw [F4.2.2.1, F3.2.2.1, F2.2.2.1, sl_sF]; omega
  · have t1 : ¬ a = p := fun g => hT (Or.inl g)
    have t2 : ¬ (p + 9 ≤ a ∧ a < p + 21) := fun g => hT (Or.inr (Or.inl g))
    rw [F4.2.2.2 a (by omega), F3.2.2.2 a (by omega), F2.2.2.2 a (by omega), g1 a t1]
end Acts4
