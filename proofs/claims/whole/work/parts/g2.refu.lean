/-! THE REFERENCE: days run by a rule -/
section Tc
variable {d : Nat} {h h1 h0 H : mHeap} {l : Ld} {m m' : Mo} {S : List Wd} {P : Pg} {s : Cs} {x y z : Int} {q k n r o : Nat} {C : Ru}
theorem c241 {K : Int32 → mHeap → Prop} {L : List Ru} (hR : RS h) (hC : RRu h L) (hx : i32 x) : GoCi (d + 2) 241 [.ref 148, .int (ii x)] h K ↔ K (if 0 ≤ x ∧ x < L.length then ii 1 else ii 0) h := by
  have f31 := hC.1
  have l6 := hC.2.1
  rw [e241, b241_0]
  simp only [(RS.ok hR), (RS.fr hR), true_and, and_true, true_or, or_true, f31, rI_s]
  rw [cin hx (by omega) (by omega)]
  by_cases c : 0 ≤ x ∧ x < L.length
  · rw [if_pos c]
    exact and_iff_right (Or.inr rfl)
  · rw [if_neg c]
    exact and_iff_right (Or.inl rfl)
abbrev rnR : List Nat := [149, 150, 153, 154, 163, 188, 189, 193]
theorem RRr.rn (hC : RRr h r C) (z : RF [] rnR h h1) : RRr h1 r C := RRr_eq hC (fun a g1 g2 => z.ae (by omega) (by
  have : a = 176 ∨ a = 177 ∨ a = 178 ∨ a = 179 ∨ a = 180 ∨ a = 181 := by omega
  rcases this with q | q | q | q | q | q <;> (subst q; decide)))
/-- the persons of a day, one after another -/
theorem c282_p {o6 : Option Value} {X : Nat × Mo} {kk : Int32} {K : Int32 → mHeap → Prop} (W0 : Rw h l X.2 S) (hr : r < 6) (hC : RRr h r C) (ok : RuOk C) (hK : ∀ h1 o6, RF [] rnR h h1 → (∀ i, ¬ i = 6 → ¬ i = 1 → xA h1 149 i = xA h 149 i) → Rw h1 l (itr (dyP l S C) X (ld_q l).length).2 S → Go (d + 5) 282 63 [some (.ref 148), some (.int (ii (r : Nat))), some (.int (ii y)), some (.int (ii ((itr (dyP l S C) X (ld_q l).length).1 : Nat))), some (.int kk), some (.int (ii ((ld_q l).length : Nat))), o6] [] h1 (rI K)) : Go (d + 5) 282 63 [some (.ref 148), some (.int (ii (r : Nat))), some (.int (ii y)), some (.int (ii (X.1 : Nat))), some (.int kk), some (.int (ii 0)), o6] [] h (rI K) := by
  have q6 := W0.q6
  refine Go_loop (fun j L h' => RF [] rnR h h' ∧ (∀ i, ¬ i = 6 → ¬ i = 1 → xA h' 149 i = xA h 149 i) ∧ Rw h' l (itr (dyP l S C) X j).2 S ∧ ∃ o6, L = [some (.ref 148), some (.int (ii (r : Nat))), some (.int (ii y)), some (.int (ii ((itr (dyP l S C) X j).1 : Nat))), some (.int kk), some (.int (ii (j : Nat))), o6]) (ld_q l).length ?_ ?_ 0 _ h (Nat.zero_le _) ⟨RF.rf, fun _ _ _ => rfl, W0, o6, rfl⟩
  · rintro j L h' hj ⟨z, e1, W, o6, rfl⟩ nx
    have ej : ii (j : Nat) + ii 1 = ii ((j + 1 : Nat) : Int) := ii_add _ _
    have hs : itr (dyP l S C) X (j + 1) = dyP l S C (itr (dyP l S C) X j) j := rfl
    rw [hs] at nx
    generalize itr (dyP l S C) X j = Y at *
    have no : ∀ h2 o6, RF [] [188, 189] h' h2 → (mo_l Y.2 j = true ∨ chA l Y.2 S C j = -1) → Go (d + 5) 282 95 [some (.ref 148), some (.int (ii (r : Nat))), some (.int (ii y)), some (.int (ii (Y.1 : Nat))), some (.int kk), some (.int (ii (j : Nat))), o6] [.int (ii (-1))] h2 (rI K) := fun h2 o6 z2 c => by
      rw [b282_95, if_pos rfl, b282_123, ej]
      have e : dyP l S C Y j = Y := if_pos c
      rw [e] at nx
      exact nx _ _ ⟨z.tr (z2.wd (by decide) (by decide)), fun i a b => by rw [z2.ae (by decide) (by decide)]; exact e1 i a b, W.sc z2 (by decide) (by decide) (by decide), _, rfl⟩
    rw [b282_63]
    simp only [(RS.ok W.1), (RS.fr W.1), true_and, and_true, true_or, or_true, W.1.l149, W.nq, W.1.x154 (show j < 6 by omega), (W.mo hj).2.2.1]
    rw [if_neg (by rw [ii_le (by omega) (by omega) (by omega) (by omega)]; omega)]
    by_cases c : mo_l Y.2 j = true
    · rw [if_pos (by rw [c]; decide)]
      exact no h' _ RF.rf (Or.inl c)
    · rw [if_neg (by rw [Bool.not_eq_true] at c; rw [c]; exact fun n => n rfl)]
      refine c281 W hr (hC.rn z) ok hj (fun h2 z2 => ?_)
      rcases chA_lt (l := l) (m := Y.2) (S := S) (C := C) (q := j) with g | ⟨g1, g2⟩
      · rw [g]
        exact no h2 _ z2 (Or.inr g)
      · have W2 := W.sc z2 (by decide) (by decide) (by decide)
        have s24 := W.s24
        have ns : ¬ (mo_l Y.2 j = true ∨ chA l Y.2 S C j = -1) := fun n => n.elim c (fun g => by omega)
        have e : dyP l S C Y j = _ := if_neg ns
        rw [e] at nx
        obtain ⟨t, ht⟩ := nat_of g1
        rw [ht, Int.toNat_natCast] at nx
        rw [ht] at g2 ⊢
        rw [b282_95, if_neg (by rw [ii_eq (by omega) (by omega) (by omega) (by omega)]; omega)]
        (try simp only [(RS.ok W2.1), (RS.fr W2.1), true_and, and_true, true_or, or_true])
        refine c272 W2 hj (by omega) (fun h3 z3 W3 => ?_)
        have zt : RF [] rnR h h3 := z.tr ((z2.wd (by decide) (by decide)).tr (z3.wd (by decide) (by decide)))
        have ca := (cro_f (m := Y.2) (q := j) (wt := (la_q l j).2.1) (w := sy S t)).2.2.1
        have ee : ∀ i, ¬ i = 6 → ¬ i = 1 → xA h3 149 i = xA h 149 i := fun i a b => by rw [z3.ae (by decide) (by decide), z2.ae (by decide) (by decide)]; exact e1 i a b
        by_cases c3 : (cro Y.2 j (la_q l j).2.1 (sy S t)).1 = 3
        · rw [if_neg (by rw [c3]; exact fun n => n rfl), b282_121, b282_123, ej]
          rw [if_pos c3] at nx
          exact nx _ _ ⟨zt, ee, W3, _, by rw [show ii (Y.1 : Nat) + ii 1 = ii ((Y.1 + 1 : Nat) : Int) from ii_add _ _]⟩
        · rw [if_pos (by rw [show ii 3 = ii (3 : Int) from rfl, ii_eq (by omega) (by omega) (by omega) (by omega)]; omega), b282_121, b282_123, ej]
          rw [if_neg c3] at nx
          exact nx _ _ ⟨zt, ee, W3, _, by rw [show ii (Y.1 : Nat) + ii 0 = ii (Y.1 : Nat) by rw [ii_add]; exact congrArg ii (by omega)]⟩
  · rintro L h' ⟨z, e1, W, o6, rfl⟩
    exact hK h' o6 z e1 W
theorem c282 {K : Int32 → mHeap → Prop} (hI : RI h s) (hC : CsI s) (hx : i32 x) (hy : i32 y) (hK : ∀ h1, RI h1 (sPg s (aRun s x y).2) → K (ii (aRun s x y).1) h1) : GoCi (d + 6) 282 [.ref 148, .int (ii x), .int (ii y)] h K := by
  have W := hI.w hC
  have hP := hI.2.2.2.2.1
  have r0 : ¬ (((0 ≤ x ∧ x < (cs_C s).length) ∧ 1 ≤ y ∧ y ≤ 60) ∧ 0 < ld_n (pg_l (cs_P s)) ∧ (mo_d (pg_m (cs_P s)) : Int) + y ≤ 9999) → K (ii (-1)) h := fun g => by
    have ev : aRun s x y = _ := if_neg g
    rw [ev] at hK
    exact hK h hI
  rw [e282, b282_0]
  simp only [(RS.ok W.1), (RS.fr W.1), true_and, and_true, true_or, or_true, rI_s]
  rw [c186 W]
  by_cases c3 : 0 < ld_n (pg_l (cs_P s))
  rotate_left
  · rw [if_neg c3, if_pos rfl]
    exact r0 (fun g => c3 g.2.1)
  rw [if_pos c3, if_neg (by decide)]
  (try simp only [(RS.ok W.1), (RS.fr W.1), true_and, and_true, true_or, or_true])
  rw [c241 W.1 hI.2.2.2.1 hx]
  by_cases c1 : 0 ≤ x ∧ x < (cs_C s).length
  rotate_left
  · rw [if_neg c1, if_pos rfl]
    exact r0 (fun g => c1 g.1.1)
  rw [if_pos c1, if_neg (by decide)]
  rw [show jj 60 = jj (60 : Int) from rfl, show jj 1 = jj (1 : Int) from rfl, cin2 hy ⟨by omega, by omega⟩ ⟨by omega, by omega⟩]
  by_cases c2 : 1 ≤ y ∧ y ≤ 60
  rotate_left
  · rw [if_neg c2, if_pos rfl]
    exact r0 (fun g => c2 g.1.2)
  rw [if_pos c2, if_neg (by decide)]
  simp only [(RS.ok W.1), (RS.fr W.1), true_and, and_true, true_or, or_true, W.1.l149, W.day]
  have d9 := hC.1.2.1.2.1
  obtain ⟨r, rfl⟩ := nat_of c1.1
  obtain ⟨n, rfl⟩ := nat_of (show 0 ≤ y by omega)
  rw [show ii (mo_d (pg_m (cs_P s)) : Nat) + ii (n : Nat) = ii ((mo_d (pg_m (cs_P s)) + n : Nat) : Int) from ii_add _ _]
  by_cases c4 : mo_d (pg_m (cs_P s)) + n ≤ 9999
  rotate_left
  · rw [if_neg (by rw [show ii 9999 = ii (9999 : Int) from rfl, ii_le (by omega) (by omega) (by omega) (by omega)]; omega)]
    exact r0 (fun g => by omega)
  rw [if_pos (by rw [show ii 9999 = ii (9999 : Int) from rfl, ii_le (by omega) (by omega) (by omega) (by omega)]; omega)]
  have ev : aRun s (r : Nat) (n : Nat) = _ := if_pos ⟨⟨c1, c2⟩, c3, by omega⟩
  rw [ev, Int.toNat_natCast, Int.toNat_natCast] at hK
  have t59 : tgK (kd h 148) 59 = some 0 := W.1.tg.2.2.2.2.2.2.2.2.2.2.2.2.2.2.1
  simp only [W.1.op, true_and]
  have z0 := RF.sF (x := ii 0) t59
  have hr : r < (cs_C s).length := by omega
  have r6 := hI.2.2.2.1.2.1
  have hRr := hI.2.2.2.1.2.2 r hr
  have ok : RuOk ((cs_C s).getD r []) := hC.2.2.1 _ (by
    rw [List.getD_eq_getElem?_getD, List.getElem?_eq_getElem hr, Option.getD_some]
    exact List.getElem_mem hr)
  have e0 : ∀ a, xA (sF h 148 59 (.int (ii 0))) a = xA h a := fun a => xA_sF
  generalize sF h 148 59 (.int (ii 0)) = H0 at *
  have W0 := W.sc z0.1 (by decide) (by decide) (by decide)
  have hRr0 : RRr H0 r ((cs_C s).getD r []) := RRr_eq hRr (fun a _ _ => e0 a)
  have f8 := W.f8
  generalize (cs_C s).getD r [] = C at *
  refine Go_loop (fun k L h' => RF [] rnR H0 h' ∧ (∀ i, ¬ i = 6 → ¬ i = 1 → xA h' 149 i = xA H0 149 i) ∧ Rw h' (pg_l (cs_P s)) (itr (dyD (pg_l (cs_P s)) (cs_S s) C) (0, pg_m (cs_P s)) k).2 (cs_S s) ∧ ∃ o5 o6, L = [some (.ref 148), some (.int (ii (r : Nat))), some (.int (ii (n : Nat))), some (.int (ii ((itr (dyD (pg_l (cs_P s)) (cs_S s) C) (0, pg_m (cs_P s)) k).1 : Nat))), some (.int (ii (k : Nat))), o5, o6]) n ?_ ?_ 0 _ H0 (Nat.zero_le _) ⟨RF.rf, fun _ _ _ => rfl, W0, none, none, rfl⟩
  · rintro k L h' hk ⟨z, e1, Wk, o5, o6, rfl⟩ nx
    have ek : ii (k : Nat) + ii 1 = ii ((k + 1 : Nat) : Int) := ii_add _ _
    have fk := (dyK_f (S := cs_S s) (C := C) hC.1.1 f8 k).2
    have hs : itr (dyD (pg_l (cs_P s)) (cs_S s) C) (0, pg_m (cs_P s)) (k + 1) = dyD (pg_l (cs_P s)) (cs_S s) C (itr (dyD (pg_l (cs_P s)) (cs_S s) C) (0, pg_m (cs_P s)) k) k := rfl
    rw [hs] at nx
    generalize itr (dyD (pg_l (cs_P s)) (cs_S s) C) (0, pg_m (cs_P s)) k = X at *
    have fj := (dyI_f (l := pg_l (cs_P s)) (S := cs_S s) (C := C) (x := X) (ld_q (pg_l (cs_P s))).length).2
    rw [b282_54, if_neg (by rw [ii_le (by omega) (by omega) (by omega) (by omega)]; omega)]
    refine c282_p Wk (by omega) (hRr0.rn z) ok (fun h2 o6 z2 e2 W2 => ?_)
    rw [b282_63]
    simp only [(RS.ok W2.1), (RS.fr W2.1), true_and, and_true, true_or, or_true, W2.1.l149, W2.nq]
    rw [if_pos (Int32.le_refl _)]
    refine c277 W2 (by omega) (fun h3 z3 e3 W3 => ?_)
    rw [ek]
    exact nx _ _ ⟨z.tr (z2.tr (z3.wd (by decide) (by decide))), fun i a b => by rw [e3 i a b, e2 i a b]; exact e1 i a b, W3, _, _, rfl⟩
  · rintro L h' ⟨z, e1, Wk, o5, o6, rfl⟩
    rw [b282_54, if_pos (Int32.le_refl _), rI_s]
    have zz : RF [59] rnR h h' := (z0.1.wd (by decide) (by decide)).tr (z.wd (by decide) (by decide))
    refine hK h' (hI.pg hC (zz.wd (by decide) (by decide)) (fun i _ => by rw [zz.ae (by decide) (by decide)]) (RPg.act hP hC.1.1 zz (by decide) (fun i a b => by rw [e1 i a b, e0]) Wk.2.2.1.1 ⟨?_, Nat.zero_le _, fun i hi => absurd hi (Nat.not_lt_zero _)⟩))
    show fI h' 148 59 = _
    rw [z.fe (by decide), z0.2]
    rfl
end Tc
