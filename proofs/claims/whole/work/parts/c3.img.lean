/-! WHAT ONE CALLS: images -/
def sIm (s : Cs) (I : Nat → Option Pg) : Cs := (s.1, s.2.1, s.2.2.1, s.2.2.2.1, I)
section Img
variable {d : Nat} {h h1 h2 : mHeap} {s s1 s2 : Cs} {x y z : Int} {P P' Q : Pg} {m m' : Mo} {S : List Wd} {I : Nat → Option Pg} {p q k : Nat}
theorem PgD.sym (D : PgD h p q) : PgD h q p := ⟨D.1.symm, fun i j b hi hj e1 e2 => D.2.1 j i b hj hi e2 e1, D.2.2.2, D.2.2.1⟩
theorem PgI_pg0 : PgI S pg0 := ⟨⟨by decide, by decide, (fun _ => by show 0 ≤ 24; decide), (fun i w _ hw => absurd hw (by show ¬ false = true; decide)), (fun i _ hn => absurd hn (by decide))⟩, (fun t ht => absurd ht (Nat.not_lt_zero _)), (fun m hm => by have hm : m ∈ ([] : List Mo) := hm; cases hm), Or.inr rfl⟩
theorem RuS_Pg {r n a : Nat} (hR : RuS h r n) (hP : PgS h q) (ha : PgT h q a) : ¬ (r ≤ a ∧ a < r + 5) := by
  intro g
  rcases ha with c | c | ⟨i, b, hi, hb, c⟩
  · have : a = r ∨ a = r + 1 ∨ a = r + 2 ∨ a = r + 3 ∨ a = r + 4 := by omega
    have k := hP.2.1
    rw [← c] at k
    rcases this with e | e | e | e | e
    · rw [e, hR.2.1] at k; cases k
    · rw [e, hR.2.2.1] at k; cases k
    · rw [e, hR.2.2.2.1] at k; cases k
    · rw [e, hR.2.2.2.2.1] at k; cases k
    · rw [e, hR.2.2.2.2.2] at k; cases k
  · by_cases c2 : a < q + 19
    · have := RuS_Mo hR hP.2.2.2.2.1
      omega
    · have k19 := hP.2.2.1
      have k20 := hP.2.2.2.1
      have w : a = q + 19 ∨ a = q + 20 := by omega
      have : a = r ∨ a = r + 1 ∨ a = r + 2 ∨ a = r + 3 ∨ a = r + 4 := by omega
      rcases w with w | w
      · rw [← w] at k19
        rcases this with e | e | e | e | e
        · rw [e, hR.2.1] at k19; cases k19
        · rw [e, hR.2.2.1] at k19; cases k19
        · rw [e, hR.2.2.2.1] at k19; cases k19
        · rw [e, hR.2.2.2.2.1] at k19; cases k19
        · rw [e, hR.2.2.2.2.2] at k19; cases k19
      · rw [← w] at k20
        rcases this with e | e | e | e | e
        · rw [e, hR.2.1] at k20; cases k20
        · have : q + 19 = r := by omega
          rw [this, hR.2.1] at k19; cases k19
        · rw [e, hR.2.2.2.1] at k20; cases k20
        · rw [e, hR.2.2.2.2.1] at k20; cases k20
        · rw [e, hR.2.2.2.2.2] at k20; cases k20
  · have := RuS_Mo hR (hP.2.2.2.2.2.1 i b hi hb).1.S
    omega
theorem CiR_pg {C : List Ru} {n k' : Nat} (hR : CiR h C) (hl : 202 ≤ h.length) (hP : PgS h q) (hF : FrP (PgT h q) n k' h h1) (u : ∀ a, PgT h q a → 202 ≤ a) : CiR h1 C := by
  obtain ⟨a1, a2, a3, a4⟩ := hR
  have e64 : h1[64]? = h[64]? := hF.2 64 (by omega) (fun ht => by have := u 64 ht; omega)
  have e123 : h1[123]? = h[123]? := hF.2 123 (by omega) (fun ht => by have := u 123 ht; omega)
  refine ⟨by rw [same_kd e123]; exact a1, by rw [same_fI e64]; exact a2, a3, fun k hk => ?_⟩
  obtain ⟨r, r1, r2, r3⟩ := a4 k hk
  refine ⟨r, by rw [same_xR e123]; exact r1, r2, RuR_eq r3 (fun a g1 g2 => ?_)⟩
  have l := RuR_lt r3
  obtain ⟨n, sr, _⟩ := r3
  exact hF.2 a (by omega) (fun ht => RuS_Pg sr hP ht ⟨g1, g2⟩)
/-- what is 64 to 202 stays: what holds of the rest -/
theorem CI.hi (hC : CI h s) (e : ∀ a, a < 202 → ¬ a = 124 → h1[a]? = h[a]?) (hl : 202 ≤ h1.length) (r : CiR h1 (cs_C s)) (p : PgR h1 97 (cs_P s)) (i : CiI h1 (cs_S s) I) : CI h1 (sIm s I) := by
  obtain ⟨⟨a1, a2, a3, a4, a5, a6, a7⟩, ⟨b1, b2⟩, ⟨c1, c2, c3⟩, ⟨d1, d2, d3, d4, d5⟩, f, g1⟩ := hC
  have k' : ∀ a, a < 202 → ¬ a = 124 → kd h1 a = kd h a := fun a g g' => same_kd (e a g g')
  have x19 : xR h1 (97 + 19) = xR h (97 + 19) := same_xR (e _ (by omega) (by omega))
  have f0 : fR h1 97 0 = fR h 97 0 := by rw [fR_kd, fR_kd, k' 97 (by omega) (by omega)]
  refine ⟨⟨St_get a1 (fun b hb => e b (by omega) (by omega)), by unfold TbS; rw [k' 64 (by omega) (by omega)]; exact a2, ⟨by rw [k' 65 (by omega) (by omega)]; exact a3.1, by rw [k' 66 (by omega) (by omega)]; exact a3.2.1, by rw [k' 67 (by omega) (by omega)]; exact a3.2.2.1, by rw [k' 68 (by omega) (by omega)]; exact a3.2.2.2⟩, ⟨by rw [same_fI (e 65 (by omega) (by omega))]; exact a4.1, a4.2.1, fun i hi => by rw [same_xA (e 66 (by omega) (by omega))]; exact a4.2.2 i hi⟩, by rw [k' 118 (by omega) (by omega)]; exact a5, ⟨by rw [k' 119 (by omega) (by omega)]; exact a6.1, by rw [k' 120 (by omega) (by omega)]; exact a6.2.1, by rw [k' 121 (by omega) (by omega)]; exact a6.2.2.1, by rw [k' 122 (by omega) (by omega)]; exact a6.2.2.2⟩, by rw [same_xA (e 121 (by omega) (by omega))]; exact a7⟩, ⟨SyR_eq b1 (fun a g g' => e a (by omega) (by omega)), r⟩, ⟨p, c2, by rw [f0]; exact c3.1, fun i b hi hb => c3.2 i b hi (by rw [← x19]; exact hb)⟩, ⟨⟨by have := d1.1; unfold AdS at this ⊢; rw [k' 125 (by omega) (by omega)]; exact this, fun c g g' => by rw [k' c (by omega) (by omega)]; exact d1.2 c g g'⟩, ⟨by rw [k' 127 (by omega) (by omega)]; exact d2.1, fun i hi => by rw [same_xR (e 127 (by omega) (by omega))]; exact d2.2.1 i hi, by rw [k' 128 (by omega) (by omega)]; exact d2.2.2.1, by rw [k' 129 (by omega) (by omega)]; exact d2.2.2.2.1, by rw [k' 130 (by omega) (by omega)]; exact d2.2.2.2.2.1, ⟨d2.2.2.2.2.2.1.1, by rw [k' 126 (by omega) (by omega)]; exact d2.2.2.2.2.2.1.2⟩, fun i hi => ⟨(d2.2.2.2.2.2.2 i hi).1, by rw [k' _ (by omega) (by omega)]; exact (d2.2.2.2.2.2.2 i hi).2⟩⟩, by rw [k' 136 (by omega) (by omega)]; exact d3, by rw [k' 137 (by omega) (by omega)]; exact d4, ?_⟩, i, hl⟩
  obtain ⟨m, hm⟩ := d5
  exact ⟨m, MoR_eq hm (fun a g g' => e a (by omega) (by omega))⟩
theorem hiP_U (q2 : 202 ≤ q) (hh : hiP h q) {a : Nat} (ha : PgT h q a) : 202 ≤ a := by
  rcases ha with g | g | ⟨i, b, hi, hb, g⟩
  · omega
  · omega
  · have := hh.2 i b hi hb
    omega
/-- an image's page changes -/
theorem CI.im {n k' : Nat} (hC : CI h s) (hk : k < 4) (hq : xR h 124 k = some q) (hI : cs_I s k = some Q) (hF : FrP (PgT h q) n k' h h1) (hN : PgN h h1 q) (hP : PgR h1 q P') (hPI : PgI (cs_S s) P') (hf : fR h1 q 0 = 98 ∨ 202 ≤ fR h1 q 0) : NxG n k' h h1 (sIm s (upf (cs_I s) k (some P'))) := by
  obtain ⟨c1, c2, c3⟩ := hC.2.2.1
  obtain ⟨f1, f2, f3, f4⟩ := id hC.2.2.2.2.1
  have g1 := hC.2.2.2.2.2
  obtain ⟨q', q1, q2, q3, q4, q5, q6⟩ := f3 k Q hk hI
  rw [hq] at q1
  cases q1
  have e : ∀ a, a < 202 → h1[a]? = h[a]? := fun a g => hF.2 a (by omega) (fun ht => by have := hiP_U q2 q6 ht; omega)
  have x124 : xR h1 124 = xR h 124 := same_xR (e 124 (by omega))
  obtain ⟨p1, p2, p3⟩ := PgR_out q3.1 c1 q5.sym hF
  have pn : ∀ i b, i < 20 → xR h1 (q + 19) i = some b → (∃ i', i' < 20 ∧ xR h (q + 19) i' = some b) ∨ h.length ≤ b := hN
  have dq : ∀ p, PgD h p q → (∀ j, xR h1 (p + 19) j = xR h (p + 19) j) → (∀ i b, i < 20 → xR h (p + 19) i = some b → b < h.length) → p + 20 < h.length → PgD h1 p q := fun p D x1 lt pl => by
    refine ⟨D.1, fun i j b hi hj hb hb2 => ?_, fun i hi hb => ?_, fun j hj hb => ?_⟩
    · rw [x1] at hb
      rcases pn j b hj hb2 with ⟨j', hj', c⟩ | c
      · exact D.2.1 i j' b hi hj' hb c
      · have := lt i b hi hb
        omega
    · rw [x1] at hb
      exact D.2.2.1 i hi hb
    · rcases pn j _ hj hb with ⟨j', hj', c⟩ | c
      · exact D.2.2.2 j' hj' c
      · omega
  refine ⟨hC.hi (fun a g _ => e a g) (Nat.le_trans g1 hF.1.1) (CiR_pg hC.2.1.2 g1 q3.1 hF (fun a ht => hiP_U q2 q6 ht)) p1 ⟨by rw [same_kd (e 124 (by omega))]; exact f1, fun j hj hn => ?_, fun j R hj hR => ?_, fun i j a b hi hj ne e1 e2 => ?_⟩, hF.1, fun a g g' => e a g'⟩
  · rw [x124]
    unfold upf at hn
    by_cases c : j = k
    · rw [if_pos c] at hn; cases hn
    · rw [if_neg c] at hn; exact f2 j hj hn
  · unfold upf at hR
    by_cases c : j = k
    · rw [if_pos c] at hR
      cases hR
      refine ⟨q, by rw [x124, c]; exact hq, q2, hP, hPI, dq 97 q5 p2 (fun i b hi hb => by have := MoS_lt (c1.1.2.2.2.2.2.1 i b hi hb).1.S; omega) (PgS_lt c1.1), hf, fun i b hi hb => ?_⟩
      rcases pn i b hi hb with ⟨i', hi', c⟩ | c
      · exact q6.2 i' b hi' c
      · omega
    · rw [if_neg c] at hR
      obtain ⟨r, r1, r2, r3, r4, r5, r6⟩ := f3 j R hj hR
      have D := f4 k j q r hk hj (fun g => c g.symm) hq r1
      obtain ⟨y1, y2, y3⟩ := PgR_out q3.1 r3 D hF
      refine ⟨r, by rw [x124]; exact r1, r2, y1, r4, ⟨r5.1, fun i j b hi hj hb hb2 => ?_, fun i hi hb => ?_, fun j hj hb => ?_⟩, by rw [y3]; exact r6.1, fun i b hi hb => r6.2 i b hi (by rw [← y2]; exact hb)⟩
      · rw [p2] at hb
        rw [y2] at hb2
        exact r5.2.1 i j b hi hj hb hb2
      · rw [p2] at hb
        exact r5.2.2.1 i hi hb
      · rw [y2] at hb
        exact r5.2.2.2 j hj hb
  · rw [x124] at e1 e2
    have D := f4 i j a b hi hj ne e1 e2
    have old : ∀ j r, j < 4 → ¬ j = k → xR h 124 j = some r → (∀ t, xR h1 (r + 19) t = xR h (r + 19) t) ∧ (∀ i b, i < 20 → xR h (r + 19) i = some b → b < h.length) ∧ r + 20 < h.length := fun j r hj c hr => by
      cases o : cs_I s j with
      | none => rw [f2 j hj o] at hr; cases hr
      | some R =>
        obtain ⟨r', r1, r2, r3, r4, r5, r6⟩ := f3 j R hj o
        rw [r1] at hr
        cases hr
        have D := f4 k j q r hk hj (fun g => c g.symm) hq r1
        exact ⟨(PgR_out q3.1 r3 D hF).2.1, fun i b hi hb => by have := MoS_lt (r3.1.2.2.2.2.2.1 i b hi hb).1.S; omega, PgS_lt r3.1⟩
    by_cases ci : i = k
    · have hab : a = q := by rw [ci, hq] at e1; cases e1; rfl
      rw [hab] at D ⊢
      have o := old j b hj (fun g => ne (ci.trans g.symm)) e2
      exact (dq b D.sym o.1 o.2.1 o.2.2).sym
    · have oa := old i a hi ci e1
      by_cases cj : j = k
      · have hab : b = q := by rw [cj, hq] at e2; cases e2; rfl
        rw [hab] at D ⊢
        exact dq a D oa.1 oa.2.1 oa.2.2
      · have ob := old j b hj cj e2
        refine ⟨D.1, fun i j b hi hj hb hb2 => ?_, fun i hi hb => ?_, fun j hj hb => ?_⟩
        · rw [oa.1] at hb
          rw [ob.1] at hb2
          exact D.2.1 i j b hi hj hb hb2
        · rw [oa.1] at hb
          exact D.2.2.1 i hi hb
        · rw [ob.1] at hb
          exact D.2.2.2 j hj hb
end Img
