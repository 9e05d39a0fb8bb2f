/-! WHAT HOLDS BETWEEN CALLS, kept piece by piece -/
section Pcs
variable {h h1 : mHeap} {s : Cs} {T : Nat → Prop} {P P' : Pg} {S : List Wd} {C : List Ru} {I : Nat → Option Pg} {p : Nat}
theorem PgI.mono {S2 : List Wd} (x : PgI S P) (e : S.length ≤ S2.length) : PgI S2 P := ⟨x.1, fun t ht => Nat.lt_of_lt_of_le (x.2.1 t ht) e, x.2.2⟩
theorem SyR_eq (hS : SyR h S) (e : ∀ a, 69 ≤ a → a < 97 → h1[a]? = h[a]?) : SyR h1 S := by
  obtain ⟨⟨a1, a2, a3, a4, a5, a6⟩, b1, b2, b3⟩ := hS
  have k : ∀ a, 69 ≤ a → a < 97 → kd h1 a = kd h a := fun a g g' => same_kd (e a g g')
  exact ⟨⟨by rw [k 69 (by omega) (by omega)]; exact a1, by rw [k 70 (by omega) (by omega)]; exact a2, fun i hi => by rw [same_xR (e 70 (by omega) (by omega))]; exact a3 i hi, fun i hi => ⟨(a4 i hi).1, by rw [k _ (by omega) (by omega)]; exact (a4 i hi).2⟩, ⟨a5.1, by rw [k _ (by omega) (by omega)]; exact a5.2⟩, by rw [k _ (by omega) (by omega)]; exact a6⟩, by rw [same_fI (e 69 (by omega) (by omega))]; exact b1, b2, fun i hi => by rw [same_wo (e _ (by omega) (by omega))]; exact b3 i hi⟩
theorem RuS_Mo {r n b : Nat} (hR : RuS h r n) (hM : MoS h b) : r + 5 ≤ b ∨ b + 10 ≤ r := by
  by_cases c : b ≤ r ∧ r < b + 10
  · exfalso
    rcases MoS_kd hM c.1 c.2 with ⟨_, q⟩ | ⟨_, q⟩ | ⟨_, q⟩ | ⟨_, q⟩ <;> rw [hR.2.1] at q <;> cases q
  · by_cases c2 : r < b ∧ b < r + 5
    · exfalso
      have k := hM.2.1
      have : b = r + 1 ∨ b = r + 2 ∨ b = r + 3 ∨ b = r + 4 := by omega
      rcases this with q | q | q | q
      · rw [q, hR.2.2.1] at k; cases k
      · rw [q, hR.2.2.2.1] at k; cases k
      · rw [q, hR.2.2.2.2.1] at k; cases k
      · rw [q, hR.2.2.2.2.2] at k; cases k
    · omega
theorem RuR_eq {r : Nat} {R : Ru} (hR : RuR h r R) (e : ∀ a, r ≤ a → a < r + 5 → h1[a]? = h[a]?) : RuR h1 r R := by
  obtain ⟨n, ⟨a1, a2, a3, a4, a5, a6⟩, b1, b2, b3, b4, b5, b6⟩ := hR
  have k : ∀ a, r ≤ a → a < r + 5 → kd h1 a = kd h a := fun a g g' => same_kd (e a g g')
  refine ⟨n, ⟨a1, by rw [k r (by omega) (by omega)]; exact a2, by rw [k _ (by omega) (by omega)]; exact a3, by rw [k _ (by omega) (by omega)]; exact a4, by rw [k _ (by omega) (by omega)]; exact a5, by rw [k _ (by omega) (by omega)]; exact a6⟩, b1, b2, b3, by rw [same_fI (e r (by omega) (by omega))]; exact b4, fun c hc => by rw [same_xA (e _ (by omega) (by omega))]; exact b5 c hc, fun c hc => ?_⟩
  rw [same_xA (e (r + 3) (by omega) (by omega)), same_xA (e (r + 1) (by omega) (by omega))]
  exact b6 c hc
theorem RuR_lt {r : Nat} {R : Ru} (hR : RuR h r R) : r + 4 < h.length := by
  obtain ⟨n, sr, _⟩ := hR
  exact kd_lt (by rw [sr.2.2.2.2.2]; decide)
/-- the rules stay -/
theorem CiR_eq (hR : CiR h C) (hl : 202 ≤ h.length) (e : ∀ a, a < h.length → ¬ T a → h1[a]? = h[a]?) (t : ∀ a, T a → (a < 202 ∧ ¬ a = 64 ∧ ¬ a = 123) ∨ (202 ≤ a ∧ ∃ b, MoS h b ∧ b ≤ a ∧ a < b + 10)) : CiR h1 C := by
  obtain ⟨a1, a2, a3, a4⟩ := hR
  have e64 : h1[64]? = h[64]? := e 64 (by omega) (fun ht => by rcases t 64 ht with q | q <;> omega)
  have e123 : h1[123]? = h[123]? := e 123 (by omega) (fun ht => by rcases t 123 ht with q | q <;> omega)
  refine ⟨by rw [same_kd e123]; exact a1, by rw [same_fI e64]; exact a2, a3, fun k hk => ?_⟩
  obtain ⟨r, r1, r2, r3⟩ := a4 k hk
  refine ⟨r, by rw [same_xR e123]; exact r1, r2, RuR_eq r3 (fun a g1 g2 => ?_)⟩
  have l := RuR_lt r3
  refine e a (by omega) (fun ht => ?_)
  rcases t a ht with q | ⟨_, b, q1, q2⟩
  · omega
  · obtain ⟨n, sr, _⟩ := r3
    have := RuS_Mo sr q1
    omega
/-- the images stay -/
theorem CiI_eq {S2 : List Wd} (hI : CiI h S I) (hP : PgS h 97) (hl : 202 ≤ h.length) (e : ∀ a, a < h.length → ¬ T a → h1[a]? = h[a]?) (t : ∀ a, T a → (a < 202 ∧ (a < 98 ∨ 106 ≤ a) ∧ ¬ a = 124) ∨ (202 ≤ a ∧ PgT h 97 a)) (hN : PgN h h1 97) (hS : S.length ≤ S2.length) : CiI h1 S2 I := by
  obtain ⟨f1, f2, f3, f4⟩ := hI
  have e124 : h1[124]? = h[124]? := e 124 (by omega) (fun ht => by rcases t 124 ht with q | q <;> omega)
  have pe : ∀ k Q q, k < 4 → I k = some Q → 202 ≤ q → PgR h q Q → PgD h 97 q → hiP h q → ∀ a, PgT h q a ∨ (fR h q 0 ≤ a ∧ a < fR h q 0 + 8) → a < h.length ∧ h1[a]? = h[a]? := fun k Q q hk hQ q2 q3 q5 q6 a ha => by
    obtain ⟨o1, o2⟩ := PgD_out hP q3 q5 ha
    refine ⟨o2, e a o2 (fun ht => ?_)⟩
    rcases t a ht with c | c
    · rcases ha with (g | g | ⟨i, b, hi, hb, g⟩) | g
      · omega
      · omega
      · have := q6.2 i b hi hb
        omega
      · rcases q6.1 with u | u <;> omega
    · exact o1 c.2
  have xr : ∀ k q, k < 4 → xR h1 124 k = some q → ∃ Q, I k = some Q ∧ 202 ≤ q ∧ PgR h q Q ∧ PgI S Q ∧ PgD h 97 q ∧ hiP h q := fun k q hk hq => by
    rw [same_xR e124] at hq
    cases c : I k with
    | none => rw [f2 k hk c] at hq; cases hq
    | some Q =>
      obtain ⟨q', g1, g2⟩ := f3 k Q hk c
      rw [g1] at hq
      cases hq
      exact ⟨Q, rfl, g2⟩
  have x19 : ∀ k q, k < 4 → xR h1 124 k = some q → xR h1 (q + 19) = xR h (q + 19) ∧ q + 20 < h.length := fun k q hk hq => by
    obtain ⟨Q, g1, g2, g3, g4, g5, g6⟩ := xr k q hk hq
    obtain ⟨l1, l2⟩ := pe k Q q hk g1 g2 g3 g5 g6 (q + 19) (Or.inl (Or.inr (Or.inl ⟨by omega, by omega⟩)))
    exact ⟨same_xR l2, PgS_lt g3.1⟩
  refine ⟨by rw [same_kd e124]; exact f1, fun k hk hn => by rw [same_xR e124]; exact f2 k hk hn, fun k Q hk hQ => ?_, fun j k q q' hj hk ne e1 e2 => ?_⟩
  · obtain ⟨q, q1, q2, q3, q4, q5, q6⟩ := f3 k Q hk hQ
    have pq := pe k Q q hk hQ q2 q3 q5 q6
    have q1' : xR h1 124 k = some q := by rw [same_xR e124]; exact q1
    obtain ⟨y1, y2⟩ := x19 k q hk q1'
    have y0 : fR h1 q 0 = fR h q 0 := by rw [fR_kd, fR_kd, same_kd (pq q (Or.inl (Or.inl rfl))).2]
    refine ⟨q, q1', q2, PgR_eq q3 (fun a ha => (pq a ha).2), q4.mono hS, ⟨q5.1, fun i j b hi hj hb hb2 => ?_, fun i hi hb => ?_, fun j hj hb => ?_⟩, ⟨by rw [y0]; exact q6.1, fun i b hi hb => q6.2 i b hi (by rw [← y1]; exact hb)⟩⟩
    · rw [y1] at hb2
      rcases hN i b hi hb with ⟨i', hi', c⟩ | c
      · exact q5.2.1 i' j b hi' hj c hb2
      · have := MoS_lt (q3.1.2.2.2.2.2.1 j b hj hb2).1.S
        omega
    · rcases hN i _ hi hb with ⟨i', hi', c⟩ | c
      · exact q5.2.2.1 i' hi' c
      · omega
    · rw [y1] at hb
      exact q5.2.2.2 j hj hb
  · obtain ⟨y1, _⟩ := x19 j q hj e1
    obtain ⟨y2, _⟩ := x19 k q' hk e2
    rw [same_xR e124] at e1 e2
    have D := f4 j k q q' hj hk ne e1 e2
    unfold PgD
    rw [y1, y2]
    exact D
theorem PgR_lt (hP : PgR h p P) {a : Nat} (ha : PgT h p a ∨ (fR h p 0 ≤ a ∧ a < fR h p 0 + 8)) : a < h.length := by
  have l := PgS_lt hP.1
  rcases ha with (g | g | ⟨i, b, hi, hb, g⟩) | g
  · omega
  · omega
  · have := MoS_lt (hP.1.2.2.2.2.2.1 i b hi hb).1.S
    omega
  · have := LaS_lt hP.2.1.1
    omega
/-- what a call makes of what holds -/
def Nx (h h1 : mHeap) (s : Cs) : Prop := CI h1 s ∧ Gr 1000 12000 h h1 ∧ ∀ a, 148 ≤ a → a < 202 → h1[a]? = h[a]?
theorem Nx.rf (hC : CI h s) : Nx h h s := ⟨hC, Gr.rf, fun _ _ _ => rfl⟩
theorem hiP_T (hh : hiP h 97) {a : Nat} (ha : PgT h 97 a) : a = 97 ∨ (106 ≤ a ∧ a < 118) ∨ 202 ≤ a := by
  rcases ha with g | g | ⟨i, b, hi, hb, g⟩
  · omega
  · omega
  · have := hh.2 i b hi hb
    omega
/-- only the page changes -/
theorem CI.pg {n m : Nat} (hC : CI h s) (hF : FrP (PgT h 97) n m h h1) (hN : PgN h h1 97) (hP : PgR h1 97 P') (hI : PgI (cs_S s) P') (hf : fR h1 97 0 = 98 ∨ 202 ≤ fR h1 97 0) : CI h1 (s.1, s.2.1, s.2.2.1, P', s.2.2.2.2) := by
  obtain ⟨⟨a1, a2, a3, a4, a5, a6, a7⟩, ⟨b1, b2⟩, ⟨c1, c2, c3⟩, ⟨d1, d2, d3, d4, d5⟩, f, g1⟩ := hC
  have e : ∀ a, a < 97 ∨ (118 ≤ a ∧ a < 202) → h1[a]? = h[a]? := fun a g => hF.2 a (by omega) (fun ht => by have := hiP_T c3 ht; omega)
  have k : ∀ a, a < 97 ∨ (118 ≤ a ∧ a < 202) → kd h1 a = kd h a := fun a g => same_kd (e a g)
  have tm : ∀ a, PgT h 97 a → 202 ≤ a → ∃ b, MoS h b ∧ b ≤ a ∧ a < b + 10 := fun a g g2 => by
    rcases g with g | g | ⟨i, b, hi, hb, g⟩
    · omega
    · omega
    · exact ⟨b, (c1.1.2.2.2.2.2.1 i b hi hb).1.S, g⟩
  refine ⟨⟨St_get a1 (fun b hb => e b (by omega)), by unfold TbS; rw [k 64 (by omega)]; exact a2, ⟨by rw [k 65 (by omega)]; exact a3.1, by rw [k 66 (by omega)]; exact a3.2.1, by rw [k 67 (by omega)]; exact a3.2.2.1, by rw [k 68 (by omega)]; exact a3.2.2.2⟩, ⟨by rw [same_fI (e 65 (by omega))]; exact a4.1, a4.2.1, fun i hi => by rw [same_xA (e 66 (by omega))]; exact a4.2.2 i hi⟩, by rw [k 118 (by omega)]; exact a5, ⟨by rw [k 119 (by omega)]; exact a6.1, by rw [k 120 (by omega)]; exact a6.2.1, by rw [k 121 (by omega)]; exact a6.2.2.1, by rw [k 122 (by omega)]; exact a6.2.2.2⟩, by rw [same_xA (e 121 (by omega))]; exact a7⟩, ⟨SyR_eq b1 (fun a g g' => e a (by omega)), CiR_eq b2 g1 hF.2 (fun a ht => ?_)⟩, ⟨hP, hI, hf, fun i b hi hb => ?_⟩, ⟨⟨by have := d1.1; unfold AdS at this ⊢; rw [k 125 (by omega)]; exact this, fun c g g' => by rw [k c (by omega)]; exact d1.2 c g g'⟩, ⟨by rw [k 127 (by omega)]; exact d2.1, fun i hi => by rw [same_xR (e 127 (by omega))]; exact d2.2.1 i hi, by rw [k 128 (by omega)]; exact d2.2.2.1, by rw [k 129 (by omega)]; exact d2.2.2.2.1, by rw [k 130 (by omega)]; exact d2.2.2.2.2.1, ⟨d2.2.2.2.2.2.1.1, by rw [k 126 (by omega)]; exact d2.2.2.2.2.2.1.2⟩, fun i hi => ⟨(d2.2.2.2.2.2.2 i hi).1, by rw [k _ (by omega)]; exact (d2.2.2.2.2.2.2 i hi).2⟩⟩, by rw [k 136 (by omega)]; exact d3, by rw [k 137 (by omega)]; exact d4, ?_⟩, CiI_eq f c1.1 g1 hF.2 (fun a ht => ?_) hN (Nat.le_refl _), Nat.le_trans g1 hF.1.1⟩
  · have := hiP_T c3 ht
    by_cases q : 202 ≤ a
    · exact Or.inr ⟨q, tm a ht q⟩
    · exact Or.inl (by omega)
  · rcases hN i b hi hb with ⟨i', hi', c⟩ | c
    · exact c3.2 i' b hi' c
    · omega
  · obtain ⟨m, hm⟩ := d5
    exact ⟨m, MoR_eq hm (fun a g g' => e a (by omega))⟩
  · have := hiP_T c3 ht
    by_cases q : 202 ≤ a
    · exact Or.inr ⟨q, ht⟩
    · exact Or.inl (by omega)
theorem CI.pgN {n m : Nat} (hC : CI h s) (hF : FrP (PgT h 97) n m h h1) (hN : PgN h h1 97) (hP : PgR h1 97 P') (hI : PgI (cs_S s) P') (hf : fR h1 97 0 = 98 ∨ 202 ≤ fR h1 97 0) (hn : n ≤ 1000) (hm : m ≤ 12000) : Nx h h1 (s.1, s.2.1, s.2.2.1, P', s.2.2.2.2) :=
  ⟨hC.pg hF hN hP hI hf, hF.1.wide hn hm, fun a g g' => hF.2 a (by have := hC.2.2.2.2.2; omega) (fun ht => by have := hiP_T hC.2.2.1.2.2 ht; omega)⟩
/-- new cells alone -/
theorem CI.gr {n m : Nat} (hC : CI h s) (hG : Gr n m h h1) (e : ∀ a, a < h.length → h1[a]? = h[a]?) (hn : n ≤ 1000) (hm : m ≤ 12000) : Nx h h1 s := by
  obtain ⟨c1, c2, c3⟩ := hC.2.2.1
  have x19 : xR h1 (97 + 19) = xR h (97 + 19) := same_xR (e _ (by have := hC.2.2.2.2.2; omega))
  exact hC.pgN ⟨hG, fun a ha _ => e a ha⟩ (PgN_of x19) (PgR_eq c1 (fun a ha => e a (PgR_lt c1 ha))) c2 (by rw [fR_kd, same_kd (e 97 (by have := hC.2.2.2.2.2; omega)), ← fR_kd]; exact c3.1) hn hm
/-- work cells alone -/
theorem CI.wk {lo n : Nat} (hC : CI h s) (x : Fr lo n h h1) (e : (69 ≤ lo ∧ lo + n ≤ 73) ∨ (125 ≤ lo ∧ lo + n ≤ 138)) (hS : SyR h1 (cs_S s)) : Nx h h1 s :=
  ⟨hC.tm (x.toT (T := fun a => lo ≤ a ∧ a < lo + n) (fun a g g' => ⟨g, g'⟩)) (fun a g => by unfold tmC; omega) hS (by
    obtain ⟨m, hm⟩ := hC.2.2.2.1.2.2.2.2
    exact ⟨m, hm.fr x (by omega)⟩), x.gr.wide (by omega) (by omega), fun a g g' => x.2.2.2 a (by omega)⟩
end Pcs
