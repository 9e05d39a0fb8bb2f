/-! WHAT ONE CALLS: run -/
noncomputable def aRun (s : Cs) (r n : Int) : Int × Pg := if ((0 ≤ r ∧ r < (cs_C s).length) ∧ 1 ≤ n ∧ n ≤ 60) ∧ 0 < ld_n (pg_l (cs_P s)) ∧ (mo_d (pg_m (cs_P s)) : Int) + n ≤ 9999 then (((itr (dyD (pg_l (cs_P s)) (cs_S s) ((cs_C s).getD r.toNat [])) (0, pg_m (cs_P s)) n.toNat).1 : Int), (pg_l (cs_P s), (itr (dyD (pg_l (cs_P s)) (cs_S s) ((cs_C s).getD r.toNat [])) (0, pg_m (cs_P s)) n.toNat).2, [], pg_t (cs_P s), pg_x (cs_P s))) else (-1, cs_P s)
section Rn2
variable {d : Nat} {h h1 h2 : mHeap} {s s1 s2 : Cs} {x y : Int}
/-- run -/
theorem c155 {K : Int32 → mHeap → Prop} (hC : CI h s) (hx : i32 x) (hy : i32 y) (hK : ∀ h1, Nx h h1 (sPg s (aRun s x y).2) → K (ii (aRun s x y).1) h1) : GoCi (d + 7) 155 [.ref 64, .int (ii x), .int (ii y)] h K := by
  have r0 : ¬ (((0 ≤ x ∧ x < (cs_C s).length) ∧ 1 ≤ y ∧ y ≤ 60) ∧ 0 < ld_n (pg_l (cs_P s)) ∧ (mo_d (pg_m (cs_P s)) : Int) + y ≤ 9999) → K (ii (-1)) h := fun g => by
    have ev : aRun s x y = _ := if_neg g
    rw [ev] at hK
    exact hK h (Nx.rf hC)
  obtain ⟨⟨a1, hT, _⟩, ⟨hS, hR⟩, ⟨hP, hI, hh⟩, _⟩ := id hC
  obtain ⟨f1, M, L, ok⟩ := pg_106 hP
  obtain ⟨l0, l1, l2, l3, l4, l5, l6, l7, l8, l9, l10, l11⟩ := hP.2
  have r6 := hR.2.2.1
  have d9 := hI.1.2.1
  have x0 : ii x < ii 0 ↔ x < 0 := ii_lt hx.1 hx.2 (by omega) (by omega)
  have xl : ii ((cs_C s).length : Nat) ≤ ii x ↔ ((cs_C s).length : Int) ≤ x := ii_le (by omega) (by omega) hx.1 hx.2
  have y1 : ii y < ii 1 ↔ y < 1 := ii_lt hy.1 hy.2 (by omega) (by omega)
  have y60 : ii y ≤ ii 60 ↔ y ≤ 60 := ii_le hy.1 hy.2 (by omega) (by omega)
  rw [e155, b155_0]
  simp only [TbS_ok hT, hR.2.1, true_and, rI_s]
  by_cases k1 : x < 0
  · rw [if_pos (x0.2 k1)]
    exact r0 (fun g => by omega)
  rw [if_neg (fun g => k1 (x0.1 g))]
  by_cases k2 : ((cs_C s).length : Int) ≤ x
  · rw [if_pos (xl.2 k2)]
    exact r0 (fun g => by omega)
  rw [if_neg (fun g => k2 (xl.1 g))]
  by_cases k3 : y < 1
  · rw [if_pos (y1.2 k3)]
    exact r0 (fun g => by omega)
  rw [if_neg (fun g => k3 (y1.1 g))]
  by_cases k4 : y ≤ 60
  rotate_left
  · rw [if_neg (fun g => k4 (y60.1 g))]
    exact r0 (fun g => by omega)
  rw [if_pos (y60.2 k4)]
  obtain ⟨k, rfl⟩ := nat_of (show 0 ≤ x by omega)
  obtain ⟨n, rfl⟩ := nat_of (show 0 ≤ y by omega)
  obtain ⟨r, r1, r2, r3⟩ := hR.2.2.2 k (by omega)
  have ix : (ii (k : Nat)).toNatClampNeg = k := by rw [ix_ii (by omega) (by omega)]; rfl
  have nn : ¬ ii (k : Nat) < 0 := by rw [ii_lt0 (by omega) (by omega)]; omega
  have er : eR h 123 (ii (k : Nat)) = r := by
    have := r1
    unfold xR at this
    unfold eR
    rw [ix, this]
    rfl
  refine Or.inr ⟨?_, ?_, ?_⟩
  · rw [okR_kd, hR.1, ix, r1]
    exact ⟨⟨rfl, rfl⟩, nn, by show 64 ≤ r; omega⟩
  · rw [er]; omega
  rw [er]
  simp only [PgS_okF hP.1, true_and]
  rw [c54 hP]
  by_cases c3 : 0 < ld_n (pg_l (cs_P s))
  rotate_left
  · rw [if_neg c3, if_pos rfl]
    exact r0 (fun g => c3 g.2.1)
  rw [if_pos c3, if_neg (by decide)]
  simp only [TbS_ok hT, PgS_okF hP.1, show (97 + 9 : Nat) = 106 from rfl, MoS_okF M.1, M.2.1, true_and]
  have add : ii (mo_d (pg_m (cs_P s)) : Nat) + ii (n : Nat) = ii ((mo_d (pg_m (cs_P s)) + n : Nat) : Int) := by rw [ii_add]; rfl
  have le : ii ((mo_d (pg_m (cs_P s)) + n : Nat) : Int) ≤ ii 9999 ↔ mo_d (pg_m (cs_P s)) + n ≤ 9999 := by
    rw [show ii 9999 = ii ((9999 : Nat) : Int) from rfl, ii_le (by omega) (by omega) (by omega) (by omega)]
    omega
  rw [add]
  by_cases c4 : mo_d (pg_m (cs_P s)) + n ≤ 9999
  rotate_left
  · rw [if_neg (fun g => c4 (le.1 g))]
    exact r0 (fun g => by omega)
  rw [if_pos (le.2 c4)]
  have ev : aRun s (k : Nat) (n : Nat) = _ := if_pos ⟨⟨⟨by omega, by omega⟩, by omega, by omega⟩, c3, by omega⟩
  rw [ev, Int.toNat_natCast, Int.toNat_natCast] at hK
  obtain ⟨S1, F1, g1⟩ := PgS_put hP.1 (k := 3) (by omega) (ii ((0 : Nat) : Int))
  refine ⟨PgS_okP hP.1 (by decide), ?_⟩
  have P1 := PgR_fr (u' := []) (t' := pg_t (cs_P s)) (x' := pg_x (cs_P s)) hP F1 (by omega) (Nat.zero_le _) (fun i hi => absurd hi (Nat.not_lt_zero _)) (by rw [g1]; rfl) (by rw [g1]; exact l6) l7 (fun t ht => by rw [same_xA (F1.2.2.2 _ (by omega))]; exact l8 t ht) (by rw [g1]; exact l9) (by rw [g1]; exact l10) l11
  have N1 := hC.pgG (FrP_of F1 (by omega)) (PgN_of (F1.1.2 _)) P1 ⟨hI.1, hI.2.1, (fun m hm => by have hm : m ∈ ([] : List Mo) := hm; cases hm), hI.2.2.2⟩ (by rw [fR_sk F1.1]; exact hh.1)
  have R1 : RuR (sF h 97 3 (.int (ii ((0 : Nat) : Int)))) r ((cs_C s).getD k []) := r3.fr F1 (by omega)
  rw [show ii 0 = ii ((0 : Nat) : Int) from rfl]
  generalize sF h 97 3 (.int (ii ((0 : Nat) : Int))) = H1 at *
  have C1 := N1.1
  obtain ⟨⟨v1, hT1, _⟩, ⟨hS1, _⟩, ⟨hP1, hI1, hh1⟩, ⟨_, _, _, _, hX1⟩, _⟩ := id C1
  have hS1 : SyR H1 (cs_S s) := hS1
  have M1 : MoR H1 106 (pg_m (cs_P s)) := hP1.2.2.2.1
  have D1 := DyQ_ci C1
  have D1 : DyQ H1 (fR H1 97 0) (pg_l (cs_P s)) := D1
  simp only [TbS_ok hT1, oC_kd D1.1, true_and]
  refine c20 v1 D1 M1 hS1 R1 (by omega) (hI.f8 ok) (by omega) c4 (fun h2 F2 M2 => ?_)
  obtain ⟨w, sr, _⟩ := id R1
  have tT : ∀ a, rM r a → (106 ≤ a ∧ a < 116) ∨ tmC H1 a := fun a ht => by
    rcases ht with g | g | g
    · exact Or.inl g
    · exact Or.inr (Or.inr (Or.inl (by omega)))
    · exact Or.inr (Or.inr (Or.inr (by rw [g]; exact sr.2.2.2.2.2)))
  have C2 := C1.rn F2 tT (hS1.frT F2 (fun a ht => by rcases ht with g | g | g <;> omega)) (by
    obtain ⟨m, hm⟩ := hX1
    exact ⟨m, hm.frT F2 (fun a q1 q2 ht => by rcases ht with g | g | g <;> omega)⟩) M2 (MoI_days ok c3 hI.1 n c4).1
  have N2 : NxG 0 0 H1 h2 _ := ⟨C2, ⟨by rw [F2.2.1]; omega, by rw [F2.2.1]; omega, by rw [F2.2.2.1]; omega, by rw [F2.2.2.1]; omega⟩, fun a q1 q2 => F2.2.2.2 a (fun ht => by rcases ht with g | g | g <;> omega)⟩
  exact hK h2 ((N1.tr N2).nx (by decide) (by decide))
end Rn2
