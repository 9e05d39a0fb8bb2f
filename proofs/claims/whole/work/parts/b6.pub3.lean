/-! WHAT ONE CALLS: advice, sets, years, counts -/
section Pb3
variable {d : Nat} {h : mHeap} {s : Cs} {x y z : Int}
theorem nat_of {z : Int} (h : 0 ≤ z) : ∃ n : Nat, z = n := ⟨z.toNat, by omega⟩
/-- least -/
theorem c160 {K : Int32 → mHeap → Prop} (hC : CI h s) (hx : i32 x) (hy : i32 y) (hK : ∀ h1, Nx h h1 s → K (ii (vLeast (cs_P s) (cs_S s) x y)) h1) : GoCi (d + 7) 160 [.ref 64, .int (ii x), .int (ii y)] h K := by
  have r0 := hK h (Nx.rf hC)
  obtain ⟨⟨a1, hT, _⟩, ⟨hS, _⟩, ⟨hP, hI, _⟩, ⟨hA, hAP, _⟩, _⟩ := id hC
  obtain ⟨f1, M, L, ok⟩ := pg_106 hP
  rw [e160, b160_0, c173 hT hP hx]
  simp only [TbS_ok hT, true_and, rI_s]
  unfold vLeast at r0
  by_cases c : isPe (cs_P s) x
  rotate_left
  · rw [if_neg c, if_pos rfl]
    rw [if_neg (fun g => c g.1)] at r0
    exact r0
  rw [if_pos c, if_neg (by decide), show ii 2 = ii ((2 : Nat) : Int) from rfl, c180 (by decide) hy]
  by_cases c2 : 0 ≤ y ∧ y < ((2 : Nat) : Int)
  rotate_left
  · rw [if_neg c2, if_pos rfl]
    rw [if_neg (fun g => by omega)] at r0
    exact r0
  rw [if_pos c2, if_neg (by decide)]
  have ev : vLeast (cs_P s) (cs_S s) x y = _ := if_pos ⟨c, by omega, by omega⟩
  obtain ⟨a, rfl⟩ := nat_of c.1
  obtain ⟨b, rfl⟩ := nat_of c2.1
  rw [Int.toNat_natCast, Int.toNat_natCast] at ev
  simp only [TbS_ok hT, true_and]
  refine ⟨oC_kd hA.1, c4 hA hS hP hAP.2.2.2.2.2.1 (hI.f8 ok) (PgI.w ok) (by omega) (by omega) (fun h1 F => ?_)⟩
  rw [← ev]
  exact hK h1 (hC.wk F (by omega) (hS.fr F (by omega)))
/-- walk -/
theorem c162 {K : Int32 → mHeap → Prop} (hC : CI h s) (hx : i32 x) (hy : i32 y) (hK : ∀ h1, Nx h h1 s → K (ii (vWalk (cs_P s) (cs_S s) x y)) h1) : GoCi (d + 10) 162 [.ref 64, .int (ii x), .int (ii y)] h K := by
  have r0 := hK h (Nx.rf hC)
  obtain ⟨⟨a1, hT, _⟩, ⟨hS, _⟩, ⟨hP, hI, _⟩, ⟨hA, hAP, _⟩, _⟩ := id hC
  obtain ⟨f1, M, L, ok⟩ := pg_106 hP
  rw [e162, b162_0, c173 hT hP hx]
  simp only [TbS_ok hT, true_and, rI_s]
  unfold vWalk at r0
  by_cases c : isPe (cs_P s) x
  rotate_left
  · rw [if_neg c, if_pos rfl]
    rw [if_neg (fun g => c g.1)] at r0
    exact r0
  rw [if_pos c, if_neg (by decide), show ii 2 = ii ((2 : Nat) : Int) from rfl, c180 (by decide) hy]
  by_cases c2 : 0 ≤ y ∧ y < ((2 : Nat) : Int)
  rotate_left
  · rw [if_neg c2, if_pos rfl]
    rw [if_neg (fun g => by omega)] at r0
    exact r0
  rw [if_pos c2, if_neg (by decide)]
  have ev : vWalk (cs_P s) (cs_S s) x y = _ := if_pos ⟨c, by omega, by omega⟩
  obtain ⟨a, rfl⟩ := nat_of c.1
  obtain ⟨b, rfl⟩ := nat_of c2.1
  rw [Int.toNat_natCast, Int.toNat_natCast] at ev
  simp only [TbS_ok hT, true_and]
  refine ⟨oC_kd hA.1, c13 a1 hA hAP.2.2.2.2.2.1 hS hP (hI.n0 (by omega)) (hI.f8 ok) (PgI.w ok) (by omega) (hI.1.2.2.1 a) (by omega) (fun h1 F => ?_)⟩
  rw [← ev]
  exact hK h1 (hC.wk F (by omega) (hS.fr F (by omega)))
/-- bought -/
theorem c163 {K : Int32 → mHeap → Prop} (hC : CI h s) (hx : i32 x) (hy : i32 y) (hK : ∀ h1, Nx h h1 s → K (ii (vBought (cs_P s) (cs_S s) x y)) h1) : GoCi (d + 7) 163 [.ref 64, .int (ii x), .int (ii y)] h K := by
  have r0 := hK h (Nx.rf hC)
  obtain ⟨⟨a1, hT, _⟩, ⟨hS, _⟩, ⟨hP, hI, _⟩, ⟨hA, hAP, _⟩, _⟩ := id hC
  obtain ⟨f1, M, L, ok⟩ := pg_106 hP
  rw [e163, b163_0, c173 hT hP hx]
  simp only [TbS_ok hT, true_and, rI_s]
  unfold vBought at r0
  by_cases c : isPe (cs_P s) x
  rotate_left
  · rw [if_neg c, if_pos rfl]
    rw [if_neg (fun g => c g.1)] at r0
    exact r0
  rw [if_pos c, if_neg (by decide), show ii 2 = ii ((2 : Nat) : Int) from rfl, c180 (by decide) hy]
  by_cases c2 : 0 ≤ y ∧ y < ((2 : Nat) : Int)
  rotate_left
  · rw [if_neg c2, if_pos rfl]
    rw [if_neg (fun g => by omega)] at r0
    exact r0
  rw [if_pos c2, if_neg (by decide)]
  have ev : vBought (cs_P s) (cs_S s) x y = _ := if_pos ⟨c, by omega, by omega⟩
  obtain ⟨a, rfl⟩ := nat_of c.1
  obtain ⟨b, rfl⟩ := nat_of c2.1
  rw [Int.toNat_natCast, Int.toNat_natCast] at ev
  simp only [TbS_ok hT, true_and]
  refine ⟨oC_kd hA.1, c16 hA hAP.2.2.2.2.2.1 hS hP (hI.f8 ok) (PgI.w ok) (by omega) (by omega) (fun h1 F => ?_)⟩
  rw [← ev]
  exact hK h1 (hC.wk F (by omega) (hS.fr F (by omega)))
/-- plan -/
theorem c161 {K : Int32 → mHeap → Prop} (hC : CI h s) (hx : i32 x) (hy : i32 y) (hK : ∀ h1, Nx h h1 s → K (ii (vPlan (cs_P s) (cs_S s) x y)) h1) : GoCi (d + 12) 161 [.ref 64, .int (ii x), .int (ii y)] h K := by
  have r0 := hK h (Nx.rf hC)
  obtain ⟨⟨a1, hT, _⟩, ⟨hS, _⟩, ⟨hP, hI, _⟩, ⟨hA, hAP, _⟩, _⟩ := id hC
  obtain ⟨f1, M, L, ok⟩ := pg_106 hP
  rw [e161, b161_0, show ii 2 = ii ((2 : Nat) : Int) from rfl, c180 (by decide) hx]
  simp only [rI_s]
  unfold vPlan at r0
  by_cases c : 0 ≤ x ∧ x < ((2 : Nat) : Int)
  rotate_left
  · rw [if_neg c, if_pos rfl]
    rw [if_neg (fun g => by omega)] at r0
    exact r0
  rw [if_pos c, if_neg (by decide), show ii 9 = ii ((9 : Nat) : Int) from rfl, c180 (by decide) hy]
  by_cases c2 : 0 ≤ y ∧ y < ((9 : Nat) : Int)
  rotate_left
  · rw [if_neg c2, if_pos rfl]
    rw [if_neg (fun g => by omega)] at r0
    exact r0
  rw [if_pos c2, if_neg (by decide)]
  simp only [TbS_ok hT, PgS_okF hP.1, true_and]
  rw [c54 hP]
  by_cases c3 : 0 < ld_n (pg_l (cs_P s))
  rotate_left
  · rw [if_neg c3, if_neg (by simp)]
    rw [if_neg (fun g => c3 g.2)] at r0
    exact r0
  rw [if_pos c3, if_pos (by decide)]
  have ev : vPlan (cs_P s) (cs_S s) x y = _ := if_pos ⟨⟨by omega, by omega⟩, c3⟩
  have ex : ii x = ii (if decide (x = 1) = true then 1 else 0) := by
    by_cases q : x = 1
    · rw [q]; rfl
    · have q0 : x = 0 := by omega
      rw [q0]; rfl
  obtain ⟨b, rfl⟩ := nat_of c2.1
  rw [Int.toNat_natCast] at ev
  simp only [TbS_ok hT, true_and]
  rw [ex]
  refine ⟨oC_kd hA.1, c6 hA hAP hS hP (hI.f8 ok) (PgI.w ok) (by omega) (fun h1 F => ?_)⟩
  rw [← ev]
  exact hK h1 (hC.wk F (by omega) (hS.fr F (by omega)))
/-- sets -/
theorem c165 {K : Int32 → mHeap → Prop} (hC : CI h s) (hx : i32 x) (hK : ∀ h1, Nx h h1 s → K (ii (vSets (cs_P s) (cs_S s) x)) h1) : GoCi (d + 6) 165 [.ref 64, .int (ii x)] h K := by
  have r0 := hK h (Nx.rf hC)
  obtain ⟨⟨a1, hT, _⟩, ⟨hS, _⟩, ⟨hP, hI, _⟩, ⟨hA, hAP, _⟩, _⟩ := id hC
  rw [e165, b165_0, show ii 3 = ii ((3 : Nat) : Int) from rfl, c180 (by decide) hx]
  simp only [rI_s]
  unfold vSets at r0
  by_cases c : 0 ≤ x ∧ x < ((3 : Nat) : Int)
  rotate_left
  · rw [if_neg c, if_pos rfl]
    rw [if_neg (fun g => by omega)] at r0
    exact r0
  rw [if_pos c, if_neg (by decide)]
  simp only [TbS_ok hT, PgS_okF hP.1, true_and]
  rw [c54 hP]
  by_cases c3 : 0 < ld_n (pg_l (cs_P s))
  rotate_left
  · rw [if_neg c3, if_pos rfl]
    rw [if_neg (fun g => c3 g.2)] at r0
    exact r0
  rw [if_pos c3, if_neg (by decide)]
  have ev : vSets (cs_P s) (cs_S s) x = _ := if_pos ⟨by omega, c3⟩
  obtain ⟨b, rfl⟩ := nat_of c.1
  rw [Int.toNat_natCast] at ev
  simp only [TbS_ok hT, SyS_ok hS.1, true_and]
  refine c90 a1 hS hP (PgLo_ci hC) hI.2.1 (by omega) (fun h1 F S1 => ?_)
  rw [← ev]
  exact hK h1 (hC.wk F (by omega) S1)
/-- next -/
theorem c166 {K : Int32 → mHeap → Prop} (hC : CI h s) (hx : i32 x) (hK : ∀ h1, Nx h h1 s → K (ii (vNext (cs_P s) (cs_S s) x)) h1) : GoCi (d + 6) 166 [.ref 64, .int (ii x)] h K := by
  have r0 := hK h (Nx.rf hC)
  obtain ⟨⟨a1, hT, _⟩, ⟨hS, _⟩, ⟨hP, hI, _⟩, ⟨hA, hAP, _⟩, _⟩ := id hC
  rw [e166, b166_0, show ii 2 = ii ((2 : Nat) : Int) from rfl, c180 (by decide) hx]
  simp only [rI_s]
  unfold vNext at r0
  by_cases c : 0 ≤ x ∧ x < ((2 : Nat) : Int)
  rotate_left
  · rw [if_neg c, if_pos rfl]
    rw [if_neg (fun g => by omega)] at r0
    exact r0
  rw [if_pos c, if_neg (by decide)]
  simp only [TbS_ok hT, PgS_okF hP.1, true_and]
  rw [c54 hP]
  by_cases c3 : 0 < ld_n (pg_l (cs_P s))
  rotate_left
  · rw [if_neg c3, if_pos rfl]
    rw [if_neg (fun g => c3 g.2)] at r0
    exact r0
  rw [if_pos c3, if_neg (by decide)]
  have ev : vNext (cs_P s) (cs_S s) x = _ := if_pos ⟨by omega, c3⟩
  obtain ⟨b, rfl⟩ := nat_of c.1
  rw [Int.toNat_natCast] at ev
  simp only [TbS_ok hT, SyS_ok hS.1, true_and]
  refine c91 a1 hS hP (PgLo_ci hC) hI.2.1 (by omega) (fun h1 F S1 => ?_)
  rw [← ev]
  exact hK h1 (hC.wk F (by omega) S1)
/-- years -/
theorem c168 {K : Int32 → mHeap → Prop} (hC : CI h s) (hx : i32 x) (hy : i32 y) (hz : i32 z) (hK : ∀ h1, Nx h h1 s → K (ii (vYears (cs_P s) (cs_S s) x y z)) h1) : GoCi (d + 6) 168 [.ref 64, .int (ii x), .int (ii y), .int (ii z)] h K := by
  have r0 := hK h (Nx.rf hC)
  obtain ⟨⟨a1, hT, _⟩, ⟨hS, _⟩, ⟨hP, hI, _⟩, ⟨hA, hAP, _, _, hX⟩, _⟩ := id hC
  obtain ⟨f1, M, L, ok⟩ := pg_106 hP
  have x1 : ii x < ii 1 ↔ x < 1 := ii_lt hx.1 hx.2 (by omega) (by omega)
  have x10 : ii 10 < ii x ↔ 10 < x := ii_lt (by omega) (by omega) hx.1 hx.2
  have y1 : ii y < ii 1 ↔ y < 1 := ii_lt hy.1 hy.2 (by omega) (by omega)
  have y60 : ii y ≤ ii 60 ↔ y ≤ 60 := ii_le hy.1 hy.2 (by omega) (by omega)
  rw [e168, b168_0]
  simp only [rI_s]
  unfold vYears at r0
  by_cases k1 : x < 1
  · rw [if_pos (x1.2 k1)]
    rw [if_neg (fun g => by omega)] at r0
    exact r0
  rw [if_neg (fun g => k1 (x1.1 g))]
  by_cases k2 : 10 < x
  · rw [if_pos (x10.2 k2)]
    rw [if_neg (fun g => by omega)] at r0
    exact r0
  rw [if_neg (fun g => k2 (x10.1 g))]
  by_cases k3 : y < 1
  · rw [if_pos (y1.2 k3)]
    rw [if_neg (fun g => by omega)] at r0
    exact r0
  rw [if_neg (fun g => k3 (y1.1 g))]
  by_cases k4 : y ≤ 60
  rotate_left
  · rw [if_neg (fun g => k4 (y60.1 g))]
    rw [if_neg (fun g => by omega)] at r0
    exact r0
  rw [if_pos (y60.2 k4), show ii 3 = ii ((3 : Nat) : Int) from rfl, c180 (by decide) hz]
  by_cases c2 : 0 ≤ z ∧ z < ((3 : Nat) : Int)
  rotate_left
  · rw [if_neg c2, if_pos rfl]
    rw [if_neg (fun g => by omega)] at r0
    exact r0
  rw [if_pos c2, if_neg (by decide)]
  simp only [TbS_ok hT, PgS_okF hP.1, true_and]
  rw [c54 hP]
  by_cases c3 : 0 < ld_n (pg_l (cs_P s))
  rotate_left
  · rw [if_neg c3, if_pos rfl]
    rw [if_neg (fun g => c3 g.2)] at r0
    exact r0
  rw [if_pos c3, if_neg (by decide)]
  have ev : vYears (cs_P s) (cs_S s) x y z = _ := if_pos ⟨⟨by omega, by omega, by omega⟩, c3⟩
  obtain ⟨a, rfl⟩ := nat_of (show 0 ≤ x by omega)
  obtain ⟨b, rfl⟩ := nat_of (show 0 ≤ y by omega)
  obtain ⟨c, rfl⟩ := nat_of c2.1
  rw [Int.toNat_natCast, Int.toNat_natCast, Int.toNat_natCast] at ev
  have D := DyQ_ci hC
  have px := hP.2.2.2.2.2.2.2.2.2.2.2
  simp only [TbS_ok hT, true_and]
  refine ⟨oC_kd D.1, c25 a1 D M hX hS (hI.f8 ok) hI.1.2.1 px.1 px.2 (by omega) (by omega) (by omega) (fun h1 F X1 => ?_)⟩
  rw [← ev]
  have yt : ∀ a, yT a → 136 ≤ a ∧ a < 148 := fun a g => g
  exact hK h1 ⟨hC.tm F (fun a g => Or.inr (Or.inl (by have := yt a g; omega))) (hS.frT F (fun a g => Or.inr (by have := yt a g; omega))) X1, ⟨by rw [F.2.1]; omega, by rw [F.2.1]; omega, by rw [F.2.2.1]; omega, by rw [F.2.2.1]; omega⟩, fun a g g' => F.2.2.2 a (fun q => by have := yt a q; omega)⟩
end Pb3
