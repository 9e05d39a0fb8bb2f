/-! WHAT ONE CALLS: counts -/
section Pb4
variable {d : Nat} {h : mHeap} {s : Cs} {x y z : Int} {P : Pg}
theorem c172 {K : Int32 → mHeap → Prop} (hT : TbS h) (hP : PgR h 97 P) (hx : i32 x) : GoCi (d + 1) 172 [.ref 64, .int (ii x)] h K ↔ K (ii (vLand P x)) h := by
  obtain ⟨f1, M, L, ok⟩ := pg_106 hP
  have E : ∀ k : Nat, k < 2147483648 → ((ii x = ii k) ↔ x = k) := fun k hk => i32_eq hx k hk
  have E0 : (ii x = ii 0) ↔ x = 0 := E 0 (by decide)
  have E1 : (ii x = ii 1) ↔ x = 1 := E 1 (by decide)
  have E2 : (ii x = ii 2) ↔ x = 2 := E 2 (by decide)
  have E3 : (ii x = ii 3) ↔ x = 3 := E 3 (by decide)
  have E4 : (ii x = ii 4) ↔ x = 4 := E 4 (by decide)
  have E5 : (ii x = ii 5) ↔ x = 5 := E 5 (by decide)
  rw [e172, b172_0]
  simp only [TbS_ok hT, PgS_okF hP.1, LaS_ok L.1, L.2.1, L.2.2.2.1, L.2.2.2.2.2.1, L.2.2.2.2.2.2.1, L.2.2.2.2.2.2.2.1, show (97 + 9 : Nat) = 106 from rfl, MoS_okF M.1, M.2.2.1, true_and, rI_s, E0, E1, E2, E3, E4, E5]
  unfold vLand
  by_cases k0 : x = 0
  · rw [if_pos k0, if_pos k0]
  rw [if_neg k0, if_neg k0]
  by_cases k1 : x = 1
  · rw [if_pos k1, if_pos k1]
  rw [if_neg k1, if_neg k1]
  by_cases k2 : x = 2
  · rw [if_pos k2, if_pos k2]
  rw [if_neg k2, if_neg k2]
  by_cases k3 : x = 3
  · rw [if_pos k3, if_pos k3]
  rw [if_neg k3, if_neg k3]
  by_cases k4 : x = 4
  · rw [if_pos k4, if_pos k4]
  rw [if_neg k4, if_neg k4]
  by_cases k5 : x = 5
  · rw [if_pos k5, if_pos k5]
  rw [if_neg k5, if_neg k5]
theorem c169 {K : Int32 → mHeap → Prop} (hC : CI h s) (hx : i32 x) : GoCi (d + 3) 169 [.ref 64, .int (ii x)] h K ↔ K (ii (vCount s x)) h := by
  obtain ⟨⟨a1, hT, a3, a4, _⟩, ⟨hS, hR⟩, ⟨hP, hI, _⟩, _⟩ := id hC
  obtain ⟨f1, M, L, ok⟩ := pg_106 hP
  obtain ⟨p0, p1, p2, p3, p4, p5, p6, p7, p8, p9, p10, p11⟩ := hP.2
  have E : ∀ k : Nat, k < 2147483648 → ((ii x = ii k) ↔ x = k) := fun k hk => i32_eq hx k hk
  have E6 : (ii x = ii 6) ↔ x = 6 := E 6 (by decide)
  have E7 : (ii x = ii 7) ↔ x = 7 := E 7 (by decide)
  have E8 : (ii x = ii 8) ↔ x = 8 := E 8 (by decide)
  have E9 : (ii x = ii 9) ↔ x = 9 := E 9 (by decide)
  have E10 : (ii x = ii 10) ↔ x = 10 := E 10 (by decide)
  have E11 : (ii x = ii 11) ↔ x = 11 := E 11 (by decide)
  have E12 : (ii x = ii 12) ↔ x = 12 := E 12 (by decide)
  have E13 : (ii x = ii 13) ↔ x = 13 := E 13 (by decide)
  rw [e169, b169_0]
  simp only [TbS_ok hT, PgS_okF hP.1, SyS_ok hS.1, hS.2.1, hR.2.1, show (97 + 9 : Nat) = 106 from rfl, MoS_okF M.1, M.2.1, p3, p6, p10, (TxS_ok a3), a4.1, true_and, rI_s, E6, E7, E8, E9, E10, E11, E12, E13]
  unfold vCount
  by_cases k6 : x = 6
  · rw [if_pos k6, if_pos k6]
  rw [if_neg k6, if_neg k6]
  by_cases k7 : x = 7
  · rw [if_pos k7, if_pos k7]
  rw [if_neg k7, if_neg k7]
  by_cases k8 : x = 8
  · rw [if_pos k8, if_pos k8]
  rw [if_neg k8, if_neg k8]
  by_cases k9 : x = 9
  · rw [if_pos k9, if_pos k9]
    rw [c54 hP]
    by_cases c3 : 0 < ld_n (pg_l (cs_P s))
    rotate_left
    · rw [if_neg c3, if_pos rfl, if_neg c3]
    rw [if_pos c3, if_neg (by decide), if_pos c3]
    simp only [TbS_ok hT, PgS_okF hP.1, show (97 + 9 : Nat) = 106 from rfl, MoS_okF M.1, true_and]
    have W := M.1.2.2.2.2.2 0 (by omega)
    have w1 := M.2.2.2.2.2.2 0 (by omega)
    rw [c46 M.1 (i := 0) (by omega) (by omega), c126 W, w1]
    exact and_iff_right (W_oC W)
  rw [if_neg k9, if_neg k9]
  by_cases k10 : x = 10
  · rw [if_pos k10, if_pos k10]
  rw [if_neg k10, if_neg k10]
  by_cases k11 : x = 11
  · rw [if_pos k11, if_pos k11]
  rw [if_neg k11, if_neg k11]
  by_cases k12 : x = 12
  · rw [if_pos k12, if_pos k12]
  rw [if_neg k12, if_neg k12]
  by_cases k13 : x = 13
  · rw [if_pos k13, if_pos k13]
  rw [if_neg k13, if_neg k13, c172 hT hP hx]
end Pb4
