/-! WHAT ONE CALLS: feed, end, seed, trial -/
def sTx (s : Cs) (B : Bt) (n : Nat) : Cs := ((B, n), s.2)
section Act2
variable {d : Nat} {h h1 h2 : mHeap} {s s1 s2 : Cs} {x y z : Int} {P P' : Pg} {m m' : Mo} {S : List Wd} {l : Ld} {B : Bt} {n : Nat} {T : Nat → Prop}
/-- the tape's cells change -/
theorem CI.tx (hC : CI h s) (e : ∀ a, a < h.length → ¬ T a → h1[a]? = h[a]?) (t : ∀ a, T a → (65 ≤ a ∧ a < 69) ∨ (118 ≤ a ∧ a < 123)) (hl : h.length ≤ h1.length) (x : TxS h1) (b : TxB h1 B n) (k : kd h1 118 = (4, 7, [68, 0])) (r : RrS h1) (r0 : xA h1 121 0 = ii ((0 : Nat) : Int)) : CI h1 (sTx s B n) := by
  obtain ⟨⟨a1, a2, a3, a4, a5, a6, a7⟩, ⟨b1, b2⟩, ⟨c1, c2, c3⟩, ⟨d1, d2, d3, d4, d5⟩, f, g1⟩ := hC
  have e' : ∀ a, a < 65 ∨ (69 ≤ a ∧ a < 118) ∨ (123 ≤ a ∧ a < 202) → h1[a]? = h[a]? := fun a g => e a (by omega) (fun ht => by have := t a ht; omega)
  have k' : ∀ a, a < 65 ∨ (69 ≤ a ∧ a < 118) ∨ (123 ≤ a ∧ a < 202) → kd h1 a = kd h a := fun a g => same_kd (e' a g)
  have x19 : xR h1 (97 + 19) = xR h (97 + 19) := same_xR (e' _ (by omega))
  have N := PgN_of x19
  have f0 : fR h1 97 0 = fR h 97 0 := by rw [fR_kd, fR_kd, k' 97 (by omega)]
  refine ⟨⟨St_get a1 (fun b hb => e' b (by omega)), by unfold TbS; rw [k' 64 (by omega)]; exact a2, x, b, k, r, r0⟩, ⟨SyR_eq b1 (fun a g g' => e' a (by omega)), CiR_eq b2 g1 e (fun a ht => Or.inl (by have := t a ht; omega))⟩, ⟨PgR_eq c1 (fun a ha => e a (PgR_lt c1 ha) (fun ht => ?_)), c2, by rw [f0]; exact c3.1, fun i b hi hb => c3.2 i b hi (by rw [← x19]; exact hb)⟩, ⟨⟨by have := d1.1; unfold AdS at this ⊢; rw [k' 125 (by omega)]; exact this, fun c g g' => by rw [k' c (by omega)]; exact d1.2 c g g'⟩, ⟨by rw [k' 127 (by omega)]; exact d2.1, fun i hi => by rw [same_xR (e' 127 (by omega))]; exact d2.2.1 i hi, by rw [k' 128 (by omega)]; exact d2.2.2.1, by rw [k' 129 (by omega)]; exact d2.2.2.2.1, by rw [k' 130 (by omega)]; exact d2.2.2.2.2.1, ⟨d2.2.2.2.2.2.1.1, by rw [k' 126 (by omega)]; exact d2.2.2.2.2.2.1.2⟩, fun i hi => ⟨(d2.2.2.2.2.2.2 i hi).1, by rw [k' _ (by omega)]; exact (d2.2.2.2.2.2.2 i hi).2⟩⟩, by rw [k' 136 (by omega)]; exact d3, by rw [k' 137 (by omega)]; exact d4, ?_⟩, CiI_eq f c1.1 g1 e (fun a ht => Or.inl (by have := t a ht; omega)) N (Nat.le_refl _), Nat.le_trans g1 hl⟩
  · have t2 := t a ht
    rcases ha with g | g
    · have := hiP_T c3 g
      omega
    · rcases c3.1 with u | u <;> omega
  · obtain ⟨m, hm⟩ := d5
    exact ⟨m, MoR_eq hm (fun a g g' => e' a (by omega))⟩
theorem CI.txN (hC : CI h s) {k : Nat} (x : Fr 65 k h h1) (hk : k ≤ 4) (b : TxB h1 B n) : NxG 0 0 h h1 (sTx s B n) := by
  obtain ⟨⟨a1, a2, a3, a4, a5, a6, a7⟩, _⟩ := id hC
  exact ⟨hC.tx (T := fun a => 65 ≤ a ∧ a < 65 + k) (fun a _ ht => x.2.2.2 a (by omega)) (fun a ht => by omega) (by rw [x.2.1]; exact Nat.le_refl _) (a3.sk x.1) b (by rw [x.1.1]; exact a5) (a6.sk x.1) (by rw [same_xA (x.2.2.2 121 (by omega))]; exact a7), x.gr, fun a g g' => x.2.2.2 a (by omega)⟩
def aEnd (n : Nat) (z : Int) : Int × Nat := if 0 ≤ z ∧ z ≤ n then (z, z.toNat) else (-1, n)
/-- end -/
theorem c136 {K : Int32 → mHeap → Prop} (hC : CI h s) (hx : i32 x) (hK : ∀ h1, Nx h h1 (sTx s (cs_B s) (aEnd (cs_n s) x).2) → K (ii (aEnd (cs_n s) x).1) h1) : GoCi (d + 1) 136 [.ref 64, .int (ii x)] h K := by
  have r0 := hK h
  obtain ⟨⟨a1, hT, a3, a4, _⟩, _⟩ := id hC
  have n4 := a4.2.1
  rw [e136, b136_0]
  simp only [TbS_ok hT, TxS_ok a3, a4.1, true_and, rI_s]
  by_cases c : x < 0
  · rw [if_pos (by rw [show ii 0 = ii (0 : Int) from rfl, ii_lt hx.1 hx.2 (by omega) (by omega)]; exact c)]
    rw [show aEnd (cs_n s) x = (-1, cs_n s) from if_neg (fun g => by omega)] at r0
    exact r0 (Nx.rf hC)
  rw [if_neg (by rw [show ii 0 = ii (0 : Int) from rfl, ii_lt hx.1 hx.2 (by omega) (by omega)]; exact c)]
  by_cases c2 : x ≤ cs_n s
  rotate_left
  · rw [if_neg (by rw [ii_le hx.1 hx.2 (by omega) (by omega)]; exact c2)]
    rw [show aEnd (cs_n s) x = (-1, cs_n s) from if_neg (fun g => by omega)] at r0
    exact r0 (Nx.rf hC)
  rw [if_pos (by rw [ii_le hx.1 hx.2 (by omega) (by omega)]; exact c2)]
  have ev : aEnd (cs_n s) x = _ := if_pos ⟨by omega, c2⟩
  rw [ev] at hK
  obtain ⟨q, rfl⟩ := nat_of (show 0 ≤ x by omega)
  rw [Int.toNat_natCast] at hK
  have t1 : tgK (kd h 65) 1 = some 0 := by rw [a3.1]; rfl
  have F := Fr.sF (x := ii (q : Nat)) t1
  refine ⟨TxS_okP a3 (by decide), hK _ ((hC.txN F (by decide) ⟨?_, by omega, fun i hi => ?_⟩).nx (by decide) (by decide))⟩
  · rw [fI_sF t1, if_pos ⟨rfl, rfl⟩]
  · rw [same_xA (F.2.2.2 66 (by omega))]
    exact a4.2.2 i (by omega)
end Act2
