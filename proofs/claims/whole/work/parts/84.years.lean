/-! YEARS drawn -/
abbrev Dz : Type := Nat × Nat × Nat × Mo
def dr (x : Nat) : Nat := (x * 1103515245 + 12345) % 2147483648
def drP (l : Ld) (S : List Wd) (z : Dz) (q : Nat) : Dz := if mo_l z.2.2.2 q = true then z else (dr z.1, (if (cro z.2.2.2 q (la_q l q).2.1 (sy S (dr z.1 / 65536 % S.length))).1 = 3 then z.2.1 + 1 else z.2.1), (if (cro z.2.2.2 q (la_q l q).2.1 (sy S (dr z.1 / 65536 % S.length))).1 < 2 then z.2.2.1 + 1 else z.2.2.1), (cro z.2.2.2 q (la_q l q).2.1 (sy S (dr z.1 / 65536 % S.length))).2)
def drD (l : Ld) (S : List Wd) (z : Dz) : Dz := if S.length = 0 then z else itr (drP l S) z (ld_q l).length
def drM (l : Ld) (S : List Wd) (z : Dz) (_ : Nat) : Dz := ((drD l S z).1, (drD l S z).2.1, (drD l S z).2.2.1, mid l (drD l S z).2.2.2)
/-- one year: from the day that is, so many days; and how many worlds are left -/
def drY (l : Ld) (S : List Wd) (m : Mo) (n : Nat) (z : Nat × Nat × Nat × Nat) (_ : Nat) : Nat × Nat × Nat × Nat := ((itr (drM l S) (z.1, z.2.1, z.2.2.1, m) n).1, (itr (drM l S) (z.1, z.2.1, z.2.2.1, m) n).2.1, (itr (drM l S) (z.1, z.2.1, z.2.2.1, m) n).2.2.1, z.2.2.2 + cB (mo_w (itr (drM l S) (z.1, z.2.1, z.2.2.1, m) n).2.2.2 0) 256)
def drA (l : Ld) (S : List Wd) (m : Mo) (x ys n what : Nat) : Nat := if what = 0 then (itr (drY l S m n) (x, 0, 0, 0) ys).2.1 else if what = 1 then (itr (drY l S m n) (x, 0, 0, 0) ys).2.2.1 else (itr (drY l S m n) (x, 0, 0, 0) ys).2.2.2
def yT (a : Nat) : Prop := 136 ≤ a ∧ a < 148
def DyZ (h : mHeap) (z : Dz) : Prop := fI h 136 4 = ii z.1 ∧ z.1 < 2147483648 ∧ fI h 136 5 = ii z.2.1 ∧ fI h 136 6 = ii z.2.2.1 ∧ MoR h 138 z.2.2.2
section Ye
variable {d la : Nat} {h h1 h2 : mHeap} {T T' : Nat → Prop} {l : Ld} {m : Mo} {S : List Wd}
theorem jj_bv (n : Nat) : (jj n).toBitVec = BitVec.ofNat 64 n := rfl
theorem and_jj (a b : Nat) : jj a &&& jj b = jj ((a &&& b : Nat) : Int) := by
  apply Int64.toBitVec_inj.mp
  rw [Int64.toBitVec_and, jj_bv, jj_bv, jj_bv, BitVec.ofNat_and]
theorem dr_jj {x : Nat} (hx : x < 2147483648) : ((((ii (x : Int)).toInt64 * jj 1103515245) + jj 12345) &&& jj 2147483647).toInt32 = ii (dr x : Nat) := by
  rw [i2l_ii (by omega) (by omega), jj_mul, jj_add]
  have e : jj ((x : Int) * 1103515245 + 12345) &&& jj 2147483647 = jj (((x * 1103515245 + 12345) &&& (2 ^ 31 - 1) : Nat) : Int) := by
    rw [← and_jj]
    rfl
  rw [e, Nat.and_two_pow_sub_one_eq_mod, l2i_jj]
  rfl
theorem dr_lt (x : Nat) : dr x < 2147483648 := Nat.mod_lt _ (by decide)
/-- draw -/
theorem c27 {K : Int32 → mHeap → Prop} (hD : DyQ h la l) {x : Nat} (hx : x < 2147483648) (hv : fI h 136 4 = ii x) (hK : K (ii ((dr x / 65536 : Nat) : Int)) (sF h 136 4 (.int (ii (dr x : Nat))))) : GoCi (d + 1) 27 [.ref 136] h K := by
  rw [e27, b27_0, rI_s]
  rw [hv, dr_jj hx]
  have e : fI (sF h 136 4 (.int (ii (dr x : Nat)))) 136 4 = ii (dr x : Nat) := by rw [fI_sF (DyQ_t hD (Or.inl rfl)), if_pos ⟨rfl, rfl⟩]
  rw [e]
  refine ⟨(DyQ_ok hD).2.2.2.2.1, DyQ_okP hD (by decide), ?_, by decide, ?_⟩
  · rw [okF_kd, kd_sF (by rw [DyQ_t hD (Or.inl rfl)]; rfl), ← okF_kd]
    exact (DyQ_ok hD).2.2.2.2.1
  · have dl := dr_lt x
    rw [show ii 65536 = ii ((65536 : Nat) : Int) from rfl, dvn dl (by decide) (by decide)]
    exact hK
theorem putD (hD : DyQ h la l) {k : Nat} (hk : k = 4 ∨ k = 5 ∨ k = 6) (x : Int32) : okP h 136 1 k ∧ Fr 136 1 h (sF h 136 k (.int x)) ∧ ∀ j, fI (sF h 136 k (.int x)) 136 j = if j = k then x else fI h 136 j := by
  refine ⟨DyQ_okP hD (by omega), Fr.sF (DyQ_t hD hk), fun j => ?_⟩
  rw [fI_sF (DyQ_t hD hk)]
  by_cases c : j = k
  · rw [if_pos ⟨rfl, c.symm⟩, if_pos c]
  · rw [if_neg (fun g => c g.2.symm), if_neg c]
theorem yT_dy {h : mHeap} : ∀ a, yT a → dyT h a := fun a t => Or.inr (Or.inl t)
theorem drI_f {z : Dz} : ∀ k, mo_f (itr (drP l S) z k).2.2.2 = mo_f z.2.2.2 ∧ mo_d (itr (drP l S) z k).2.2.2 = mo_d z.2.2.2
  | 0 => ⟨rfl, rfl⟩
  | k + 1 => by
    have ih := drI_f (z := z) k
    have hs : itr (drP l S) z (k + 1) = drP l S (itr (drP l S) z k) k := rfl
    rw [hs]
    generalize itr (drP l S) z k = y at *
    unfold drP
    split
    · exact ih
    · exact ⟨cro_f.1.trans ih.1, cro_f.2.1.trans ih.2⟩
/-- drawDay -/
theorem c26 {K : mHeap → Prop} (hD : DyQ h la l) (hN : MoS h 106) (hS : SyR h S) {z : Dz} (hZ : DyZ h z) (hm : mo_f z.2.2.2 < 256) (hK : ∀ h1, FrT yT h h1 → DyZ h1 (drD l S z) → K h1) : GoCv (d + 4) 26 [.ref 136] h K := by
  have hnq := hD.2.2.2.2.2.2.2.1
  have hlen := hS.2.2.1
  have ok := hD.2.2.2.2.2
  have ctx : ∀ h', FrT yT h h' → DyQ h' la l ∧ SyR h' S := fun h' F => ⟨hD.fr hN F yT_dy, hS.frT F (fun a t => Or.inr (by have := t.1; omega))⟩
  rw [e26, b26_0]
  by_cases s0 : S.length = 0
  · have L := hD.2.2.2.2.1
    have K0 := hK h FrT.rf (by unfold drD; rw [if_pos s0]; exact hZ)
    rw [b26_2]
    simp only [DyQ_ok hD, DyQ_pg hD, LaS_ok L.1, L.2.2.2.1, SyS_ok hS.1, hS.2.1, true_and, rV_s]
    by_cases c : ii (ld_q l).length ≤ ii 0
    · rw [if_pos c]; exact K0
    · rw [if_neg c, if_pos (by rw [s0]; decide)]; exact K0
  have eD : drD l S z = itr (drP l S) z (ld_q l).length := by unfold drD; rw [if_neg s0]
  rw [eD] at hK
  refine Go_loop (fun k L' h' => FrT yT h h' ∧ DyZ h' (itr (drP l S) z k) ∧ ∃ l2 l3, L' = [some (.ref 136), some (.int (ii k)), l2, l3]) (ld_q l).length ?_ ?_ 0 _ _ (Nat.zero_le _) ⟨FrT.rf, hZ, none, none, rfl⟩
  · rintro k L' h' hk ⟨F, Z, l2, l3, rfl⟩ next
    have ek : ii (k : Int) + ii 1 = ii ((k + 1 : Nat) : Int) := by rw [ii_add]; rfl
    have fk := drI_f (l := l) (S := S) (z := z) k
    have hs : itr (drP l S) z (k + 1) = drP l S (itr (drP l S) z k) k := rfl
    generalize itr (drP l S) z k = y at *
    obtain ⟨D, S'⟩ := ctx h' F
    have L := D.2.2.2.2.1
    have M := Z.2.2.2.2
    rw [b26_2]
    simp only [DyQ_ok D, DyQ_pg D, LaS_ok L.1, L.2.2.2.1, SyS_ok S'.1, S'.2.1, true_and]
    rw [if_neg (by rw [ii_le (by omega) (by omega) (by omega) (by omega)]; omega)]
    rw [if_neg (by rw [show ii 0 = ii ((0 : Nat) : Int) from rfl, ii_le (by omega) (by omega) (by omega) (by omega)]; omega)]
    refine ⟨(MoS_okF M.1).2.2.2.2.2.2.2.2, ?_⟩
    rw [c49 M (show k < 6 by omega)]
    by_cases c : mo_l y.2.2.2 k = true
    · rw [if_pos c, if_pos (by decide), b26_113, ek]
      refine next _ _ ⟨F, ?_, l2, l3, rfl⟩
      rw [hs]
      unfold drP
      rw [if_pos c]
      exact Z
    rw [if_neg c, if_neg (by simp)]
    simp only [DyQ_ok D, SyS_ok S'.1, true_and]
    refine c27 D Z.2.1 Z.1 ?_
    have pd := putD D (k := 4) (Or.inl rfl) (ii (dr y.1 : Nat))
    have F1 := pd.2.1
    have v1 := pd.2.2
    generalize sF h' 136 4 (.int (ii (dr y.1 : Nat))) = H1 at *
    have FF : FrT yT h H1 := F.tr (F1.toT (fun a g1 g2 => ⟨g1, by omega⟩))
    obtain ⟨D1, S1⟩ := ctx H1 FF
    have L1 := D1.2.2.2.2.1
    have M1 : MoR H1 138 y.2.2.2 := M.fr F1 (by omega)
    have dl := dr_lt y.1
    have ml : dr y.1 / 65536 % S.length < S.length := Nat.mod_lt _ (by omega)
    have rr := SyS_row S1.1 (show dr y.1 / 65536 % S.length < 24 by omega)
    have wr := S1.1.2.2.2.1 (dr y.1 / 65536 % S.length) (by omega)
    have r5 := row_ok L1.1.2.2.2.1 (show k < 6 by omega) (by omega)
    have v5 := (L1.2.2.2.2.2.2.2.2.1 k hk).2.1
    have vq : (la_q l k).2.1 ≤ 128 := (ok.2.2.2.2.2.2.1 _ (la_q_mem hk)).2.1.2
    simp only [DyQ_ok D1, DyQ_pg D1, LaS_ok L1.1, LaS_fR L1.1, SyS_ok S1.1, S1.2.1, true_and, rmn (show dr y.1 / 65536 < 2147483648 by omega) (show 0 < S.length by omega) (show S.length < 2147483648 by omega), rr, r5, v5, MoS_okF M1.1]
    refine ⟨by rw [show ii 0 = ii ((0 : Nat) : Int) from rfl, ii_eq (by omega) (by omega) (by omega) (by omega)]; omega, ?_⟩
    refine c50 M1 (by omega) (show k < 6 by omega) (by omega) wr (Or.inl (by omega)) (fun h3 F3 M3 => ?_)
    rw [S1.2.2.2 _ ml] at M3 ⊢
    have dst : drP l S y k = (dr y.1, (if (cro y.2.2.2 k (la_q l k).2.1 (sy S (dr y.1 / 65536 % S.length))).1 = 3 then y.2.1 + 1 else y.2.1), (if (cro y.2.2.2 k (la_q l k).2.1 (sy S (dr y.1 / 65536 % S.length))).1 < 2 then y.2.2.1 + 1 else y.2.2.1), (cro y.2.2.2 k (la_q l k).2.1 (sy S (dr y.1 / 65536 % S.length))).2) := by
      unfold drP
      rw [if_neg c]
    have c3l := (cro_f (m := y.2.2.2) (q := k) (wt := (la_q l k).2.1) (w := sy S (dr y.1 / 65536 % S.length))).2.2.1
    have F3T : FrT yT h h3 := FF.tr (F3.toT (fun a g1 g2 => ⟨by omega, by omega⟩))
    have D3 := (ctx h3 F3T).1
    have w4 : fI h3 136 4 = ii (dr y.1 : Nat) := by rw [same_fI (F3.2.2.2 136 (by omega)), v1 4, if_pos rfl]
    have w5 : fI h3 136 5 = ii (y.2.1 : Nat) := by rw [same_fI (F3.2.2.2 136 (by omega)), v1 5, if_neg (by decide)]; exact Z.2.2.1
    have w6 : fI h3 136 6 = ii (y.2.2.1 : Nat) := by rw [same_fI (F3.2.2.2 136 (by omega)), v1 6, if_neg (by decide)]; exact Z.2.2.2.1
    have e3 : (ii ((cro y.2.2.2 k (la_q l k).2.1 (sy S (dr y.1 / 65536 % S.length))).1 : Nat) = ii 3) ↔ (cro y.2.2.2 k (la_q l k).2.1 (sy S (dr y.1 / 65536 % S.length))).1 = 3 := by
      rw [show ii 3 = ii ((3 : Nat) : Int) from rfl, ii_eq (by omega) (by omega) (by omega) (by omega)]
      omega
    have e2 : (ii ((cro y.2.2.2 k (la_q l k).2.1 (sy S (dr y.1 / 65536 % S.length))).1 : Nat) = ii 2) ↔ (cro y.2.2.2 k (la_q l k).2.1 (sy S (dr y.1 / 65536 % S.length))).1 = 2 := by
      rw [show ii 2 = ii ((2 : Nat) : Int) from rfl, ii_eq (by omega) (by omega) (by omega) (by omega)]
      omega
    rw [dst] at hs
    by_cases c3 : (cro y.2.2.2 k (la_q l k).2.1 (sy S (dr y.1 / 65536 % S.length))).1 = 3
    · rw [if_neg (fun g => g (e3.mpr c3))]
      have p5 := putD D3 (k := 5) (Or.inr (Or.inl rfl)) (fI h3 136 5 + ii 1)
      refine ⟨(DyQ_ok D3).2.2.2.2.2.1, p5.1, ?_⟩
      rw [b26_113, ek]
      rw [if_pos c3, if_neg (by omega)] at hs
      refine next _ _ ⟨F3T.tr (p5.2.1.toT (fun a g1 g2 => ⟨by omega, by omega⟩)), ?_, _, _, rfl⟩
      rw [hs]
      refine ⟨?_, dl, ?_, ?_, M3.fr p5.2.1 (by omega)⟩
      · rw [p5.2.2, if_neg (by decide)]; exact w4
      · rw [p5.2.2, if_pos rfl, w5, ii_add]; rfl
      · rw [p5.2.2, if_neg (by decide)]; exact w6
    rw [if_pos (fun g => c3 (e3.mp g))]
    rw [if_neg c3] at hs
    by_cases c2 : (cro y.2.2.2 k (la_q l k).2.1 (sy S (dr y.1 / 65536 % S.length))).1 = 2
    · rw [if_pos (e2.mpr c2), b26_113, ek]
      rw [if_neg (by omega)] at hs
      refine next _ _ ⟨F3T, ?_, _, _, rfl⟩
      rw [hs]
      exact ⟨w4, dl, w5, w6, M3⟩
    · rw [if_neg (fun g => c2 (e2.mp g))]
      have p6 := putD D3 (k := 6) (Or.inr (Or.inr rfl)) (fI h3 136 6 + ii 1)
      refine ⟨(DyQ_ok D3).2.2.2.2.2.2.1, p6.1, ?_⟩
      rw [b26_113, ek]
      rw [if_pos (by omega)] at hs
      refine next _ _ ⟨F3T.tr (p6.2.1.toT (fun a g1 g2 => ⟨by omega, by omega⟩)), ?_, _, _, rfl⟩
      rw [hs]
      refine ⟨?_, dl, ?_, ?_, M3.fr p6.2.1 (by omega)⟩
      · rw [p6.2.2, if_neg (by decide)]; exact w4
      · rw [p6.2.2, if_neg (by decide)]; exact w5
      · rw [p6.2.2, if_pos rfl, w6, ii_add]; rfl
  · rintro L' h' ⟨F, Z, l2, l3, rfl⟩
    obtain ⟨D, S'⟩ := ctx h' F
    have L := D.2.2.2.2.1
    rw [b26_2]
    simp only [DyQ_ok D, DyQ_pg D, LaS_ok L.1, L.2.2.2.1, true_and]
    rw [if_pos (by rw [ii_le (by omega) (by omega) (by omega) (by omega)]; omega), rV_s]
    exact hK h' F Z
end Ye
