/-! REMEMBERED (whole), TAKEN BACK, TRIALS, A LAND SETTLED -/
section Acts3
variable {d b p : Nat} {h h1 : mHeap} {P : Pg}
theorem PgS_fr {lo n : Nat} (hP : PgS h p) (hf : Fr lo n h h1) (c : (p ≤ lo ∧ lo + n ≤ p + 1) ∨ (p + 19 ≤ lo ∧ lo + n ≤ p + 21)) : PgS h1 p := by
  have hP' := hP
  obtain ⟨t0, t1, t2, t3, t4, t5, t6⟩ := hP
  refine ⟨t0, by rw [hf.1.1, fR_kd, hf.1.1, ← fR_kd]; exact t1, by rw [hf.1.1]; exact t2, by rw [hf.1.1]; exact t3, hf.1.MoS t4, fun i b hi hb => ?_, fun i j b hi hj g g' => ?_⟩
  · rw [hf.1.2] at hb
    obtain ⟨⟨m2, hm2⟩, hn⟩ := t5 i b hi hb
    have pd := PgS_dis hP' hi hb
    exact ⟨⟨m2, hm2.fr hf (by omega)⟩, hn⟩
  · rw [hf.1.2] at g g'
    exact t6 i j b hi hj g g'
theorem PgS_put (hP : PgS h p) {k : Nat} (hk : k = 3 ∨ k = 4 ∨ k = 6 ∨ k = 7) (x : Int32) : PgS (sF h p k (.int x)) p ∧ Fr p 1 h (sF h p k (.int x)) ∧ ∀ j, fI (sF h p k (.int x)) p j = if j = k then x else fI h p j := by
  have ht := PgS_t hP hk
  have hf := Fr.sF (x := x) ht
  refine ⟨PgS_fr hP hf (by omega), hf, fun j => ?_⟩
  rw [fI_sF ht]
  by_cases q : j = k
  · rw [if_pos ⟨rfl, q.symm⟩, if_pos q]
  · rw [if_neg (fun g => q g.2.symm), if_neg q]
/-- a page whose fields alone (or its trials' row) change -/
theorem PgR_fr {lo n : Nat} {t' : List (Nat × Bool)} {x' : Nat} (hP : PgR h p P) (hf : Fr lo n h h1) (c : (p ≤ lo ∧ lo + n ≤ p + 1) ∨ (p + 19 ≤ lo ∧ lo + n ≤ p + 21)) {u' : List Mo} (hu : u'.length ≤ (pg_u P).length) (hu2 : ∀ i, i < u'.length → u'.getD i mo0 = (pg_u P).getD i mo0) (h3 : fI h1 p 3 = ii u'.length) (h4 : fI h1 p 4 = ii t'.length) (ht : t'.length ≤ 10) (h20 : ∀ t, t < t'.length → xA h1 (p + 20) t = ii (t'.getD t (0, false)).1) (h6 : ∃ N : Nat, N < 1024 ∧ fI h1 p 6 = ii N ∧ ∀ t, t < t'.length → N.testBit t = (t'.getD t (0, false)).2) (h7 : fI h1 p 7 = ii x') (hx : x' < 2147483648) : PgR h1 p (pg_l P, pg_m P, u', t', x') := by
  obtain ⟨l0, l1, l2, l3, l4, l5, l6, l7, l8, l9, l10, l11⟩ := hP.2
  have hd := PgS_La hP.1 l0.1
  have f0 : fR h1 p 0 = fR h p 0 := by rw [fR_kd, hf.1.1, ← fR_kd]
  refine ⟨PgS_fr hP.1 hf c, by rw [f0]; exact l0.fr hf (by omega), l1, l2.fr hf (by omega), h3, Nat.le_trans hu l4, fun i hi => ?_, h4, ht, h20, h6, h7, hx⟩
  show ∃ b, xR h1 (p + 19) i = some b ∧ MoR h1 b (u'.getD i mo0)
  have hi : i < u'.length := hi
  obtain ⟨b, hb, hm⟩ := l5 i (by omega)
  have pd := PgS_dis hP.1 (show i < 20 by omega) hb
  exact ⟨b, by rw [hf.1.2]; exact hb, by rw [hu2 i hi]; exact hm.fr hf (by omega)⟩
theorem FrP_of {lo n : Nat} (hf : Fr lo n h h1) (c : (p ≤ lo ∧ lo + n ≤ p + 1) ∨ (p + 9 ≤ lo ∧ lo + n ≤ p + 21)) : FrP (PgT h p) 0 0 h h1 := ⟨hf.gr, fun a _ hT => by
  have t1 : ¬ a = p := fun g => hT (Or.inl g)
  have t2 : ¬ (p + 9 ≤ a ∧ a < p + 21) := fun g => hT (Or.inr (Or.inl g))
  exact hf.2.2.2 a (by omega)⟩
theorem PgN_of (e : xR h1 (p + 19) = xR h (p + 19)) : PgN h h1 p := fun j b hj hb => Or.inl ⟨j, hj, by rw [← e]; exact hb⟩
/-- remember -/
theorem c57 {K : mHeap → Prop} (hS : St h) (hP : PgR h p P) (hK : ∀ h1, PgR h1 p (pg_l P, pg_m P, rem (pg_u P) (pg_m P), pg_t P, pg_x P) → FrP (PgT h p) 10 47 h h1 → PgN h h1 p → fR h1 p 0 = fR h p 0 → K h1) : GoCv (d + 5) 57 [.ref p] h K := by
  obtain ⟨l0, l1, l2, l3, l4, l5, l6, l7, l8, l9, l10, l11⟩ := hP.2
  rw [e57, b57_0]
  refine ⟨(PgS_okF hP.1).2.2.2.1, ?_⟩
  rw [l3]
  by_cases q : (pg_u P).length = 20
  · rw [if_neg (by rw [q]; exact fun g => g rfl)]
    refine ⟨(PgS_okF hP.1).2.2.2.2.2.2.2.2.2.2.2, ?_⟩
    refine c58 hP.1 (fun i hi => by obtain ⟨b, hb, -⟩ := l5 i (by omega); exact ⟨b, hb⟩) (by rw [l3, q]; rfl) (fun h1 g1 g2 g3 g4 g5 g6 => ?_)
    have hP' := hP.1
    obtain ⟨t0, t1, t2, t3, t4, t5, t6⟩ := hP.1
    have hpl : p + 20 < h.length := kd_lt (by rw [t3]; decide)
    have f0 : fR h1 p 0 = fR h p 0 := by rw [fR_kd, g3, ← fR_kd]
    have slot : ∀ j b, j < 20 → xR h1 (p + 19) j = some b → ∃ j', j' < 20 ∧ xR h (p + 19) j' = some b ∧ (j < 19 → j' = j + 1) ∧ (j = 19 → j' = 0) := fun j b hj hb => by
      rw [g5 j hj] at hb
      by_cases c : j < 19
      · rw [if_pos c] at hb; exact ⟨j + 1, by omega, hb, fun _ => rfl, fun _ => by omega⟩
      · rw [if_neg c] at hb; exact ⟨0, by omega, hb, fun _ => by omega, fun _ => rfl⟩
    have mo : ∀ j b m, j < 20 → xR h (p + 19) j = some b → MoR h b m → MoR h1 b m := fun j b m hj hb hm => by
      have pd := PgS_dis hP' hj hb
      exact MoR_eq hm (fun a h1 h2 => g4 a (by omega) (by omega))
    have S1 : PgS h1 p := by
      refine ⟨t0, by rw [g3, f0]; exact t1, by rw [g3]; exact t2, by rw [g3]; exact t3, (MoR_eq l2 (fun a h1 h2 => g4 a (by omega) (by omega))).1, fun i b hi hb => ?_, fun i j b hi hj g g' => ?_⟩
      · obtain ⟨j', hj', hb', -, -⟩ := slot i b hi hb
        obtain ⟨⟨m2, hm2⟩, hn⟩ := t5 j' b hj' hb'
        exact ⟨⟨m2, mo j' b m2 hj' hb' hm2⟩, hn⟩
      · obtain ⟨i', hi', hb', i1, i2⟩ := slot i b hi g
        obtain ⟨j', hj', hb2', j1, j2⟩ := slot j b hj g'
        have := t6 i' j' b hi' hj' hb' hb2'
        by_cases c1 : i < 19 <;> by_cases c2 : j < 19
        · have := i1 c1; have := j1 c2; omega
        · have := i1 c1; have := j2 (by omega); omega
        · have := i2 (by omega); have := j1 c2; omega
        · omega
    have R1 : PgR h1 p (pg_l P, pg_m P, (pg_u P).tail, pg_t P, pg_x P) := by
      have hd := PgS_La hP' l0.1
      refine PgR_up hP S1 f0 (fun c h1 h2 => g4 c (by omega) (by omega)) (MoR_eq l2 (fun a h1 h2 => g4 a (by omega) (by omega))) (by rw [g6, if_pos rfl, List.length_tail, q]; rfl) (by rw [List.length_tail]; omega) (fun i hi => ?_) (by rw [g6]; rfl) (by rw [g6]; rfl) (by rw [g6]; rfl) (by rw [same_xA (g4 (p + 20) (by omega) (by omega))])
      rw [List.length_tail] at hi
      obtain ⟨b, hb, hm⟩ := l5 (i + 1) (by omega)
      refine ⟨b, by rw [g5 i (by omega), if_pos (by omega)]; exact hb, ?_⟩
      have : (pg_u P).tail.getD i mo0 = (pg_u P).getD (i + 1) mo0 := by
        rw [List.getD_eq_getElem?_getD, List.getD_eq_getElem?_getD, List.getElem?_tail]
      rw [this]
      exact mo (i + 1) b _ (by omega) hb hm
    have St1 : St h1 := St_get hS (fun b hb => g4 b (by omega) (by omega))
    refine c57_13 St1 R1 (by show (pg_u P).tail.length < 20; rw [List.length_tail]; omega) (fun h2 R2 F2 N2 f2 => ?_)
    have er : rem (pg_u P) (pg_m P) = (pg_u P).tail ++ [pg_m P] := by unfold rem; rw [if_pos q]
    have sub : ∀ a, PgT h1 p a → PgT h p a := fun a g => by
      rcases g with g | g | ⟨i, b, hi, hb, g1, g2⟩
      · exact Or.inl g
      · exact Or.inr (Or.inl g)
      · obtain ⟨j', hj', hb', -, -⟩ := slot i b hi hb
        exact Or.inr (Or.inr ⟨j', b, hj', hb', g1, g2⟩)
    refine hK h2 (by rw [er]; exact R2) ⟨⟨by have := F2.1.1; omega, by have := F2.1.2.1; omega, by have := F2.1.2.2.1; omega, by have := F2.1.2.2.2; omega⟩, fun a ha hT => ?_⟩ (fun j b hj hb => ?_) (f2.trans f0)
    · have t1 : ¬ a = p := fun g => hT (Or.inl g)
      have t2 : ¬ (p + 9 ≤ a ∧ a < p + 21) := fun g => hT (Or.inr (Or.inl g))
      rw [F2.2 a (by omega) (fun g => hT (sub a g)), g4 a t1 (by omega)]
    · rcases N2 j b hj hb with ⟨j', hj', hb'⟩ | g
      · obtain ⟨j2, hj2, hb2, -, -⟩ := slot j' b hj' hb'
        exact Or.inl ⟨j2, hj2, hb2⟩
      · exact Or.inr (by omega)
  · rw [if_pos (by
      have e20 : ii 20 = ii ((20 : Nat) : Int) := rfl
      rw [e20, ii_eq (by omega) (by omega) (by omega) (by omega)]; omega)]
    refine c57_13 hS hP (by omega) (fun h1 a1 a2 a3 a4 => hK h1 ?_ a2 a3 a4)
    have er : rem (pg_u P) (pg_m P) = pg_u P ++ [pg_m P] := by unfold rem; rw [if_neg q]
    rw [er]
    exact a1
/-- takeBack -/
theorem c60 {K : Int32 → mHeap → Prop} (hP : PgR h p P) (h0 : pg_u P = [] → K (ii (-2)) h) (hK : ∀ h1, ¬ pg_u P = [] → PgR h1 p (pg_l P, (pg_u P).getD ((pg_u P).length - 1) mo0, (pg_u P).take ((pg_u P).length - 1), pg_t P, pg_x P) → FrP (PgT h p) 0 0 h h1 → PgN h h1 p → fR h1 p 0 = fR h p 0 → K (ii (((pg_u P).length - 1 : Nat) : Int)) h1) : GoCi (d + 4) 60 [.ref p] h K := by
  obtain ⟨l0, l1, l2, l3, l4, l5, l6, l7, l8, l9, l10, l11⟩ := hP.2
  rw [e60, b60_0]
  refine ⟨(PgS_okF hP.1).2.2.2.1, ?_⟩
  rw [l3]
  by_cases q : (pg_u P).length = 0
  · rw [if_neg (by rw [q]; exact fun g => g rfl), rI_s]
    exact h0 (List.length_eq_zero_iff.mp q)
  · rw [if_pos (by
      have e0 : ii 0 = ii ((0 : Nat) : Int) := rfl
      rw [e0, ii_eq (by omega) (by omega) (by omega) (by omega)]; omega)]
    have e1 : ii (((pg_u P).length : Nat) : Int) - ii 1 = ii (((pg_u P).length - 1 : Nat) : Int) := by rw [ii_sub]; congr 1; omega
    rw [e1]
    obtain ⟨S1, F1, g1⟩ := PgS_put hP.1 (k := 3) (Or.inl rfl) (ii (((pg_u P).length - 1 : Nat) : Int))
    refine ⟨(PgS_okF hP.1).2.2.2.1, PgS_okP hP.1 (by decide), (PgS_okF S1).2.2.1, (PgS_okF S1).2.2.2.1, ?_⟩
    obtain ⟨b, hb, hm⟩ := l5 ((pg_u P).length - 1) (by omega)
    have hb1 : xR (sF h p 3 (.int (ii (((pg_u P).length - 1 : Nat) : Int)))) (p + 19) ((pg_u P).length - 1) = some b := by rw [F1.1.2]; exact hb
    have r := PgS_past S1 (i := (pg_u P).length - 1) (by omega) hb1
    have pd := PgS_dis hP.1 (show (pg_u P).length - 1 < 20 by omega) hb
    have hm1 := hm.fr F1 (by omega)
    have l21 := l2.fr F1 (by omega)
    rw [(PgS_okF S1).2.2.2.2.2.2.2.2.2.1, g1, if_pos rfl, r.2, (PgS_okF S1).2.2.2.2.2.2.2.2.1]
    refine Or.inr ⟨r.1, hm1.1.1, (PgS_okF S1).2.1, (MoS_okF l21.1).2.2.2.2.2.2.2.2, ?_⟩
    have hbn := (hP.1.2.2.2.2.2.1 _ b (by omega) hb).2
    refine c44 l21 hm1 (MoS_dis l21.1 hm1.1 (fun g => hbn g.symm)) (fun h2 F2 m2 => ?_)
    have ep : h2[p]? = (sF h p 3 (.int (ii (((pg_u P).length - 1 : Nat) : Int))))[p]? := F2.2.2.2 p (by omega)
    have g2 : ∀ j, fI h2 p j = if j = 3 then ii (((pg_u P).length - 1 : Nat) : Int) else fI h p j := fun j => by rw [same_fI ep, g1]
    have f0 : fR h2 p 0 = fR h p 0 := by rw [fR_kd, F2.1.1, F1.1.1, ← fR_kd]
    have x2 : ∀ c, xR h2 c = xR h c := fun c => by rw [F2.1.2, F1.1.2]
    have keep : ∀ i b2 m3, i < 20 → xR h (p + 19) i = some b2 → MoR h b2 m3 → MoR h2 b2 m3 := fun i b2 m3 hi hb2 hm3 => by
      have pd2 := PgS_dis hP.1 hi hb2
      exact (hm3.fr F1 (by omega)).fr F2 (by omega)
    have S2 : PgS h2 p := by
      obtain ⟨t0, t1, t2, t3, t4, t5, t6⟩ := S1
      refine ⟨t0, by rw [F2.1.1, fR_kd, F2.1.1, ← fR_kd]; exact t1, by rw [F2.1.1]; exact t2, by rw [F2.1.1]; exact t3, F2.1.MoS t4, fun i b hi hb => ?_, fun i j b hi hj g g' => ?_⟩
      · rw [x2] at hb
        obtain ⟨⟨m3, hm3⟩, hn⟩ := hP.1.2.2.2.2.2.1 i b hi hb
        exact ⟨⟨m3, keep i b m3 hi hb hm3⟩, hn⟩
      · rw [x2] at g g'
        exact hP.1.2.2.2.2.2.2 i j b hi hj g g'
    refine ⟨(PgS_okF S2).2.2.2.1, ?_⟩
    rw [rI_s, g2, if_pos rfl]
    have hd := PgS_La hP.1 l0.1
    refine hK h2 (fun e => q (by rw [e]; rfl)) (PgR_up hP S2 f0 (fun c h1 h2 => ?_) m2 (by rw [g2, if_pos rfl, List.length_take]; congr 1; omega) (by rw [List.length_take]; omega) (fun i hi => ?_) (by rw [g2]; rfl) (by rw [g2]; rfl) (by rw [g2]; rfl) (by rw [same_xA (F2.2.2.2 (p + 20) (by omega)), same_xA (F1.2.2.2 (p + 20) (by omega))])) ⟨⟨?_, ?_, ?_, ?_⟩, fun a ha hT => ?_⟩ (PgN_of (x2 _)) f0
    · rw [F2.2.2.2 c (by omega), F1.2.2.2 c (by omega)]
    · rw [List.length_take] at hi
      obtain ⟨b2, hb2, hm2⟩ := l5 i (by omega)
      refine ⟨b2, by rw [x2]; exact hb2, ?_⟩
      have : ((pg_u P).take ((pg_u P).length - 1)).getD i mo0 = (pg_u P).getD i mo0 := by
        rw [List.getD_eq_getElem?_getD, List.getD_eq_getElem?_getD, List.getElem?_take, if_pos (by omega)]
      rw [this]
      exact keep i b2 _ (by omega) hb2 hm2
    · rw [F2.2.1, F1.2.1]; omega
    · rw [F2.2.1, F1.2.1]; omega
    · rw [F2.2.2.1, F1.2.2.1]; omega
    · rw [F2.2.2.1, F1.2.2.1]; omega
    · have t1 : ¬ a = p := fun g => hT (Or.inl g)
      have t2 : ¬ (p + 9 ≤ a ∧ a < p + 21) := fun g => hT (Or.inr (Or.inl g))
      rw [F2.2.2.2 a (by omega), F1.2.2.2 a (by omega)]
/-- fellIn -/
theorem c62 {K : Int32 → mHeap → Prop} (hP : PgR h p P) {t : Nat} (ht : t < (pg_t P).length) : GoCi (d + 1) 62 [.ref p, .int (ii t)] h K ↔ K (if ((pg_t P).getD t (0, false)).2 = true then ii 1 else ii 0) h := by
  obtain ⟨l0, l1, l2, l3, l4, l5, l6, l7, l8, ⟨N, hN, h6, hb⟩, l10, l11⟩ := hP.2
  rw [e62, b62_0]
  simp only [PgS_okF hP.1, true_and, h6, bit_n (show N < 2147483648 by omega) (show t < 32 by omega), hb t ht, rI_s, if_b]
  cases ((pg_t P).getD t (0, false)).2 <;> simp
end Acts3
