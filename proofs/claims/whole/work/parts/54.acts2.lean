/-! REMEMBERED AND TAKEN BACK -/
def rem (u : List Mo) (m : Mo) : List Mo := (if u.length = 20 then u.tail else u) ++ [m]
/-- every moment of the past was there, or is new -/
def PgN (h h1 : mHeap) (p : Nat) : Prop := ∀ j b, j < 20 → xR h1 (p + 19) j = some b → (∃ j', j' < 20 ∧ xR h (p + 19) j' = some b) ∨ h.length ≤ b
section Acts2
variable {d b p : Nat} {h h1 : mHeap} {P : Pg}
theorem PgR_up {m' : Mo} {u' : List Mo} (hP : PgR h p P) (hS : PgS h1 p) (hf : fR h1 p 0 = fR h p 0) (hl : ∀ c, fR h p 0 ≤ c → c < fR h p 0 + 8 → h1[c]? = h[c]?) (hm : MoR h1 (p + 9) m') (h3 : fI h1 p 3 = ii u'.length) (hu : u'.length ≤ 20) (hb : ∀ i, i < u'.length → ∃ b, xR h1 (p + 19) i = some b ∧ MoR h1 b (u'.getD i mo0)) (h4 : fI h1 p 4 = fI h p 4) (h6 : fI h1 p 6 = fI h p 6) (h7 : fI h1 p 7 = fI h p 7) (h20 : xA h1 (p + 20) = xA h (p + 20)) : PgR h1 p (pg_l P, m', u', pg_t P, pg_x P) := by
  obtain ⟨-, l0, l1, l2, l3, l4, l5, l6, l7, l8, l9, l10, l11⟩ := hP
  exact ⟨hS, by rw [hf]; exact LaR_eq l0 hl, l1, hm, h3, hu, hb, by rw [h4]; exact l6, l7, by rw [h20]; exact l8, by rw [h6]; exact l9, by rw [h7]; exact l10, l11⟩
/-- forgetOldest -/
theorem c58 {K : mHeap → Prop} (hP : PgS h p) (hall : ∀ i, i < 20 → ∃ b, xR h (p + 19) i = some b) (h3 : fI h p 3 = ii 20) (hK : ∀ h1, h1.length = h.length → mSlots h1 = mSlots h → (∀ c, kd h1 c = kd h c) → (∀ a, ¬ a = p → ¬ a = p + 19 → h1[a]? = h[a]?) → (∀ j, j < 20 → xR h1 (p + 19) j = if j < 19 then xR h (p + 19) (j + 1) else xR h (p + 19) 0) → (∀ k, fI h1 p k = if k = 3 then ii 19 else fI h p k) → K h1) : GoCv (d + 1) 58 [.ref p] h K := by
  have hx : ∀ i, i < 20 → (ii (i : Nat)).toNatClampNeg = i := fun i hi => ix_n (by omega)
  obtain ⟨o, ho⟩ := hall 0 (by decide)
  have r0 := PgS_past hP (i := 0) (by decide) ho
  rw [show ((0 : Nat) : Int) = 0 from rfl] at r0
  rw [e58, b58_0]
  simp only [PgS_okF hP, r0, true_and]
  have h64 := hP.1
  have f2 : ∀ h' : mHeap, (∀ c, kd h' c = kd h c) → fR h' p 2 = p + 19 ∧ okF h' p 4 2 2 ∧ okF h' p 4 3 0 ∧ okP h' p 4 3 := fun h' hk => by
    refine ⟨by rw [fR_kd, hk, ← fR_kd]; exact (PgS_okF hP).2.2.2.2.2.2.2.2.2.1, by rw [okF_kd, hk, ← okF_kd]; exact (PgS_okF hP).2.2.1, by rw [okF_kd, hk, ← okF_kd]; exact (PgS_okF hP).2.2.2.1, by rw [okP_kd, hk, ← okP_kd]; exact PgS_okP hP (by decide)⟩
  have hb64 : ∀ i b, i < 20 → xR h (p + 19) i = some b → 64 ≤ b ∧ oC h b = 3 := fun i b hi e => by
    have := (hP.2.2.2.2.2.1 i b hi e).1.S
    exact ⟨this.1, (MoS_okF this).2.2.2.2.2.2.2.2⟩
  refine Go_loop (fun k L' h' => L' = [some (.ref p), some (.ref o), some (.int (ii ((k + 1 : Nat) : Int)))] ∧ h'.length = h.length ∧ mSlots h' = mSlots h ∧ (∀ c, kd h' c = kd h c) ∧ (∀ a, ¬ a = p + 19 → h'[a]? = h[a]?) ∧ ∀ j, j < 20 → xR h' (p + 19) j = if j < k then xR h (p + 19) (j + 1) else xR h (p + 19) j) 19 ?_ ?_ 0 _ _ (Nat.zero_le _) ⟨rfl, rfl, rfl, fun _ => rfl, fun _ _ => rfl, fun j _ => by rw [if_neg (Nat.not_lt_zero _)]⟩
  · rintro k L' h' hk ⟨rfl, g1, g2, g3, g4, g5⟩ next
    obtain ⟨w1, w2, w3, w4⟩ := f2 h' g3
    have k19 : kd h' (p + 19) = (3, 3, [20]) := by rw [g3]; exact hP.2.2.1
    obtain ⟨b, hb⟩ := hall (k + 1) (by omega)
    have xb : xR h' (p + 19) (k + 1) = some b := by rw [g5 _ (by omega), if_neg (by omega)]; exact hb
    obtain ⟨q64, q3⟩ := hb64 _ b (by omega) hb
    have he : eR h' (p + 19) (ii ((k + 1 : Nat) : Int)) = b := by rw [eR_xR, hx _ (by omega), xb]; rfl
    have hm1 : ii ((k + 1 : Nat) : Int) - ii 1 = ii (k : Int) := by rw [ii_sub]; congr 1; omega
    have hp1 : ii ((k + 1 : Nat) : Int) + ii 1 = ii ((k + 1 + 1 : Nat) : Int) := by rw [ii_add]; rfl
    rw [b58_9, if_neg (by rw [ii_le (by omega) (by omega) (by omega) (by omega)]; omega), w1, he, hm1, hp1]
    refine ⟨w2, w2, ?_, ?_, ?_⟩
    · rw [okR_kd, k19, hx _ (by omega), xb]
      refine ⟨⟨rfl, rfl⟩, ?_, q64⟩
      rw [ii_lt0 (by omega) (by omega)]; omega
    · rw [okS_kd, k19, oC_kd', g3, ← oC_kd', q3, hx _ (by omega)]
      refine ⟨by omega, q64, rfl, rfl, rfl, ?_, by show k < 20; omega⟩
      rw [ii_lt0 (by omega) (by omega)]; omega
    · refine next _ _ ⟨rfl, by rw [len_sR, g1], by rw [sl_sR, g2], fun c => by rw [kd_sR, g3], fun a ha => by rw [sR_get, if_neg (fun g => ha g.symm)]; exact g4 a ha, fun j hj => ?_⟩
      rw [xR_sR (by rw [k19]) (by rw [k19, hx _ (by omega)]; show k < 20; omega), if_pos rfl, hx _ (by omega)]
      unfold upf
      by_cases q : j = k
      · rw [if_pos q, if_pos (by omega), q, hb]
      · rw [if_neg q, g5 j hj]
        by_cases q2 : j < k
        · rw [if_pos q2, if_pos (by omega)]
        · rw [if_neg q2, if_neg (by omega)]
  · rintro L' h' ⟨rfl, g1, g2, g3, g4, g5⟩
    obtain ⟨w1, w2, w3, w4⟩ := f2 h' g3
    have k19 : kd h' (p + 19) = (3, 3, [20]) := by rw [g3]; exact hP.2.2.1
    obtain ⟨q64, q3⟩ := hb64 _ o (by decide) ho
    rw [b58_9, if_pos (by rw [ii_le (by omega) (by omega) (by omega) (by omega)]; omega), w1]
    have gg : ∀ c, kd (sR h' (p + 19) (ii 19) o) c = kd h c := fun c => by rw [kd_sR, g3]
    obtain ⟨v1, v2, v3, v4⟩ := f2 _ gg
    have h19 : (ii 19).toNatClampNeg = 19 := hx 19 (by decide)
    refine ⟨w2, ?_, v3, v4, ?_⟩
    · rw [okS_kd, k19, oC_kd', g3, ← oC_kd', q3, h19]
      exact ⟨by omega, q64, rfl, rfl, rfl, by decide, by decide⟩
    have e3 : fI (sR h' (p + 19) (ii 19) o) p 3 - ii 1 = ii 19 := by
      rw [fI_sR, same_fI (g4 p (by omega)), h3, ii_sub]; rfl
    rw [e3, rV_s]
    have ht : tgK (kd (sR h' (p + 19) (ii 19) o) p) 3 = some 0 := by rw [gg]; exact PgS_t hP (Or.inl rfl)
    refine hK _ (by rw [len_sF, len_sR, g1]) (by rw [sl_sF, sl_sR, g2]) (fun c => by rw [kd_sF ht, gg]) (fun a h1 h2 => by rw [sF_get, if_neg (fun g => h1 g.symm), sR_get, if_neg (fun g => h2 g.symm)]; exact g4 a h2) (fun j hj => ?_) (fun k => ?_)
    · rw [xR_sF, xR_sR (by rw [k19]) (by rw [k19, h19]; decide), if_pos rfl, h19]
      unfold upf
      by_cases q : j = 19
      · rw [if_pos q, if_neg (by omega), ho]
      · rw [if_neg q, g5 j hj, if_pos (by omega), if_pos (by omega)]
    · rw [fI_sF ht, fI_sR, same_fI (g4 p (by omega))]
      by_cases q : k = 3
      · rw [if_pos ⟨rfl, q.symm⟩, if_pos q]
      · rw [if_neg (fun g => q g.2.symm), if_neg q]
/-- remember's end: the moment kept behind the others -/
theorem c57_13 {Q : mHeap → Prop} (hS : St h) (hP : PgR h p P) (hu : (pg_u P).length < 20) (hK : ∀ h1, PgR h1 p (pg_l P, pg_m P, pg_u P ++ [pg_m P], pg_t P, pg_x P) → FrP (PgT h p) 10 47 h h1 → PgN h h1 p → fR h1 p 0 = fR h p 0 → Q h1) : Go (d + 4) 57 13 [some (.ref p)] [] h (rV Q) := by
  obtain ⟨l0, l1, l2, l3, l4, l5, l6, l7, l8, l9, l10, l11⟩ := hP.2
  rw [b57_13]
  simp only [PgS_okF hP.1, true_and, l3]
  refine c59 hS hP.1 hu l2 (fun b hb => (hP.1.2.2.2.2.2.1 _ b hu hb).2) (fun h1 b q1 q2 q3 q4 q5 => ?_)
  have h64 := hP.1.1
  have hpl : p + 20 < h.length := kd_lt (by rw [hP.1.2.2.2.1]; decide)
  -- the block where the moment went
  have hblk : ∀ a, a < h.length → ¬ a = p + 19 → (∀ b0, xR h (p + 19) (pg_u P).length = some b0 → a < b0 ∨ b0 + 10 ≤ a) → h1[a]? = h[a]? := fun a ha hn hb => q2.2 a ha (fun g => by
    rcases g with g | ⟨b0, g1, g2, g3⟩
    · exact hn g
    · rcases hb b0 g1 with g | g <;> omega)
  have hdp := fun b0 (e : xR h (p + 19) (pg_u P).length = some b0) => PgS_dis hP.1 hu e
  have ep : h1[p]? = h[p]? := hblk p (by omega) (by omega) (fun b0 e => by have := hdp b0 e; omega)
  have e20 : h1[p + 20]? = h[p + 20]? := hblk _ (by omega) (by omega) (fun b0 e => by have := hdp b0 e; omega)
  have em : ∀ a, p + 9 ≤ a → a < p + 9 + 10 → h1[a]? = h[a]? := fun a h1 h2 => hblk a (by omega) (by omega) (fun b0 e => by have := hdp b0 e; omega)
  have e3 : fI h1 p 3 + ii 1 = ii (((pg_u P ++ [pg_m P]).length : Nat) : Int) := by
    rw [same_fI ep, l3, ii_add, List.length_append]; rfl
  rw [e3]
  have ht : tgK (kd h1 p) 3 = some 0 := PgS_t q1 (Or.inl rfl)
  have hf := Fr.sF (x := ii (((pg_u P ++ [pg_m P]).length : Nat) : Int)) ht
  refine ⟨(PgS_okF q1).2.2.2.1, PgS_okP q1 (by decide), ?_⟩
  rw [rV_s]
  generalize hH : sF h1 p 3 (.int (ii (((pg_u P ++ [pg_m P]).length : Nat) : Int))) = h2 at hf ⊢
  have g2 : ∀ k, fI h2 p k = if k = 3 then ii (((pg_u P ++ [pg_m P]).length : Nat) : Int) else fI h p k := fun k => by
    rw [← hH, fI_sF ht, same_fI ep]
    by_cases q : k = 3
    · rw [if_pos ⟨rfl, q.symm⟩, if_pos q]
    · rw [if_neg (fun g => q g.2.symm), if_neg q]
  have n2 : ∀ a, ¬ a = p → h2[a]? = h1[a]? := fun a ha => hf.2.2.2 a (by omega)
  have f0 : fR h2 p 0 = fR h p 0 := by rw [fR_kd, hf.1.1, fR_kd, same_kd ep]
  have x2 : xR h2 (p + 19) = upf (xR h (p + 19)) (pg_u P).length (some b) := by rw [hf.1.2]; exact q3
  have S2 : PgS h2 p := by
    obtain ⟨t0, t1, t2, t3, t4, t5, t6⟩ := q1
    refine ⟨t0, by rw [hf.1.1, fR_kd, hf.1.1, ← fR_kd]; exact t1, by rw [hf.1.1]; exact t2, by rw [hf.1.1]; exact t3, hf.1.MoS t4, fun i b hi hb => ?_, fun i j b hi hj g g' => ?_⟩
    · rw [hf.1.2] at hb
      obtain ⟨⟨m2, hm2⟩, hn⟩ := t5 i b hi hb
      have pd := PgS_dis ⟨t0, t1, t2, t3, t4, t5, t6⟩ hi hb
      exact ⟨⟨m2, hm2.fr hf (by omega)⟩, hn⟩
    · rw [hf.1.2] at g g'
      exact t6 i j b hi hj g g'
  have keep : ∀ i, i < 20 → ¬ i = (pg_u P).length → ∀ b2 m2, xR h (p + 19) i = some b2 → MoR h b2 m2 → MoR h2 b2 m2 := fun i hi hn b2 m2 hb hm => by
    have pd := PgS_dis hP.1 hi hb
    have hl := MoS_lt hm.1
    refine MoR_eq hm (fun a h1' h2' => ?_)
    rw [n2 a (by omega)]
    refine hblk a (by omega) (by omega) (fun b0 e => ?_)
    have hne : ¬ b2 = b0 := fun g => hn (hP.1.2.2.2.2.2.2 i _ b2 hi hu hb (by rw [g]; exact e))
    have := MoS_dis hm.1 (hP.1.2.2.2.2.2.1 _ b0 hu e).1.S hne
    omega
  refine hK h2 (PgR_up hP S2 f0 (fun c h1' h2' => ?_) (MoR_eq l2 (fun a h1' h2' => by rw [n2 a (by omega)]; exact em a h1' h2')) (by rw [g2, if_pos rfl]) (by rw [List.length_append]; show _ + 1 ≤ 20; omega) (fun i hi => ?_) (by rw [g2]; rfl) (by rw [g2]; rfl) (by rw [g2]; rfl) (by rw [same_xA (n2 (p + 20) (by omega)), same_xA e20])) ?_ ?_ f0
  · have hd := PgS_La hP.1 l0.1
    have hl := LaS_lt l0.1
    rw [n2 c (by omega)]
    refine hblk c (by omega) (by omega) (fun b0 e => ?_)
    have := MoS_LaS (hP.1.2.2.2.2.2.1 _ b0 hu e).1.S l0.1
    omega
  · rw [List.length_append] at hi
    have hi : i < (pg_u P).length + 1 := hi
    by_cases q : i = (pg_u P).length
    · refine ⟨b, by rw [x2]; unfold upf; rw [if_pos q], ?_⟩
      have : (pg_u P ++ [pg_m P]).getD i mo0 = pg_m P := by rw [q]; simp
      rw [this]
      refine q4.fr hf ?_
      rcases q5 with g | ⟨g, g'⟩
      · have := PgS_dis hP.1 hu g; omega
      · omega
    · obtain ⟨b2, hb2, hm2⟩ := l5 i (by omega)
      refine ⟨b2, by rw [x2]; unfold upf; rw [if_neg q]; exact hb2, ?_⟩
      have : (pg_u P ++ [pg_m P]).getD i mo0 = (pg_u P).getD i mo0 := by
        rw [List.getD_eq_getElem?_getD, List.getD_eq_getElem?_getD, List.getElem?_append_left (by omega)]
      rw [this]
      exact keep i (by omega) q b2 _ hb2 hm2
  · refine ⟨(q2.1.tr hf.gr).wide (by omega) (by omega), fun a ha hT => ?_⟩
    have t1 : ¬ a = p := fun g => hT (Or.inl g)
    have t2 : ¬ (p + 9 ≤ a ∧ a < p + 21) := fun g => hT (Or.inr (Or.inl g))
    rw [n2 a t1]
    refine hblk a ha (by omega) (fun b0 e => ?_)
    have t3 : ¬ (b0 ≤ a ∧ a < b0 + 10) := fun g => hT (Or.inr (Or.inr ⟨_, b0, hu, e, g.1, g.2⟩))
    omega
  · intro j b2 hj hb2
    rw [x2] at hb2
    unfold upf at hb2
    by_cases q : j = (pg_u P).length
    · rw [if_pos q] at hb2
      cases hb2
      rcases q5 with g | ⟨g, g'⟩
      · exact Or.inl ⟨_, hu, g⟩
      · exact Or.inr (by omega)
    · rw [if_neg q] at hb2
      exact Or.inl ⟨j, hj, hb2⟩
end Acts2
