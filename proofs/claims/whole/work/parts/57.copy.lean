/-! A PAGE COPIED FROM ANOTHER; A NEW PAGE -/
section Copy
variable {d b p q : Nat} {h h1 : mHeap} {P P2 : Pg}
/-- two pages that share nothing that acts change -/
def PgD (h : mHeap) (p q : Nat) : Prop := (p + 21 ≤ q ∨ q + 21 ≤ p) ∧ (∀ i j b, i < 20 → j < 20 → xR h (p + 19) i = some b → ¬ xR h (q + 19) j = some b) ∧ (∀ i, i < 20 → ¬ xR h (p + 19) i = some (q + 9)) ∧ ∀ j, j < 20 → ¬ xR h (q + 19) j = some (p + 9)
theorem PgS_lt (hP : PgS h p) : p + 20 < h.length := kd_lt (by rw [hP.2.2.2.1]; decide)
/-- what the acts on one page change, another page doesn't show -/
theorem PgD_out (hP : PgS h p) (hQ : PgR h q P2) (hD : PgD h p q) {a : Nat} (ha : PgT h q a ∨ (fR h q 0 ≤ a ∧ a < fR h q 0 + 8)) : ¬ PgT h p a ∧ a < h.length := by
  obtain ⟨d1, d2, d3, d4⟩ := hD
  have lq := PgS_lt hQ.1
  have kq : ∀ c, c = q → (kd h c).1 = 4 ∧ (kd h c).2.1 = 4 := fun c e => by rw [e, hQ.1.2.1]; exact ⟨rfl, rfl⟩
  -- a moment of p's past and the cells of page q
  have mq : ∀ i b, i < 20 → xR h (p + 19) i = some b → (b + 10 ≤ q ∨ q < b) ∧ (b + 10 ≤ q + 9 ∨ q + 21 ≤ b) := fun i b hi hb => by
    have hM := (hP.2.2.2.2.2.1 i b hi hb).1.S
    have hn : ¬ b = q + 9 := fun g => d3 i hi (by rw [← g]; exact hb)
    have e1 := MoS_dis hM hQ.1.2.2.2.2.1 hn
    have out : ∀ c, b ≤ c → c < b + 10 → ¬ kd h c = (3, 3, [20]) ∧ ¬ kd h c = (1, 1, [10]) ∧ ¬ ((kd h c).1 = 4 ∧ (kd h c).2.1 = 4) := by
      intro c c1 c2
      rcases MoS_kd hM c1 c2 with ⟨q, k⟩ | ⟨q, k⟩ | ⟨q, k⟩ | ⟨q, k⟩ <;> rw [k] <;> refine ⟨?_, ?_, ?_⟩ <;> first | (intro g; cases g; done) | (rintro ⟨g1, g2⟩; first | (cases g1; done) | (cases g2; done))
    have o1 : ¬ (b ≤ q + 19 ∧ q + 19 < b + 10) := fun g => (out (q + 19) g.1 g.2).1 hQ.1.2.2.1
    have o2 : ¬ (b ≤ q + 20 ∧ q + 20 < b + 10) := fun g => (out (q + 20) g.1 g.2).2.1 hQ.1.2.2.2.1
    have o3 : ¬ (b ≤ q ∧ q < b + 10) := fun g => (out q g.1 g.2).2.2 (kq q rfl)
    have b1 : ¬ b = q + 19 := fun g => by have := hM.2.1; rw [g, hQ.1.2.2.1] at this; cases this
    have b2 : ¬ b = q + 20 := fun g => by have := hM.2.1; rw [g, hQ.1.2.2.2.1] at this; cases this
    omega
  have mp : ∀ j b, j < 20 → xR h (q + 19) j = some b → (b + 10 ≤ p ∨ p < b) ∧ (b + 10 ≤ p + 9 ∨ p + 21 ≤ b) := fun j b hj hb => by
    have hM := (hQ.1.2.2.2.2.2.1 j b hj hb).1.S
    have hn : ¬ b = p + 9 := fun g => d4 j hj (by rw [← g]; exact hb)
    have e1 := MoS_dis hM hP.2.2.2.2.1 hn
    have out : ∀ c, b ≤ c → c < b + 10 → ¬ kd h c = (3, 3, [20]) ∧ ¬ kd h c = (1, 1, [10]) ∧ ¬ ((kd h c).1 = 4 ∧ (kd h c).2.1 = 4) := by
      intro c c1 c2
      rcases MoS_kd hM c1 c2 with ⟨q, k⟩ | ⟨q, k⟩ | ⟨q, k⟩ | ⟨q, k⟩ <;> rw [k] <;> refine ⟨?_, ?_, ?_⟩ <;> first | (intro g; cases g; done) | (rintro ⟨g1, g2⟩; first | (cases g1; done) | (cases g2; done))
    have o1 : ¬ (b ≤ p + 19 ∧ p + 19 < b + 10) := fun g => (out (p + 19) g.1 g.2).1 hP.2.2.1
    have o2 : ¬ (b ≤ p + 20 ∧ p + 20 < b + 10) := fun g => (out (p + 20) g.1 g.2).2.1 hP.2.2.2.1
    have o3 : ¬ (b ≤ p ∧ p < b + 10) := fun g => (out p g.1 g.2).2.2 (by rw [hP.2.1]; exact ⟨rfl, rfl⟩)
    have b1 : ¬ b = p + 19 := fun g => by have := hM.2.1; rw [g, hP.2.2.1] at this; cases this
    have b2 : ¬ b = p + 20 := fun g => by have := hM.2.1; rw [g, hP.2.2.2.1] at this; cases this
    omega
  rcases ha with ha | ⟨a1, a2⟩
  · rcases ha with ha | ⟨a1, a2⟩ | ⟨j, b2, hj, hb2, a1, a2⟩
    · subst ha
      refine ⟨fun g => ?_, by omega⟩
      rcases g with g | ⟨g1, g2⟩ | ⟨i, b, hi, hb, g1, g2⟩
      · omega
      · omega
      · have := mq i b hi hb; omega
    · refine ⟨fun g => ?_, by omega⟩
      rcases g with g | ⟨g1, g2⟩ | ⟨i, b, hi, hb, g1, g2⟩
      · omega
      · omega
      · have := mq i b hi hb; omega
    · have hM2 := (hQ.1.2.2.2.2.2.1 j b2 hj hb2).1.S
      have hl2 := MoS_lt hM2
      refine ⟨fun g => ?_, by omega⟩
      have e2 := mp j b2 hj hb2
      rcases g with g | ⟨g1, g2⟩ | ⟨i, b, hi, hb, g1, g2⟩
      · omega
      · omega
      · have hM1 := (hP.2.2.2.2.2.1 i b hi hb).1.S
        have hne : ¬ b = b2 := fun e => d2 i j b hi hj hb (by rw [e]; exact hb2)
        have := MoS_dis hM1 hM2 hne
        omega
  · have hL := hQ.2.1
    have hl := LaS_lt hL.1
    refine ⟨fun g => ?_, by omega⟩
    have e1 := PgS_La hP hL.1
    rcases g with g | ⟨g1, g2⟩ | ⟨i, b, hi, hb, g1, g2⟩
    · omega
    · omega
    · have := MoS_LaS (hP.2.2.2.2.2.1 i b hi hb).1.S hL.1
      omega
theorem PgR_out (hP : PgS h p) (hQ : PgR h q P2) (hD : PgD h p q) {n s : Nat} (hF : FrP (PgT h p) n s h h1) : PgR h1 q P2 ∧ (∀ j, xR h1 (q + 19) j = xR h (q + 19) j) ∧ fR h1 q 0 = fR h q 0 := by
  have e : ∀ a, PgT h q a ∨ (fR h q 0 ≤ a ∧ a < fR h q 0 + 8) → h1[a]? = h[a]? := fun a ha => by
    obtain ⟨g1, g2⟩ := PgD_out hP hQ hD ha
    exact hF.2 a g2 g1
  refine ⟨PgR_eq hQ e, fun j => by rw [same_xR (e _ (Or.inl (Or.inr (Or.inl ⟨by omega, by omega⟩))))], ?_⟩
  rw [fR_kd, fR_kd, same_kd (e q (Or.inl (Or.inl rfl)))]
/-- copyFrom -/
theorem c56 {K : mHeap → Prop} (hS : St h) (hP : PgR h p P) (hQ : PgR h q P2) (hD : PgD h p q) (hK : ∀ h1, PgR h1 p P2 → FrP (PgT h p) 200 940 h h1 → PgN h h1 p → fR h1 p 0 = fR h q 0 → K h1) : GoCv (d + 5) 56 [.ref p, .ref q] h K := by
  have hd1 := hD.1
  have h64 := hP.1.1
  have q64 := hQ.1.1
  obtain ⟨l0, l1, l2, l3, l4, l5, l6, l7, l8, ⟨N, hN, h6, hb⟩, l10, l11⟩ := hQ.2
  obtain ⟨S1, f1, g1, i1, x1⟩ := PgS_land (la := fR h q 0) hP.1
  have Q1e : ∀ a, PgT h q a ∨ (fR h q 0 ≤ a ∧ a < fR h q 0 + 8) → (sF h p 0 (.ref (fR h q 0)))[a]? = h[a]? := fun a ha => g1 a (fun g => (PgD_out hP.1 hQ hD ha).1 (Or.inl g))
  have Q1 := PgR_eq hQ Q1e
  have m1 : MoR (sF h p 0 (.ref (fR h q 0))) (p + 9) (pg_m P) := MoR_eq hP.2.2.2.1 (fun a h1 h2 => g1 a (by omega))
  rw [e56, b56_0, (PgS_okF S1).2.2.2.2.2.2.2.2.1, (PgS_okF Q1.1).2.2.2.2.2.2.2.2.1]
  refine ⟨(PgS_okF hQ.1).1, PgS_okP hP.1 (by decide), (PgS_okF S1).2.1, (PgS_okF Q1.1).2.1, (MoS_okF m1.1).2.2.2.2.2.2.2.2, ?_⟩
  refine c44 m1 Q1.2.2.2.1 (by omega) (fun h2 F2 m2 => ?_)
  have ep2 : h2[p]? = (sF h p 0 (.ref (fR h q 0)))[p]? := F2.2.2.2 p (by omega)
  have S2 : PgS h2 p := by
    obtain ⟨t0, t1, t2, t3, t4, t5, t6⟩ := S1
    have fs : fR h2 p 0 = fR (sF h p 0 (.ref (fR h q 0))) p 0 := by rw [fR_kd (h := h2), F2.1.1, ← fR_kd]
    refine ⟨t0, by rw [F2.1.1, fs]; exact t1, by rw [F2.1.1]; exact t2, by rw [F2.1.1]; exact t3, m2.1, fun i b hi hb => ?_, fun i j b hi hj g g' => ?_⟩
    · rw [F2.1.2] at hb
      obtain ⟨⟨m3, hm3⟩, hn⟩ := t5 i b hi hb
      exact ⟨⟨m3, hm3.fr F2 (by have := MoS_dis hm3.1 m1.1 hn; omega)⟩, hn⟩
    · rw [F2.1.2] at g g'
      exact t6 i j b hi hj g g'
  have x2 : ∀ c, xR h2 c = xR h c := fun c => by rw [F2.1.2, x1]
  have T2 : FrP (PgT h p) 0 0 h h2 := ⟨⟨by rw [F2.2.1, len_sF]; omega, by rw [F2.2.1, len_sF]; omega, by rw [F2.2.2.1, sl_sF]; omega, by rw [F2.2.2.1, sl_sF]; omega⟩, fun a ha hT => by
    have t1 : ¬ a = p := fun g => hT (Or.inl g)
    have t2 : ¬ (p + 9 ≤ a ∧ a < p + 21) := fun g => hT (Or.inr (Or.inl g))
    rw [F2.2.2.2 a (by omega), g1 a t1]⟩
  obtain ⟨Q2, y2, z2⟩ := PgR_out hP.1 hQ hD T2
  obtain ⟨S3, F3, g3⟩ := PgS_put S2 (k := 3) (Or.inl rfl) (ii (pg_u P2).length)
  rw [Q2.2.2.2.2.1]
  refine ⟨(PgS_okF Q2.1).2.2.2.1, PgS_okP S2 (by decide), ?_⟩
  -- the past
  refine Go_loop (fun k L' h' => L' = [some (.ref p), some (.ref q), some (.int (ii k))] ∧ PgS h' p ∧ FrP (PgT h p) (10 * k) (47 * k) h h' ∧ PgN h h' p ∧ fR h' p 0 = fR h q 0 ∧ MoR h' (p + 9) (pg_m P2) ∧ fI h' p 3 = ii (pg_u P2).length ∧ ∀ i, i < k → ∃ b, xR h' (p + 19) i = some b ∧ MoR h' b ((pg_u P2).getD i mo0)) (pg_u P2).length ?_ ?_ 0 _ _ (Nat.zero_le _) ⟨rfl, S3, ?_, ?_, ?_, ?_, ?_, fun i hi => absurd hi (Nat.not_lt_zero _)⟩
  · rintro k L' h' hk ⟨rfl, s1, s2, s3, s4, s5, s6, s7⟩ next
    have ek : ii (k : Int) + ii 1 = ii ((k + 1 : Nat) : Int) := by rw [ii_add]; rfl
    obtain ⟨Q', y', z'⟩ := PgR_out hP.1 hQ hD s2
    have St' : St h' := St_get hS (fun b hb => s2.2 b (by have := St_len hS; omega) (fun g => by
      rcases g with g | ⟨g1, g2⟩ | ⟨i, b2, hi, hb2, g1, g2⟩
      · omega
      · omega
      · have := (hP.1.2.2.2.2.2.1 i b2 hi hb2).1.S.1; omega))
    obtain ⟨bw, hbw, hmw⟩ := Q'.2.2.2.2.2.2.1 k hk
    have rq := PgS_past Q'.1 (show k < 20 by omega) hbw
    rw [b56_29, s6, if_neg (by rw [ii_le (by omega) (by omega) (by omega) (by omega)]; omega), (PgS_okF Q'.1).2.2.2.2.2.2.2.2.2.1, rq.2]
    refine ⟨(PgS_okF s1).2.2.2.1, (PgS_okF Q'.1).2.2.1, rq.1, (PgS_okF s1).2.2.2.2.2.2.2.2.2.2.2, ?_⟩
    have hbwl : bw < h.length := by
      rw [y'] at hbw
      have := MoS_lt (hQ.1.2.2.2.2.2.1 k bw (by omega) hbw).1.S
      omega
    refine c59 St' s1 (by omega) hmw (fun b hb e => ?_) (fun h3 b3 q1 q2 q3 q4 q5 => ?_)
    · subst e
      rw [y'] at hbw
      rcases s3 k b (by omega) hb with ⟨j', hj', hb'⟩ | g
      · exact hD.2.1 j' k b hj' (by omega) hb' hbw
      · omega
    · have s1' := s1
      have sub : ∀ a, a < h.length → (a = p + 19 ∨ ∃ b0, xR h' (p + 19) k = some b0 ∧ b0 ≤ a ∧ a < b0 + 10) → PgT h p a := fun a ha g => by
        rcases g with g | ⟨b0, g0, g1, g2⟩
        · exact Or.inr (Or.inl ⟨by omega, by omega⟩)
        · rcases s3 k b0 (by omega) g0 with ⟨j', hj', hb'⟩ | g
          · exact Or.inr (Or.inr ⟨j', b0, hj', hb', g1, g2⟩)
          · omega
      have hpl := PgS_lt s1
      have blk : ∀ a, a < h'.length → ¬ a = p + 19 → (∀ b0, xR h' (p + 19) k = some b0 → a < b0 ∨ b0 + 10 ≤ a) → h3[a]? = h'[a]? := fun a ha hn hb => q2.2 a ha (fun g => by
        rcases g with g | ⟨b0, g1, g2, g3⟩
        · exact hn g
        · rcases hb b0 g1 with g | g <;> omega)
      have pdk := fun b0 (e : xR h' (p + 19) k = some b0) => PgS_dis s1 (show k < 20 by omega) e
      have ep3 : h3[p]? = h'[p]? := blk p (by omega) (by omega) (fun b0 e => by have := pdk b0 e; omega)
      refine next _ _ ⟨by rw [ek], q1, (s2.tr q2 sub).wide (fun _ _ g => g) (by omega) (by omega), fun j b2 hj hb2 => ?_, ?_, ?_, ?_, fun i hi => ?_⟩
      · rw [q3] at hb2
        unfold upf at hb2
        by_cases c : j = k
        · rw [if_pos c] at hb2
          cases hb2
          rcases q5 with g | ⟨g, g'⟩
          · exact s3 k b3 (by omega) g
          · exact Or.inr (by have := s2.1.1; omega)
        · rw [if_neg c] at hb2
          exact s3 j b2 hj hb2
      · rw [fR_kd, same_kd ep3, ← fR_kd, s4]
      · exact MoR_eq s5 (fun a h1 h2 => blk a (by omega) (by omega) (fun b0 e => by have := pdk b0 e; omega))
      · rw [same_fI ep3, s6]
      · by_cases c : i = k
        · subst c
          exact ⟨b3, by rw [q3]; unfold upf; rw [if_pos rfl], q4⟩
        · obtain ⟨b2, hb2, hm2⟩ := s7 i (by omega)
          refine ⟨b2, by rw [q3]; unfold upf; rw [if_neg c]; exact hb2, ?_⟩
          have pd2 := PgS_dis s1 (show i < 20 by omega) hb2
          have hl2 := MoS_lt hm2.1
          refine MoR_eq hm2 (fun a h1 h2 => blk a (by omega) (by omega) (fun b0 e => ?_))
          have hne : ¬ b2 = b0 := fun g => c (s1.2.2.2.2.2.2 i k b2 (by omega) (by omega) hb2 (by rw [g]; exact e))
          have := MoS_dis hm2.1 (s1.2.2.2.2.2.1 k b0 (by omega) e).1.S hne
          omega
  · rintro L' h' ⟨rfl, s1, s2, s3, s4, s5, s6, s7⟩
    obtain ⟨Q', y', z'⟩ := PgR_out hP.1 hQ hD s2
    rw [b56_29, s6, if_pos (by rw [ii_le (by omega) (by omega) (by omega) (by omega)]; omega), Q'.2.2.2.2.2.2.2.1]
    obtain ⟨S5, F5, g5⟩ := PgS_put s1 (k := 4) (Or.inr (Or.inl rfl)) (ii (pg_t P2).length)
    refine ⟨(PgS_okF s1).2.2.2.1, (PgS_okF Q'.1).2.2.2.2.1, PgS_okP s1 (by decide), ?_⟩
    -- the trials
    refine Go_loop (fun k L' h'' => L' = [some (.ref p), some (.ref q), some (.int (ii k))] ∧ PgS h'' p ∧ Sk h' h'' ∧ h''.length = h'.length ∧ mSlots h'' = mSlots h' ∧ (∀ a, ¬ a = p → ¬ a = p + 20 → h''[a]? = h'[a]?) ∧ (∀ j, fI h'' p j = if j = 4 then ii (pg_t P2).length else fI h' p j) ∧ ∀ t, t < k → xA h'' (p + 20) t = ii ((pg_t P2).getD t (0, false)).1) (pg_t P2).length ?_ ?_ 0 _ _ (Nat.zero_le _) ⟨rfl, S5, F5.1, F5.2.1, F5.2.2.1, fun a h1 h2 => F5.2.2.2 a (by omega), g5, fun i hi => absurd hi (Nat.not_lt_zero _)⟩
    · rintro k L' h'' hk ⟨rfl, u1, u2, u3, u4, u5, u6, u7⟩ next
      have ek : ii (k : Int) + ii 1 = ii ((k + 1 : Nat) : Int) := by rw [ii_add]; rfl
      have qq : ∀ a, a = q ∨ a = q + 20 → h''[a]? = h'[a]? := fun a ha => u5 a (by omega) (by omega)
      have kq : kd h'' q = kd h' q := same_kd (qq q (Or.inl rfl))
      have k20p : kd h'' (p + 20) = (1, 1, [10]) := u1.2.2.2.1
      have k20q : kd h'' (q + 20) = (1, 1, [10]) := by rw [same_kd (qq _ (Or.inr rfl))]; exact Q'.1.2.2.2.1
      have rp := row_ok k20p (show k < 10 by omega) (by omega)
      have rq := row_ok k20q (show k < 10 by omega) (by omega)
      have fq5 : fR h'' q 5 = q + 20 := by rw [fR_kd, kq, ← fR_kd]; exact (PgS_okF Q'.1).2.2.2.2.2.2.2.2.2.2.1
      have oq5 : okF h'' q 4 5 2 := by rw [okF_kd, kq, ← okF_kd]; exact (PgS_okF Q'.1).2.2.2.2.2.1
      rw [b56_64, u6, if_pos rfl, if_neg (by rw [ii_le (by omega) (by omega) (by omega) (by omega)]; omega), (PgS_okF u1).2.2.2.2.2.2.2.2.2.2.1, fq5, rq.2]
      refine ⟨(PgS_okF u1).2.2.2.2.1, (PgS_okF u1).2.2.2.2.2.1, oq5, rq.1, ⟨by omega, rp.1⟩, ?_⟩
      have F6 : Fr (p + 20) 1 h'' (sI h'' (p + 20) (ii k) (xA h'' (q + 20) k)) := Fr.sI
      refine next _ _ ⟨by rw [ek], PgS_fr u1 F6 (by omega), u2.tr F6.1, by rw [F6.2.1, u3], by rw [F6.2.2.1, u4], fun a h1 h2 => by rw [F6.2.2.2 a (by omega), u5 a h1 h2], fun j => by rw [fI_sI, u6], fun t ht => ?_⟩
      rw [sI_row k20p (show k < 10 by omega) (by omega), if_pos rfl]
      unfold upf
      by_cases c : t = k
      · rw [if_pos c, same_xA (qq _ (Or.inr rfl)), c]
        exact Q'.2.2.2.2.2.2.2.2.2.1 k hk
      · rw [if_neg c]
        exact u7 t (by omega)
    · rintro L' h'' ⟨rfl, u1, u2, u3, u4, u5, u6, u7⟩
      have qq : ∀ a, a = q ∨ a = q + 20 → h''[a]? = h'[a]? := fun a ha => u5 a (by omega) (by omega)
      have kq : kd h'' q = kd h' q := same_kd (qq q (Or.inl rfl))
      have fq : ∀ j, fI h'' q j = fI h' q j := fun j => same_fI (qq q (Or.inl rfl)) j
      obtain ⟨N', hN', h6', hb'⟩ := Q'.2.2.2.2.2.2.2.2.2.2.1
      have h7' := Q'.2.2.2.2.2.2.2.2.2.2.2.1
      rw [b56_64, u6, if_pos rfl, if_pos (by rw [ii_le (by omega) (by omega) (by omega) (by omega)]; omega), fq, h6']
      obtain ⟨S7, F7, g7⟩ := PgS_put u1 (k := 6) (Or.inr (Or.inr (Or.inl rfl))) (ii (N' : Int))
      have kq7 : ∀ h3 : mHeap, Sk h'' h3 → okF h3 q 4 7 0 := fun h3 s => by rw [okF_kd, s.1, kq, ← okF_kd]; exact (PgS_okF Q'.1).2.2.2.2.2.2.2.1
      have oq6 : okF h'' q 4 6 0 := by rw [okF_kd, kq, ← okF_kd]; exact (PgS_okF Q'.1).2.2.2.2.2.2.1
      have fq7 : fI (sF h'' p 6 (.int (ii (N' : Int)))) q 7 = ii (pg_x P2) := by rw [same_fI (F7.2.2.2 q (by omega)), fq, h7']
      rw [fq7]
      obtain ⟨S8, F8, g8⟩ := PgS_put S7 (k := 7) (Or.inr (Or.inr (Or.inr rfl))) (ii (pg_x P2))
      refine ⟨(PgS_okF u1).2.2.2.2.1, oq6, PgS_okP u1 (by decide), kq7 _ F7.1, PgS_okP S7 (by decide), ?_⟩
      rw [rV_s]
      generalize hH : sF (sF h'' p 6 (.int (ii (N' : Int)))) p 7 (.int (ii (pg_x P2))) = h9 at *
      have o9 : ∀ a, ¬ a = p → ¬ a = p + 20 → h9[a]? = h'[a]? := fun a h1 h2 => by rw [F8.2.2.2 a (by omega), F7.2.2.2 a (by omega), u5 a h1 h2]
      have kk : ∀ c, kd h9 c = kd h' c := fun c => by rw [F8.1.1, F7.1.1, u2.1]
      have xx : ∀ c, xR h9 c = xR h' c := fun c => by rw [F8.1.2, F7.1.2, u2.2]
      have gg : ∀ j, fI h9 p j = if j = 7 then ii (pg_x P2) else if j = 6 then ii (N' : Int) else if j = 4 then ii (pg_t P2).length else fI h' p j := fun j => by rw [g8, g7, u6]
      have f09 : fR h9 p 0 = fR h q 0 := by rw [fR_kd, kk, ← fR_kd, s4]
      have hLd := PgS_La s1 (Q'.2.1).1
      rw [z'] at hLd
      have hL' := Q'.2.1
      rw [z'] at hL'
      refine hK h9 ⟨S8, by rw [f09]; exact LaR_eq hL' (fun c h1 h2 => o9 c (by omega) (by omega)), l1, MoR_eq s5 (fun a h1 h2 => o9 a (by omega) (by omega)), by rw [gg]; exact s6, l4, fun i hi => ?_, by rw [gg]; rfl, l7, fun t ht => ?_, ⟨N', hN', by rw [gg]; rfl, hb'⟩, by rw [gg]; rfl, l11⟩ ⟨⟨?_, ?_, ?_, ?_⟩, fun a ha hT => ?_⟩ (fun j b hj hb => ?_) f09
      · obtain ⟨b2, hb2, hm2⟩ := s7 i hi
        have pd2 := PgS_dis s1 (show i < 20 by omega) hb2
        exact ⟨b2, by rw [xx]; exact hb2, MoR_eq hm2 (fun a h1 h2 => o9 a (by omega) (by omega))⟩
      · rw [same_xA (F8.2.2.2 (p + 20) (by omega)), same_xA (F7.2.2.2 (p + 20) (by omega))]
        exact u7 t ht
      · rw [F8.2.1, F7.2.1, u3]; exact s2.1.1
      · rw [F8.2.1, F7.2.1, u3]; have := s2.1.2.1; omega
      · rw [F8.2.2.1, F7.2.2.1, u4]; exact s2.1.2.2.1
      · rw [F8.2.2.1, F7.2.2.1, u4]; have := s2.1.2.2.2; omega
      · have t1 : ¬ a = p := fun g => hT (Or.inl g)
        have t2 : ¬ (p + 9 ≤ a ∧ a < p + 21) := fun g => hT (Or.inr (Or.inl g))
        rw [o9 a t1 (by omega), s2.2 a ha hT]
      · rw [xx] at hb
        exact s3 j b hj hb
  · refine (T2.tr F3.toP (T' := fun a => p ≤ a ∧ a < p + 1) (fun a _ g => Or.inl (by omega))).wide (fun _ _ g => g) (by omega) (by omega)
  · intro j b hj hb
    rw [F3.1.2, x2] at hb
    exact Or.inl ⟨j, hj, hb⟩
  · rw [fR_kd, F3.1.1, F2.1.1, ← fR_kd, f1]
  · exact m2.fr F3 (by omega)
  · rw [g3, if_pos rfl]
end Copy
