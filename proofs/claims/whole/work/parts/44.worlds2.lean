/-! Worlds: spread, the least world beyond, facts that are settled -/
section W2
variable {d : Nat} {h : mHeap} {a b : Nat}
theorem c125 {K : Int64 → mHeap → Prop} {y w : Int64} {s : Int32} : GoCj (d + 1) 125 [.long y, .long w, .int s] h K ↔ K ((y ||| (lushr (y &&& w) s)) ||| ((lshl y s) &&& w)) h := by
  rw [e125, b125_0, rJ_s]
theorem jb_lushr {x : Int64} {k i : Nat} (hk : k < 64) : (lushr x (ii k)).toBitVec.getLsbD i = x.toBitVec.getLsbD (k + i) := by
  have e := nJ_shr x hk
  have hb : ∀ (z : Int64) i, z.toBitVec.getLsbD i = (nJ64 z).testBit i := fun z i => (BitVec.testBit_toNat z.toBitVec).symm
  rw [hb, hb, e, Nat.testBit_div_two_pow, Nat.add_comm]
theorem lsh_c : ∀ k, k < 64 → (((ii (k : Nat)).toInt64 &&& 63).toBitVec.smod 64).toNat = k := by decide +kernel
theorem jb_lshl {x : Int64} {k i : Nat} (hk : k < 64) (hi : i < 64) : (lshl x (ii k)).toBitVec.getLsbD i = (decide (k ≤ i) && x.toBitVec.getLsbD (i - k)) := by
  unfold lshl
  rw [Int64.toBitVec_shiftLeft]
  show (x.toBitVec <<< (((ii (k : Nat)).toInt64 &&& 63).toBitVec.smod 64).toNat).getLsbD i = _
  rw [lsh_c k hk, BitVec.getLsbD_shiftLeft]
  by_cases q : i < k
  · simp [q, show ¬ k ≤ i by omega]
  · simp [q, hi, show k ≤ i by omega]
theorem low_j : ∀ f, f < 6 → ∀ i, i < 64 → (mLow.getD f 0).toBitVec.getLsbD i = i.testBit f := by decide +kernel
theorem low_nj0 : ∀ f, f < 6 → ∀ i, i < 64 → 2 ^ f < 64 ∧ (¬ i.testBit f = false ∨ (2 ^ f + i < 64 ∧ (2 ^ f + i).testBit f = true ∧ 2 ^ f + i = i ^^^ 2 ^ f)) ∧ (¬ i.testBit f = true ∨ ((¬ 2 ^ f + i < 64 ∨ (2 ^ f + i).testBit f = false) ∧ 2 ^ f ≤ i ∧ i - 2 ^ f = i ^^^ 2 ^ f)) := by decide +kernel
theorem low_nj (f : Nat) (hf : f < 6) (i : Nat) (hi : i < 64) : 2 ^ f < 64 ∧ (i.testBit f = false → (2 ^ f + i < 64 ∧ (2 ^ f + i).testBit f = true ∧ 2 ^ f + i = i ^^^ 2 ^ f)) ∧ (i.testBit f = true → ((2 ^ f + i < 64 → (2 ^ f + i).testBit f = false) ∧ 2 ^ f ≤ i ∧ i - 2 ^ f = i ^^^ 2 ^ f)) := by
  obtain ⟨g1, g2, g3⟩ := low_nj0 f hf i hi
  refine ⟨g1, fun q => g2.resolve_left (fun n => n q), fun q => ?_⟩
  have := g3.resolve_left (fun n => n q)
  exact ⟨fun c => this.1.resolve_left (fun n => n c), this.2⟩
theorem low_x : ∀ f, f < 6 → ∀ i, i < 256 → (i / 64 = (i ^^^ 2 ^ f) / 64 ∧ (i ^^^ 2 ^ f) % 64 = (i % 64) ^^^ 2 ^ f) := by decide +kernel
theorem sp_row {y : Int64} {f : Nat} (hf : f < 6) {i : Nat} (hi : i < 64) : ((y ||| (lushr (y &&& mLow.getD f 0) (ii (2 ^ f : Nat)))) ||| ((lshl y (ii (2 ^ f : Nat))) &&& mLow.getD f 0)).toBitVec.getLsbD i = (y.toBitVec.getLsbD i || y.toBitVec.getLsbD (i ^^^ 2 ^ f)) := by
  obtain ⟨h0, h1, h2⟩ := low_nj f hf i hi
  rw [jb_or, jb_or, jb_and, jb_lushr h0, jb_and, jb_lshl h0 hi, low_j f hf i hi]
  cases ht : i.testBit f with
  | false =>
    obtain ⟨g1, g2, g3⟩ := h1 ht
    rw [low_j f hf _ g1, g2, ← g3]
    simp
  | true =>
    obtain ⟨g1, g2, g3⟩ := h2 ht
    have : (y.toBitVec.getLsbD (2 ^ f + i) && (mLow.getD f 0).toBitVec.getLsbD (2 ^ f + i)) = false := by
      by_cases q : 2 ^ f + i < 64
      · rw [low_j f hf _ q, g1 q]; simp
      · rw [BitVec.getLsbD_of_ge y.toBitVec _ (by omega)]; simp
    rw [this, g3]
    simp [g2]
theorem w4_sel {x0 x1 x2 x3 : Int64} {i : Nat} : w4 x0 x1 x2 x3 i = if i / 64 = 0 then x0.toBitVec.getLsbD (i % 64) else if i / 64 = 1 then x1.toBitVec.getLsbD (i % 64) else if i / 64 = 2 then x2.toBitVec.getLsbD (i % 64) else if i / 64 = 3 then x3.toBitVec.getLsbD (i % 64) else false := by
  unfold w4
  by_cases h0 : i < 64
  · rw [if_pos h0, if_pos (show i / 64 = 0 by omega), Nat.mod_eq_of_lt h0]
  · rw [if_neg h0, if_neg (show ¬ i / 64 = 0 by omega)]
    by_cases h1 : i < 128
    · rw [if_pos h1, if_pos (show i / 64 = 1 by omega), show i % 64 = i - 64 by omega]
    · rw [if_neg h1, if_neg (show ¬ i / 64 = 1 by omega)]
      by_cases h2 : i < 192
      · rw [if_pos h2, if_pos (show i / 64 = 2 by omega), show i % 64 = i - 128 by omega]
      · rw [if_neg h2, if_neg (show ¬ i / 64 = 2 by omega)]
        by_cases h3 : i < 256
        · rw [if_pos (show i / 64 = 3 by omega), show i % 64 = i - 192 by omega]
        · rw [if_neg (show ¬ i / 64 = 3 by omega)]
          exact BitVec.getLsbD_of_ge _ _ (by omega)
theorem x6 : ∀ i, i < 256 → ((i ^^^ 2 ^ 6) % 64 = i % 64 ∧ (i / 64 = 0 → (i ^^^ 2 ^ 6) / 64 = 1) ∧ (i / 64 = 1 → (i ^^^ 2 ^ 6) / 64 = 0) ∧ (i / 64 = 2 → (i ^^^ 2 ^ 6) / 64 = 3) ∧ (i / 64 = 3 → (i ^^^ 2 ^ 6) / 64 = 2)) := by decide +kernel
theorem x7 : ∀ i, i < 256 → ((i ^^^ 2 ^ 7) % 64 = i % 64 ∧ (i / 64 = 0 → (i ^^^ 2 ^ 7) / 64 = 2) ∧ (i / 64 = 1 → (i ^^^ 2 ^ 7) / 64 = 3) ∧ (i / 64 = 2 → (i ^^^ 2 ^ 7) / 64 = 0) ∧ (i / 64 = 3 → (i ^^^ 2 ^ 7) / 64 = 1)) := by decide +kernel
theorem c124 {K : mHeap → Prop} (hS : St h) (hA : WS h a) {f : Nat} (hf : f < 8) : GoCv (d + 2) 124 [.ref a, .int (ii f)] h K ↔ K (pW h a (fun i => wo h a i || wo h a (i ^^^ 2 ^ f))) := by
  rw [e124, b124_0, if_neg (by rw [ii_lt (by omega) (by omega) (by omega) (by omega)]; omega), (L_ok hS).2]
  simp only [L_ok hS, true_and]
  by_cases h6 : f < 6
  · rw [if_neg (by rw [ii_le (by omega) (by omega) (by omega) (by omega)]; omega)]
    have hs : shl (ii 1) (ii (f : Nat)) = ii ((2 ^ f : Nat) : Int) := by
      rw [shl_ii 1 (by omega), Int.one_mul]
      congr 1
      try simp
    simp only [L_okJ hS h6, true_and, W_ok hA, c125, hs]
    rw [c116 hA, rV_s, pW_cong (fun i hi => ?_)]
    obtain ⟨q1, q2⟩ := low_x f h6 i hi
    have hm : i % 64 < 64 := Nat.mod_lt _ (by decide)
    rw [w4_sel, sp_row h6 hm, sp_row h6 hm, sp_row h6 hm, sp_row h6 hm]
    unfold wo
    rw [w4_sel, w4_sel (i := i ^^^ 2 ^ f), ← q1, q2]
    split
    · rfl
    · split
      · rfl
      · split
        · rfl
        · split <;> rfl
  · rw [if_pos (by rw [ii_le (by omega) (by omega) (by omega) (by omega)]; omega), b124_70]
    by_cases q : f = 6
    · subst q
      rw [if_neg (by exact fun g => g rfl)]
      simp only [W_ok hA, true_and]
      rw [c116 hA, rV_s, pW_cong (fun i hi => ?_)]
      obtain ⟨q0, q1, q2, q3, q4⟩ := x6 i hi
      unfold wo
      rw [w4_sel, w4_sel (i := i), w4_sel (i := i ^^^ 2 ^ 6), q0]
      simp only [jb_or]
      obtain p | p | p | p : i / 64 = 0 ∨ i / 64 = 1 ∨ i / 64 = 2 ∨ i / 64 = 3 := by omega
      · simp [p, q1 p]
      · simp [p, q2 p, Bool.or_comm]
      · simp [p, q3 p]
      · simp [p, q4 p, Bool.or_comm]
    · have q : f = 7 := by omega
      subst q
      rw [if_pos (by decide)]
      simp only [W_ok hA, true_and]
      rw [c116 hA, rV_s, pW_cong (fun i hi => ?_)]
      obtain ⟨q0, q1, q2, q3, q4⟩ := x7 i hi
      unfold wo
      rw [w4_sel, w4_sel (i := i), w4_sel (i := i ^^^ 2 ^ 7), q0]
      simp only [jb_or]
      obtain p | p | p | p : i / 64 = 0 ∨ i / 64 = 1 ∨ i / 64 = 2 ∨ i / 64 = 3 := by omega
      · simp [p, q1 p]
      · simp [p, q2 p]
      · simp [p, q3 p, Bool.or_comm]
      · simp [p, q4 p, Bool.or_comm]
/-! the least -/
theorem cB_lt (k : Nat) : ∀ n, k ≤ n → cB (fun i => decide (i < k)) n = k
  | 0, h => by
    have : k = 0 := by omega
    subst this; rfl
  | n + 1, h => by
    unfold cB
    by_cases q : k ≤ n
    · rw [cB_lt k n q, if_neg (by simp; omega)]
      rfl
    · have : k = n + 1 := by omega
      subst this
      rw [cB_cong (u := fun i => decide (i < n + 1)) (v := fun i => decide (i < n)) (n := n) (fun i hi => by simp [hi, Nat.lt_succ_of_lt hi]), cB_lt n n (Nat.le_refl _), if_pos (by simp)]
theorem low_and {n u v : Nat} (h : u + v = 2 ^ n - 1) : u &&& v = 0 := by
  have hv : v = 2 ^ n - (u + 1) := by omega
  have hu : u < 2 ^ n := by have := Nat.two_pow_pos n; omega
  apply Nat.eq_of_testBit_eq
  intro i
  rw [Nat.testBit_and, hv, Nat.testBit_two_pow_sub_succ hu]
  simp only [Nat.zero_testBit]
  cases u.testBit i <;> simp
theorem low_bits {x : Int64} {k : Nat} (hk : k < 64) (h1 : x.toBitVec.getLsbD k = true) (h0 : ∀ i, i < k → x.toBitVec.getLsbD i = false) : nJ64 ((x &&& -x) - jj 1) = 2 ^ k - 1 := by
  have hb : ∀ i, x.toBitVec.getLsbD i = (nJ64 x).testBit i := fun i => (BitVec.testBit_toNat x.toBitVec).symm
  rw [hb] at h1
  have hl := nJ_lt x
  generalize hX : nJ64 x = X at h1 hl
  have hm : X % 2 ^ k = 0 := by
    apply Nat.eq_of_testBit_eq
    intro i
    rw [Nat.testBit_mod_two_pow, Nat.zero_testBit]
    by_cases q : i < k
    · have := h0 i q
      rw [hb, hX] at this
      simp [this]
    · simp [q]
  have hq : X = 2 ^ k * (X / 2 ^ k) := by
    have := Nat.div_add_mod X (2 ^ k)
    omega
  have hodd : (X / 2 ^ k) % 2 = 1 := by
    rw [Nat.testBit_eq_decide_div_mod_eq] at h1
    exact of_decide_eq_true h1
  have hneg : nJ64 (-x) = 2 ^ 64 - X := by
    unfold nJ64
    rw [Int64.toBitVec_neg, BitVec.toNat_neg]
    have : x.toBitVec.toNat = X := hX
    rw [this]
    apply Nat.mod_eq_of_lt
    have : 0 < X := by
      rcases Nat.eq_zero_or_pos X with z | z
      · rw [z] at h1; simp at h1
      · exact z
    omega
  have hand : nJ64 (x &&& -x) = 2 ^ k := by
    rw [nJ_and, hX, hneg]
    generalize X / 2 ^ k = q at hq hodd
    have hp : 2 ^ 64 = 2 ^ k * 2 ^ (64 - k) := by rw [← Nat.pow_add]; congr 1; omega
    have hp2 : 2 ^ (64 - k) = 2 * 2 ^ (63 - k) := by rw [show 64 - k = (63 - k) + 1 by omega, Nat.pow_succ, Nat.mul_comm]
    have hql : q < 2 ^ (64 - k) := by
      have : 2 ^ k * q < 2 ^ k * 2 ^ (64 - k) := by rw [← hp, ← hq]; exact hl
      exact Nat.lt_of_mul_lt_mul_left this
    have e1 : 2 ^ 64 - X = 2 ^ k * (2 ^ (64 - k) - q) := by rw [Nat.mul_sub, ← hp, ← hq]
    rw [e1, hq]
    have e2 : (2 ^ k * q) &&& (2 ^ k * (2 ^ (64 - k) - q)) = 2 ^ k * (q &&& (2 ^ (64 - k) - q)) := by
      apply Nat.eq_of_testBit_eq
      intro i
      rw [Nat.testBit_and, Nat.testBit_two_pow_mul, Nat.testBit_two_pow_mul, Nat.testBit_two_pow_mul, Nat.testBit_and]
      cases decide (i ≥ k) <;> simp
    rw [e2]
    obtain ⟨u, rfl⟩ : ∃ u, q = 2 * u + 1 := ⟨q / 2, by omega⟩
    obtain ⟨v, hv⟩ : ∃ v, 2 ^ (64 - k) - (2 * u + 1) = 2 * v + 1 ∧ u + v = 2 ^ (63 - k) - 1 := ⟨2 ^ (63 - k) - 1 - u, by omega, by omega⟩
    rw [hv.1]
    have e3 : (2 * u + 1) &&& (2 * v + 1) = 2 * (u &&& v) + 1 := by
      apply Nat.eq_of_testBit_eq
      intro i
      cases i with
      | zero => simp
      | succ i =>
        rw [Nat.testBit_and]
        simp only [Nat.testBit_succ]
        rw [show (2 * u + 1) / 2 = u by omega, show (2 * v + 1) / 2 = v by omega, show (2 * (u &&& v) + 1) / 2 = u &&& v by omega, Nat.testBit_and]
    rw [e3, low_and hv.2]
    simp
  rw [nJ_sub (by rw [hand]; have := Nat.two_pow_pos k; rw [show nJ64 (jj 1) = 1 from by decide]; omega), hand]
  rfl
theorem c132 {K : Int32 → mHeap → Prop} {x : Int64} {k : Nat} (hk : k < 64) (h1 : x.toBitVec.getLsbD k = true) (h0 : ∀ i, i < k → x.toBitVec.getLsbD i = false) : GoCi (d + 2) 132 [.long x] h K ↔ K (ii k) h := by
  rw [e132, b132_0]
  simp only [c318, rI_s]
  have : cB (fun i => ((x &&& -x) - jj 1).toBitVec.getLsbD i) 64 = k := by
    rw [cB_cong (v := fun i => decide (i < k)) (fun i _ => ?_), cB_lt k 64 (by omega)]
    rw [← BitVec.testBit_toNat]
    show (nJ64 ((x &&& -x) - jj 1)).testBit i = _
    rw [low_bits hk h1 h0, Nat.testBit_two_pow_sub_one]
  rw [this]
theorem j_fst (x : Int64) (hx : ¬ x = jj 0) : ∃ k, k < 64 ∧ x.toBitVec.getLsbD k = true ∧ ∀ i, i < k → x.toBitVec.getLsbD i = false := by
  obtain ⟨r, h | ⟨k, k1, k2, k3, k4⟩⟩ := isFst_ex (fun i => x.toBitVec.getLsbD i) 64
  · exact absurd (j_ext fun i hi => by rw [jb_0]; exact h.2 i hi) hx
  · exact ⟨k, k1, k3, k4⟩
theorem c131 {K : Int32 → mHeap → Prop} (hA : WS h a) (hB : WS h b) {r : Int} (hr : isFst (fun i => wo h a i && !wo h b i) 256 r) : GoCi (d + 3) 131 [.ref a, .ref b] h K ↔ K (ii r) h := by
  rw [e131, b131_0]
  simp only [W_ok hA, W_ok hB, true_and, rI_s, lcmp_eq]
  have hb : ∀ i, i < 256 → (wo h a i && !wo h b i) = w4 (fJ h a 0 &&& (fJ h b 0 ^^^ jj (-1))) (fJ h a 1 &&& (fJ h b 1 ^^^ jj (-1))) (fJ h a 2 &&& (fJ h b 2 ^^^ jj (-1))) (fJ h a 3 &&& (fJ h b 3 ^^^ jj (-1))) i := fun i hi => by
    rw [w4_and, w4_not hi]; rfl
  generalize fJ h a 0 &&& (fJ h b 0 ^^^ jj (-1)) = x0 at hb
  generalize fJ h a 1 &&& (fJ h b 1 ^^^ jj (-1)) = x1 at hb
  generalize fJ h a 2 &&& (fJ h b 2 ^^^ jj (-1)) = x2 at hb
  generalize fJ h a 3 &&& (fJ h b 3 ^^^ jj (-1)) = x3 at hb
  have s0 : ∀ i, i < 64 → (wo h a i && !wo h b i) = x0.toBitVec.getLsbD i := fun i hi => by rw [hb i (by omega)]; unfold w4; rw [if_pos hi]
  have s1 : ∀ i, i < 64 → (wo h a (64 + i) && !wo h b (64 + i)) = x1.toBitVec.getLsbD i := fun i hi => by rw [hb _ (by omega)]; unfold w4; rw [if_neg (by omega), if_pos (by omega), show 64 + i - 64 = i by omega]
  have s2 : ∀ i, i < 64 → (wo h a (128 + i) && !wo h b (128 + i)) = x2.toBitVec.getLsbD i := fun i hi => by rw [hb _ (by omega)]; unfold w4; rw [if_neg (by omega), if_neg (by omega), if_pos (by omega), show 128 + i - 128 = i by omega]
  have s3 : ∀ i, i < 64 → (wo h a (192 + i) && !wo h b (192 + i)) = x3.toBitVec.getLsbD i := fun i hi => by rw [hb _ (by omega)]; unfold w4; rw [if_neg (by omega), if_neg (by omega), if_neg (by omega), show 192 + i - 192 = i by omega]
  have z : ∀ {x : Int64}, x = jj 0 → ∀ i, x.toBitVec.getLsbD i = false := fun e i => by rw [e, jb_0]
  by_cases q0 : x0 = jj 0
  · rw [if_pos q0]
    by_cases q1 : x1 = jj 0
    · rw [if_pos q1]
      by_cases q2 : x2 = jj 0
      · rw [if_pos q2]
        by_cases q3 : x3 = jj 0
        · rw [if_pos q3]
          have : isFst (fun i => wo h a i && !wo h b i) 256 (-2) := Or.inl ⟨rfl, fun i hi => by
            show (wo h a i && !wo h b i) = false
            rw [hb i hi, (w4_zero.mpr ⟨q0, q1, q2, q3⟩) i hi]⟩
          rw [isFst_uniq hr this]
        · rw [if_neg q3]
          obtain ⟨k, k1, k2, k3⟩ := j_fst x3 q3
          rw [c132 k1 k2 k3, show ii 192 + ii (k : Int) = ii (192 + k) from ii_add _ _]
          have : isFst (fun i => wo h a i && !wo h b i) 256 ((192 + k : Nat) : Int) := Or.inr ⟨192 + k, by omega, rfl, by show (_ && _) = true; rw [s3 k k1, k2], fun i hi => by
            show (_ && _) = false
            by_cases c : i < 64
            · rw [s0 i c, z q0]
            · by_cases c1 : i < 128
              · have := s1 (i - 64) (by omega); rw [show 64 + (i - 64) = i by omega] at this; rw [this, z q1]
              · by_cases c2 : i < 192
                · have := s2 (i - 128) (by omega); rw [show 128 + (i - 128) = i by omega] at this; rw [this, z q2]
                · have := s3 (i - 192) (by omega); rw [show 192 + (i - 192) = i by omega] at this; rw [this, k3 _ (by omega)]⟩
          rw [isFst_uniq hr this]
          simp
      · rw [if_neg q2]
        obtain ⟨k, k1, k2, k3⟩ := j_fst x2 q2
        rw [c132 k1 k2 k3, show ii 128 + ii (k : Int) = ii (128 + k) from ii_add _ _]
        have : isFst (fun i => wo h a i && !wo h b i) 256 ((128 + k : Nat) : Int) := Or.inr ⟨128 + k, by omega, rfl, by show (_ && _) = true; rw [s2 k k1, k2], fun i hi => by
          show (_ && _) = false
          by_cases c : i < 64
          · rw [s0 i c, z q0]
          · by_cases c1 : i < 128
            · have := s1 (i - 64) (by omega); rw [show 64 + (i - 64) = i by omega] at this; rw [this, z q1]
            · have := s2 (i - 128) (by omega); rw [show 128 + (i - 128) = i by omega] at this; rw [this, k3 _ (by omega)]⟩
        rw [isFst_uniq hr this]
        simp
    · rw [if_neg q1]
      obtain ⟨k, k1, k2, k3⟩ := j_fst x1 q1
      rw [c132 k1 k2 k3, show ii 64 + ii (k : Int) = ii (64 + k) from ii_add _ _]
      have : isFst (fun i => wo h a i && !wo h b i) 256 ((64 + k : Nat) : Int) := Or.inr ⟨64 + k, by omega, rfl, by show (_ && _) = true; rw [s1 k k1, k2], fun i hi => by
        show (_ && _) = false
        by_cases c : i < 64
        · rw [s0 i c, z q0]
        · have := s1 (i - 64) (by omega); rw [show 64 + (i - 64) = i by omega] at this; rw [this, k3 _ (by omega)]⟩
      rw [isFst_uniq hr this]
      simp
  · rw [if_neg q0]
    obtain ⟨k, k1, k2, k3⟩ := j_fst x0 q0
    rw [c132 k1 k2 k3]
    have : isFst (fun i => wo h a i && !wo h b i) 256 (k : Int) := Or.inr ⟨k, by omega, rfl, by show (_ && _) = true; rw [s0 k k1, k2], fun i hi => by
      show (_ && _) = false
      rw [s0 i (by omega), k3 i hi]⟩
    rw [isFst_uniq hr this]
end W2
