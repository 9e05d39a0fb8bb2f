/-! THE CLASS Worlds: what each of its methods does to a set -/
def St (h : mHeap) : Prop := ∃ X, ∀ a, a < 64 → h[a]? = (mS0 X)[a]?
theorem St_1 {h : mHeap} (hS : St h) : h[1]? = some (mJ mLow) := by
  obtain ⟨X, hX⟩ := hS
  rw [hX 1 (by decide)]
  rfl
theorem St_kd {h : mHeap} (hS : St h) : kd h 1 = (2, 0, [6]) := kd_some (St_1 hS)
theorem St_xJ {h : mHeap} (hS : St h) (f : Nat) : xJ h 1 f = mLow.getD f 0 := by
  unfold xJ
  rw [aJ_at (St_1 hS)]
/-- a truth as an int -/
def bI (p : Prop) [Decidable p] : Int32 := if p then ii 1 else ii 0
theorem bI_0 {p : Prop} [Decidable p] : bI p = ii 0 ↔ ¬ p := ii_bne0
theorem bI_01 {p : Prop} [Decidable p] : (bI p = ii 0 ∨ bI p = ii 1) ↔ True := ii01
theorem bI_if {p : Prop} [Decidable p] {G : Int32 → Prop} : (if p then G (ii 1) else G (ii 0)) ↔ G (bI p) := by
  unfold bI
  split <;> exact Iff.rfl
def sub (u v : Nat → Bool) : Prop := ∀ i, i < 256 → u i = true → v i = true
def dis (u v : Nat → Bool) : Prop := ∀ i, i < 256 → u i = true → v i = false
noncomputable def bP (p : Prop) : Int32 := by
  classical
  exact if p then ii 1 else ii 0
theorem bP_t {p : Prop} (h : p) : bP p = ii 1 := by unfold bP; rw [if_pos h]
theorem bP_f {p : Prop} (h : ¬ p) : bP p = ii 0 := by unfold bP; rw [if_neg h]
theorem bP_0 {p : Prop} : bP p = ii 0 ↔ ¬ p := by
  by_cases h : p
  · rw [bP_t h]; simp [h]; decide
  · rw [bP_f h]; simp [h]
theorem bP_01 {p : Prop} : (bP p = ii 0 ∨ bP p = ii 1) ↔ True := by
  by_cases h : p
  · rw [bP_t h]; simp
  · rw [bP_f h]; simp
theorem bP_cong {p q : Prop} (h : p ↔ q) : bP p = bP q := by
  by_cases c : p
  · rw [bP_t c, bP_t (h.mp c)]
  · rw [bP_f c, bP_f (fun g => c (h.mpr g))]
/-- the first of the first n that is so, or -2 -/
def isFst (w : Nat → Bool) (n : Nat) (r : Int) : Prop := (r = -2 ∧ ∀ i, i < n → w i = false) ∨ ∃ k : Nat, k < n ∧ r = k ∧ w k = true ∧ ∀ i, i < k → w i = false
theorem isFst_uniq {w : Nat → Bool} {n : Nat} {r s : Int} (h1 : isFst w n r) (h2 : isFst w n s) : r = s := by
  rcases h1 with ⟨h1, g1⟩ | ⟨k, k1, k2, k3, k4⟩ <;> rcases h2 with ⟨h2, g2⟩ | ⟨l, l1, l2, l3, l4⟩
  · rw [h1, h2]
  · rw [g1 l l1] at l3; cases l3
  · rw [g2 k k1] at k3; cases k3
  · rw [k2, l2]
    rcases Nat.lt_trichotomy k l with q | q | q
    · rw [l4 k q] at k3; cases k3
    · rw [q]
    · rw [k4 l q] at l3; cases l3
theorem isFst_ex (w : Nat → Bool) (n : Nat) : ∃ r, isFst w n r := by
  induction n with
  | zero => exact ⟨-2, Or.inl ⟨rfl, fun i hi => absurd hi (Nat.not_lt_zero _)⟩⟩
  | succ n ih =>
    obtain ⟨r, h | ⟨k, k1, k2, k3, k4⟩⟩ := ih
    · cases hw : w n with
      | true => exact ⟨n, Or.inr ⟨n, by omega, rfl, hw, h.2⟩⟩
      | false => exact ⟨-2, Or.inl ⟨rfl, fun i hi => by
          rcases Nat.lt_succ_iff_lt_or_eq.mp hi with q | q
          · exact h.2 i q
          · subst q; exact hw⟩⟩
    · exact ⟨r, Or.inr ⟨k, by omega, k2, k3, k4⟩⟩
section Wo
variable {d : Nat} {h : mHeap} {a b : Nat}
theorem W_oC (hW : WS h a) : oC h a = 10 := oC_kd hW.2
theorem W_okF (hW : WS h a) {k : Nat} (hk : k < 4) : okF h a 10 k 1 := by
  rw [okF_kd]
  exact ⟨by rw [hW.2], by rw [hW.2], by rw [WS_t hW hk]; rfl⟩
theorem W_ok (hW : WS h a) : okF h a 10 0 1 ∧ okF h a 10 1 1 ∧ okF h a 10 2 1 ∧ okF h a 10 3 1 ∧ oC h a = 10 := ⟨W_okF hW (by decide), W_okF hW (by decide), W_okF hW (by decide), W_okF hW (by decide), W_oC hW⟩
theorem W_okP (hW : WS h a) {h' : mHeap} (e : kd h' a = kd h a) {k : Nat} (hk : k < 4) : okP h' a 10 k := by
  rw [okP_kd, e, hW.2]
  exact ⟨hW.1, rfl, rfl, hk⟩
theorem c115 {K : mHeap → Prop} : GoCv (d + 1) 115 [.ref a] h K ↔ (64 ≤ a ∧ K h) := by
  rw [e115, b115_0, rV_s]
theorem c116 {K : mHeap → Prop} {x0 x1 x2 x3 : Int64} (hW : WS h a) : GoCv (d + 1) 116 [.ref a, .long x0, .long x1, .long x2, .long x3] h K ↔ K (pW h a (w4 x0 x1 x2 x3)) := by
  have t := fun {j : Nat} (hj : j < 4) => WS_t hW hj
  have e1 : ∀ c, kd (sF h a 0 (.long x0)) c = kd h c := fun c => kd_sF (t (by decide))
  have e2 : ∀ c, kd (sF (sF h a 0 (.long x0)) a 1 (.long x1)) c = kd h c := fun c => by rw [kd_sF (by rw [e1]; exact t (by decide)), e1]
  have e3 : ∀ c, kd (sF (sF (sF h a 0 (.long x0)) a 1 (.long x1)) a 2 (.long x2)) c = kd h c := fun c => by rw [kd_sF (by rw [e2]; exact t (by decide)), e2]
  rw [e116, b116_0, rV_s, ← sW_pW]
  constructor
  · intro g
    exact g.2.2.2.2
  · intro g
    exact ⟨W_okP hW rfl (by decide), W_okP hW (e1 a) (by decide), W_okP hW (e2 a) (by decide), W_okP hW (e3 a) (by decide), g⟩
theorem c117 {K : mHeap → Prop} (hA : WS h a) (hB : WS h b) : GoCv (d + 2) 117 [.ref a, .ref b] h K ↔ K (pW h a (wo h b)) := by
  rw [e117, b117_0]
  simp only [W_ok hA, W_ok hB, true_and]
  rw [c116 hA, rV_s]
  rfl
theorem c120 {K : mHeap → Prop} (hA : WS h a) : GoCv (d + 2) 120 [.ref a] h K ↔ K (pW h a (fun i => !wo h a i)) := by
  rw [e120, b120_0]
  simp only [W_ok hA, true_and]
  rw [c116 hA, rV_s, pW_cong (fun i hi => w4_not hi)]
  rfl
theorem c121 {K : mHeap → Prop} (hA : WS h a) (hB : WS h b) : GoCv (d + 2) 121 [.ref a, .ref b] h K ↔ K (pW h a (fun i => wo h a i && wo h b i)) := by
  rw [e121, b121_0]
  simp only [W_ok hA, W_ok hB, true_and]
  rw [c116 hA, rV_s, pW_cong (fun i _ => w4_and)]
  rfl
theorem c122 {K : mHeap → Prop} (hA : WS h a) (hB : WS h b) : GoCv (d + 2) 122 [.ref a, .ref b] h K ↔ K (pW h a (fun i => wo h a i || wo h b i)) := by
  rw [e122, b122_0]
  simp only [W_ok hA, W_ok hB, true_and]
  rw [c116 hA, rV_s, pW_cong (fun i _ => w4_or)]
  rfl
theorem low_bit : ∀ f, f < 6 → ∀ i, i < 256 → w4 (mLow.getD f 0) (mLow.getD f 0) (mLow.getD f 0) (mLow.getD f 0) i = i.testBit f := by decide +kernel
theorem low_6 : ∀ i, i < 256 → w4 (jj 0) (jj (-1)) (jj 0) (jj (-1)) i = i.testBit 6 := by decide +kernel
theorem low_7 : ∀ i, i < 256 → w4 (jj 0) (jj 0) (jj (-1)) (jj (-1)) i = i.testBit 7 := by decide +kernel
theorem L_ok (hS : St h) : okL h 1 ∧ nL h 1 = 6 := by
  rw [okL_kd, nL_kd, St_kd hS]
  exact ⟨Or.inr (Or.inl rfl), rfl⟩
theorem L_okJ (hS : St h) {f : Nat} (hf : f < 6) : okJ h 1 (ii f) ∧ eJ h 1 (ii f) = mLow.getD f 0 := by
  have hi : (ii (f : Nat)).toNatClampNeg = f := by rw [ix_ii (by omega) (by omega)]; rfl
  refine ⟨?_, ?_⟩
  · rw [okJ_kd, St_kd hS, hi]
    refine ⟨rfl, ?_, hf⟩
    rw [ii_lt0 (by omega) (by omega)]
    omega
  · rw [eJ_xJ, hi, St_xJ hS]
theorem c119 {K : mHeap → Prop} (hS : St h) (hA : WS h a) {f : Nat} (hf : f < 8) : GoCv (d + 2) 119 [.ref a, .int (ii f)] h K ↔ K (pW h a (fun i => i.testBit f)) := by
  rw [e119, b119_0, if_neg (by rw [ii_lt (by omega) (by omega) (by omega) (by omega)]; omega), (L_ok hS).2]
  simp only [L_ok hS, true_and]
  by_cases h6 : f < 6
  · rw [if_neg (by rw [ii_le (by omega) (by omega) (by omega) (by omega)]; omega)]
    simp only [L_okJ hS h6, true_and, W_ok hA]
    rw [c116 hA, rV_s, pW_cong (low_bit f h6)]
  · rw [if_pos (by rw [ii_le (by omega) (by omega) (by omega) (by omega)]; omega), b119_29]
    by_cases q : f = 6
    · subst q
      rw [if_neg (by exact fun g => g rfl)]
      simp only [W_ok hA, true_and]
      rw [c116 hA, rV_s, pW_cong low_6]
    · have q : f = 7 := by omega
      subst q
      rw [if_pos (by decide)]
      simp only [W_ok hA, true_and]
      rw [c116 hA, rV_s, pW_cong low_7]
theorem all_bit : ∀ n, n < 6 → ∀ i, i < 256 → w4 (lshl (jj 1) (shl (ii 1) (ii (n : Nat))) - jj 1) (jj 0) (jj 0) (jj 0) i = decide (i < 2 ^ n) := by decide +kernel
theorem all_6 : ∀ i, i < 256 → w4 (jj (-1)) (jj 0) (jj 0) (jj 0) i = decide (i < 2 ^ 6) := by decide +kernel
theorem all_7 : ∀ i, i < 256 → w4 (jj (-1)) (jj (-1)) (jj 0) (jj 0) i = decide (i < 2 ^ 7) := by decide +kernel
theorem all_8 : ∀ i, i < 256 → w4 (jj (-1)) (jj (-1)) (jj (-1)) (jj (-1)) i = decide (i < 2 ^ 8) := by decide +kernel
theorem c118 {K : mHeap → Prop} (hS : St h) (hA : WS h a) {n : Nat} (hn : n < 9) : GoCv (d + 2) 118 [.ref a, .int (ii n)] h K ↔ K (pW h a (fun i => decide (i < 2 ^ n))) := by
  rw [e118, b118_0, (L_ok hS).2]
  simp only [L_ok hS, true_and]
  by_cases h6 : n < 6
  · rw [if_neg (by rw [ii_le (by omega) (by omega) (by omega) (by omega)]; omega)]
    simp only [W_ok hA, true_and]
    rw [c116 hA, rV_s, pW_cong (all_bit n h6)]
  · rw [if_pos (by rw [ii_le (by omega) (by omega) (by omega) (by omega)]; omega)]
    obtain q | q | q : n = 6 ∨ n = 7 ∨ n = 8 := by omega
    · subst q
      rw [if_pos (by decide), b118_38, if_pos (by decide), b118_52]
      simp only [W_ok hA, true_and]
      rw [c116 hA, rV_s, pW_cong all_6]
    · subst q
      rw [if_neg (by decide), b118_38, if_pos (by decide), b118_52]
      simp only [W_ok hA, true_and]
      rw [c116 hA, rV_s, pW_cong all_7]
    · subst q
      rw [if_neg (by decide), b118_38, if_neg (by decide), b118_52]
      simp only [W_ok hA, true_and]
      rw [c116 hA, rV_s, pW_cong all_8]
theorem low_not : ∀ f, f < 6 → ∀ i, i < 256 → w4 (mLow.getD f 0 ^^^ jj (-1)) (mLow.getD f 0 ^^^ jj (-1)) (mLow.getD f 0 ^^^ jj (-1)) (mLow.getD f 0 ^^^ jj (-1)) i = !i.testBit f := by decide +kernel
theorem jj0bv : (jj 0).toBitVec = 0#64 := rfl
theorem w4_6 {x0 x1 x2 x3 : Int64} : ∀ i, i < 256 → w4 (jj 0) x1 (jj 0) x3 i = (w4 x0 x1 x2 x3 i && i.testBit 6) ∧ w4 x0 (jj 0) x2 (jj 0) i = (w4 x0 x1 x2 x3 i && !i.testBit 6) := by
  have k : ∀ i, i < 256 → i.testBit 6 = (decide (64 ≤ i) && (decide (i < 128) || decide (192 ≤ i))) := by decide +kernel
  intro i hi
  rw [k i hi]
  unfold w4
  by_cases h0 : i < 64
  · simp [h0, show ¬ 64 ≤ i by omega, jb_0, jj0bv]
  · by_cases h1 : i < 128
    · simp [h0, h1, show 64 ≤ i by omega, jb_0, jj0bv]
    · by_cases h2 : i < 192
      · simp [h0, h1, h2, show ¬ 192 ≤ i by omega, jb_0, jj0bv]
      · simp [h0, h1, h2, show 64 ≤ i by omega, show 192 ≤ i by omega, jb_0, jj0bv]
theorem w4_7 {x0 x1 x2 x3 : Int64} : ∀ i, i < 256 → w4 (jj 0) (jj 0) x2 x3 i = (w4 x0 x1 x2 x3 i && i.testBit 7) ∧ w4 x0 x1 (jj 0) (jj 0) i = (w4 x0 x1 x2 x3 i && !i.testBit 7) := by
  have k : ∀ i, i < 256 → i.testBit 7 = decide (128 ≤ i) := by decide +kernel
  intro i hi
  rw [k i hi]
  unfold w4
  by_cases h0 : i < 64
  · simp [h0, show ¬ 128 ≤ i by omega, jb_0, jj0bv]
  · by_cases h1 : i < 128
    · simp [h0, h1, show ¬ 128 ≤ i by omega, jb_0, jj0bv]
    · by_cases h2 : i < 192
      · simp [h0, h1, h2, show 128 ≤ i by omega, jb_0, jj0bv]
      · simp [h0, h1, h2, show 128 ≤ i by omega, jb_0, jj0bv]
/-- to hold on to the worlds in which a fact is so (b), or not -/
theorem c123 {K : mHeap → Prop} (hS : St h) (hA : WS h a) {f : Nat} (hf : f < 8) {t : Bool} : GoCv (d + 2) 123 [.ref a, .int (ii f), .int (if t = true then ii 1 else ii 0)] h K ↔ K (pW h a (fun i => wo h a i && (i.testBit f == t))) := by
  rw [e123, b123_0, if_neg (by rw [ii_lt (by omega) (by omega) (by omega) (by omega)]; omega), (L_ok hS).2]
  simp only [L_ok hS, true_and]
  by_cases h6 : f < 6
  · rw [if_neg (by rw [ii_le (by omega) (by omega) (by omega) (by omega)]; omega)]
    simp only [L_okJ hS h6, true_and]
    cases t with
    | true =>
      rw [if_neg (by decide), b123_33 (by rfl)]
      simp only [W_ok hA, true_and]
      rw [c116 hA, rV_s, pW_cong (fun i hi => by rw [w4_and, low_bit f h6 i hi])]
      simp only [beq_true]
      rfl
    | false =>
      rw [if_pos (by decide), b123_33 (by rfl)]
      simp only [W_ok hA, true_and]
      rw [c116 hA, rV_s, pW_cong (fun i hi => by rw [w4_and, low_not f h6 i hi])]
      simp only [beq_false]
      rfl
  · rw [if_pos (by rw [ii_le (by omega) (by omega) (by omega) (by omega)]; omega), b123_65]
    by_cases q : f = 6
    · subst q
      rw [if_neg (by exact fun g => g rfl)]
      cases t with
      | true =>
        rw [if_neg (by decide), b123_84, if_neg (by decide)]
        simp only [W_ok hA, true_and]
        rw [b123_96, if_neg (by decide), b123_108, if_neg (by decide)]
        simp only [W_ok hA, true_and]
        rw [b123_120]
        simp only [W_ok hA, true_and]
        rw [c116 hA, rV_s, pW_cong (fun i hi => (w4_6 (x0 := fJ h a 0) (x2 := fJ h a 2) i hi).1)]
        simp only [beq_true]
        rfl
      | false =>
        rw [if_pos (by decide), b123_84, if_pos (by decide)]
        simp only [W_ok hA, true_and]
        rw [b123_96, if_pos (by decide)]
        simp only [W_ok hA, true_and]
        rw [b123_108, if_pos (by decide), b123_120]
        simp only [W_ok hA, true_and]
        rw [c116 hA, rV_s, pW_cong (fun i hi => (w4_6 (x1 := fJ h a 1) (x3 := fJ h a 3) i hi).2)]
        simp only [beq_false]
        rfl
    · have q : f = 7 := by omega
      subst q
      rw [if_pos (by decide)]
      cases t with
      | true =>
        rw [if_neg (by decide), b123_139, if_neg (by decide), b123_151, if_neg (by decide)]
        simp only [W_ok hA, true_and]
        rw [b123_163, if_neg (by decide)]
        simp only [W_ok hA, true_and]
        rw [b123_175]
        simp only [W_ok hA, true_and]
        rw [c116 hA, rV_s, pW_cong (fun i hi => (w4_7 (x0 := fJ h a 0) (x1 := fJ h a 1) i hi).1)]
        simp only [beq_true]
        rfl
      | false =>
        rw [if_pos (by decide)]
        simp only [W_ok hA, true_and]
        rw [b123_139, if_pos (by decide)]
        simp only [W_ok hA, true_and]
        rw [b123_151, if_pos (by decide), b123_163, if_pos (by decide), b123_175]
        simp only [W_ok hA, true_and]
        rw [c116 hA, rV_s, pW_cong (fun i hi => (w4_7 (x2 := fJ h a 2) (x3 := fJ h a 3) i hi).2)]
        simp only [beq_false]
        rfl
theorem c126 {K : Int32 → mHeap → Prop} (hA : WS h a) : GoCi (d + 2) 126 [.ref a] h K ↔ K (ii (cB (wo h a) 256)) h := by
  rw [e126, b126_0]
  simp only [W_ok hA, true_and, c318, rI_s, ii_add]
  unfold wo
  rw [cB_w4]
  simp only [Int.natCast_add]
theorem c127 {K : Int32 → mHeap → Prop} (hA : WS h a) (hB : WS h b) : GoCi (d + 2) 127 [.ref a, .ref b] h K ↔ K (ii (cB (fun i => wo h a i && !wo h b i) 256)) h := by
  rw [e127, b127_0]
  simp only [W_ok hA, W_ok hB, true_and, c318, rI_s, ii_add]
  have : cB (fun i => wo h a i && !wo h b i) 256 = cB (w4 (fJ h a 0 &&& (fJ h b 0 ^^^ jj (-1))) (fJ h a 1 &&& (fJ h b 1 ^^^ jj (-1))) (fJ h a 2 &&& (fJ h b 2 ^^^ jj (-1))) (fJ h a 3 &&& (fJ h b 3 ^^^ jj (-1)))) 256 := cB_cong fun i hi => by
    rw [w4_and, w4_not hi]
    rfl
  rw [this, cB_w4]
  simp only [Int.natCast_add]
theorem or_zero {x y : Int64} : x ||| y = jj 0 ↔ (x = jj 0 ∧ y = jj 0) := by
  constructor
  · intro e
    have hb : ∀ i, i < 64 → (x.toBitVec.getLsbD i || y.toBitVec.getLsbD i) = false := fun i _ => by rw [← jb_or, e, jb_0]
    refine ⟨j_ext fun i hi => ?_, j_ext fun i hi => ?_⟩
    · rw [jb_0]; exact (Bool.or_eq_false_iff.mp (hb i hi)).1
    · rw [jb_0]; exact (Bool.or_eq_false_iff.mp (hb i hi)).2
  · rintro ⟨rfl, rfl⟩
    decide
theorem c128 {K : Int32 → mHeap → Prop} (hA : WS h a) (hB : WS h b) : GoCi (d + 1) 128 [.ref a, .ref b] h K ↔ K (bP (sub (wo h a) (wo h b))) h := by
  rw [e128, b128_0]
  simp only [W_ok hA, W_ok hB, true_and, rI_s, lcmp_eq, or_zero]
  have key : (((fJ h a 0 &&& (fJ h b 0 ^^^ jj (-1)) = jj 0 ∧ fJ h a 1 &&& (fJ h b 1 ^^^ jj (-1)) = jj 0) ∧ fJ h a 2 &&& (fJ h b 2 ^^^ jj (-1)) = jj 0) ∧ fJ h a 3 &&& (fJ h b 3 ^^^ jj (-1)) = jj 0) ↔ sub (wo h a) (wo h b) := by
    rw [and_assoc, and_assoc]
    rw [← w4_zero]
    unfold sub
    constructor
    · intro g i hi hu
      have := g i hi
      rw [w4_and, w4_not hi] at this
      have : (wo h a i && !wo h b i) = false := this
      rw [hu] at this
      simpa using this
    · intro g i hi
      rw [w4_and, w4_not hi]
      show (wo h a i && !wo h b i) = false
      cases hu : wo h a i with
      | false => rfl
      | true => rw [g i hi hu]; rfl
  by_cases c : sub (wo h a) (wo h b)
  · rw [if_neg (fun g => g (key.mpr c)), bP_t c]; simp
  · rw [if_pos (fun g => c (key.mp g)), bP_f c]; simp
theorem c129 {K : Int32 → mHeap → Prop} (hA : WS h a) (hB : WS h b) : GoCi (d + 1) 129 [.ref a, .ref b] h K ↔ K (bP (dis (wo h a) (wo h b))) h := by
  rw [e129, b129_0]
  simp only [W_ok hA, W_ok hB, true_and, rI_s, lcmp_eq, or_zero]
  have key : (((fJ h a 0 &&& fJ h b 0 = jj 0 ∧ fJ h a 1 &&& fJ h b 1 = jj 0) ∧ fJ h a 2 &&& fJ h b 2 = jj 0) ∧ fJ h a 3 &&& fJ h b 3 = jj 0) ↔ dis (wo h a) (wo h b) := by
    rw [and_assoc, and_assoc]
    rw [← w4_zero]
    unfold dis
    constructor
    · intro g i hi hu
      have := g i hi
      rw [w4_and] at this
      have : (wo h a i && wo h b i) = false := this
      rw [hu] at this
      simpa using this
    · intro g i hi
      rw [w4_and]
      show (wo h a i && wo h b i) = false
      cases hu : wo h a i with
      | false => rfl
      | true => rw [g i hi hu]; rfl
  by_cases c : dis (wo h a) (wo h b)
  · rw [if_neg (fun g => g (key.mpr c)), bP_t c]; simp
  · rw [if_pos (fun g => c (key.mp g)), bP_f c]; simp
theorem j_bit {t : Int64} {k : Nat} (hk : k < 64) : (lushr t (ii k)) &&& jj 1 = jj 0 ↔ t.toBitVec.getLsbD k = false := by
  have e : nJ64 ((lushr t (ii k)) &&& jj 1) = (nJ64 t / 2 ^ k) % 2 := by
    rw [nJ_and, nJ_shr t hk, show nJ64 (jj 1) = 1 from by decide, Nat.and_one_is_mod]
  have hb : t.toBitVec.getLsbD k = decide ((nJ64 t / 2 ^ k) % 2 = 1) := by
    rw [← BitVec.testBit_toNat, Nat.testBit_eq_decide_div_mod_eq]
    rfl
  rw [hb]
  constructor
  · intro q
    rw [q] at e
    have : nJ64 (jj 0) = 0 := by decide
    rw [this] at e
    rw [← e]
    rfl
  · intro q
    have : nJ64 ((lushr t (ii k)) &&& jj 1) = 0 := by
      rw [e]
      have := of_decide_eq_false q
      omega
    apply Int64.toBitVec_inj.mp
    apply BitVec.eq_of_toNat_eq
    exact this
theorem c130 {K : Int32 → mHeap → Prop} (hA : WS h a) {w : Nat} (hw : w < 256) : GoCi (d + 1) 130 [.ref a, .int (ii w)] h K ↔ K (bP (wo h a w = true)) h := by
  have h63 : ii (w : Nat) &&& ii 63 = ii ((w % 64 : Nat) : Int) := by
    have := and_ii w 63
    rw [show ii 63 = ii ((63 : Nat) : Int) from rfl, this, show (63 : Nat) = 2 ^ 6 - 1 from rfl, Nat.and_two_pow_sub_one_eq_mod]
  have hm : w % 64 < 64 := Nat.mod_lt _ (by decide)
  have fin : ∀ t : Int64, t.toBitVec.getLsbD (w % 64) = wo h a w → (Go d 130 45 [some (.ref a), some (.int (ii w)), none, none] [.long t] h (rI K) ↔ K (bP (wo h a w = true)) h) := by
    intro t ht
    rw [b130_45, h63]
    simp only [rI_s, lcmp_eq, j_bit hm, ht]
    cases hv : wo h a w with
    | true => rw [if_neg (by decide), bP_t rfl]; simp
    | false => rw [if_pos rfl, bP_f (by decide)]; simp
  rw [e130, b130_0]
  simp only [W_ok hA, true_and]
  unfold wo w4 at fin
  by_cases h1 : w < 128
  · rw [if_neg (by rw [ii_le (by omega) (by omega) (by omega) (by omega)]; omega)]
    by_cases h0 : w < 64
    · rw [if_neg (by rw [ii_le (by omega) (by omega) (by omega) (by omega)]; omega)]
      exact fin _ (by rw [if_pos h0, Nat.mod_eq_of_lt h0])
    · rw [if_pos (by rw [ii_le (by omega) (by omega) (by omega) (by omega)]; omega)]
      exact fin _ (by rw [if_neg h0, if_pos h1, show w % 64 = w - 64 by omega])
  · rw [if_pos (by rw [ii_le (by omega) (by omega) (by omega) (by omega)]; omega)]
    by_cases h2 : w < 192
    · rw [if_neg (by rw [ii_le (by omega) (by omega) (by omega) (by omega)]; omega)]
      exact fin _ (by rw [if_neg (by omega), if_neg h1, if_pos h2, show w % 64 = w - 128 by omega])
    · rw [if_pos (by rw [ii_le (by omega) (by omega) (by omega) (by omega)]; omega)]
      exact fin _ (by rw [if_neg (by omega), if_neg h1, if_neg h2, show w % 64 = w - 192 by omega])
end Wo
