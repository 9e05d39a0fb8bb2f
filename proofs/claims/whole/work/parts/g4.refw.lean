/-! THE REFERENCE: signs, blanks, words, digits of its text -/
def fa (f q c : Nat) : Nat := if f = 0 then 1 + 8 * q + c else f
section Te
variable {d : Nat} {h h1 : mHeap} {B : Bt} {n p q t i k f c : Nat}
theorem byt175 (hR : RS h) (hT : RTx h B n) (hq : q < n) : okB h 175 (ii (q : Nat)) ∧ eI h 175 (ii (q : Nat)) = ii (B q) := by
  have n4 := hT.2.1
  have e : (ii (q : Nat)).toNatClampNeg = q := by rw [ix_ii (by omega) (by omega)]; rfl
  refine ⟨?_, ?_⟩
  · rw [okB_kd, hR.k175]
    refine ⟨rfl, Or.inl rfl, ?_, ?_⟩
    · rw [ii_lt0 (by omega) (by omega)]; omega
    · rw [e]; show q < 400; omega
  · rw [eI_xA, e]; exact hT.2.2 q hq
theorem and_b {z : Int} (g : -128 ≤ z ∧ z ≤ 127) : ii z &&& ii 255 = ii (z % 256) := by
  have := and255 (z + 128).toNat (by omega)
  rw [show (((z + 128).toNat : Nat) : Int) - 128 = z by omega] at this
  rw [this]
  exact congrArg ii (by omega)
theorem sgn_b : -1 ≤ sgn B n p ∧ sgn B n p < 256 := by
  unfold sgn
  split <;> omega
theorem sgn_32 (hb : Byt B n) : sgn B n p = 32 ↔ p < n ∧ B p = 32 := by
  unfold sgn
  by_cases g : p < n
  · rw [if_pos g]
    have := hb p g
    omega
  · rw [if_neg g]
    omega
theorem RTx.z {F R : List Nat} (hT : RTx h B n) (z : RF F R h h1) (f : ¬ 27 ∈ F) (r : ¬ 175 ∈ R) : RTx h1 B n := ⟨by rw [z.fe f]; exact hT.1, hT.2.1, fun i hi => by rw [z.ae (by decide) r]; exact hT.2.2 i hi⟩
theorem c197 {K : mHeap → Prop} (hR : RS h) (hf : fI h 148 29 = ii (f : Nat)) (f5 : f < 100000) (hK : ∀ h1, RF [29] [] h h1 → fI h1 148 29 = ii (fa f q c : Nat) → K h1) : GoCv (d + 1) 197 [.ref 148, .int (ii (c : Nat)), .int (ii (q : Nat))] h K := by
  have t29 : tgK (kd h 148) 29 = some 0 := hR.tg.2.2.1
  rw [e197, b197_0]
  simp only [(RS.ok hR), (RS.fr hR), true_and, and_true, true_or, or_true, hR.op, hf, rV_s]
  unfold fa at hK
  by_cases g : f = 0
  · rw [if_neg (by rw [g]; exact fun z => z rfl)]
    rw [if_pos g] at hK
    have z := RF.sF (x := ii 1 + ii 8 * ii (q : Nat) + ii (c : Nat)) t29
    refine hK _ z.1 ?_
    rw [z.2, ii_mul, ii_add, ii_add]
    exact congrArg ii (by omega)
  · rw [if_pos (by rw [show ii 0 = ii (0 : Int) from rfl, ii_eq (by omega) (by omega) (by omega) (by omega)]; omega)]
    rw [if_neg g] at hK
    have z := RF.sF (x := ii (f : Nat)) t29
    exact hK _ z.1 z.2
theorem c198 {K : Int32 → mHeap → Prop} (hR : RS h) (hT : RTx h B n) (hb : Byt B n) (hp : fI h 148 28 = ii (p : Nat)) (p5 : p ≤ 500) : GoCi (d + 1) 198 [.ref 148] h K ↔ K (ii (sgn B n p)) h := by
  have n4 := hT.2.1
  rw [e198, b198_0]
  simp only [(RS.ok hR), (RS.fr hR), true_and, and_true, true_or, or_true, hp, hT.1, rI_s]
  unfold sgn
  by_cases g : p < n
  · rw [if_pos g, if_neg (by rw [ii_le (by omega) (by omega) (by omega) (by omega)]; omega)]
    have by1 := byt175 hR hT g
    simp only [by1, true_and]
    rw [and_b (hb p g)]
  · rw [if_neg g, if_pos (by rw [ii_le (by omega) (by omega) (by omega) (by omega)]; omega)]
theorem c199_0 {K : mHeap → Prop} (hb : Byt B n) : ∀ k p h, p + k = n → RS h → RTx h B n → fI h 148 28 = ii (p : Nat) → (∀ h1, RF [28] [] h h1 → fI h1 148 28 = ii ((hd B n p).2 : Nat) → K h1) → Go (d + 1) 199 0 [some (.ref 148)] [] h (rV K)
  | 0, p, h, e, hR, hT, hp, hK => by
    have n4 := hT.2.1
    rw [b199_0]
    (try simp only [(RS.ok hR), (RS.fr hR), true_and, and_true, true_or, or_true])
    have s := sgn_b (B := B) (n := n) (p := p)
    have s2 : ¬ sgn B n p = 32 := by rw [sgn_32 hb]; omega
    rw [c198 hR hT hb hp (by omega), if_pos (by rw [show ii 32 = ii (32 : Int) from rfl, ii_eq (by omega) (by omega) (by omega) (by omega)]; exact s2), rV_s]
    exact hK h RF.rf (by rw [hd_end (by omega), hp]; exact congrArg ii (by show (p : Int) = (n : Nat); omega))
  | k + 1, p, h, e, hR, hT, hp, hK => by
    have n4 := hT.2.1
    rw [b199_0]
    (try simp only [(RS.ok hR), (RS.fr hR), true_and, and_true, true_or, or_true])
    have s := sgn_b (B := B) (n := n) (p := p)
    rw [c198 hR hT hb hp (by omega)]
    by_cases g : B p = 32
    · have s2 : sgn B n p = 32 := by rw [sgn_32 hb]; exact ⟨by omega, g⟩
      have t28 : tgK (kd h 148) 28 = some 0 := hR.tg.2.1
      have z := RF.sF (x := ii ((p + 1 : Nat) : Int)) t28
      rw [s2, if_neg (fun y => y rfl), hp, show ii (p : Nat) + ii 1 = ii ((p + 1 : Nat) : Int) from ii_add _ _]
      simp only [(RS.ok hR), (RS.fr hR), true_and, and_true, true_or, or_true, hR.op]
      refine c199_0 hb k (p + 1) _ (by omega) (z.1.rs hR (by decide)) (hT.z z.1 (by decide) (by decide)) z.2 (fun h1 z1 e1 => hK h1 (z.1.tr z1) ?_)
      rw [e1, hd_blank (by omega) g]
    · have s2 : ¬ sgn B n p = 32 := by rw [sgn_32 hb]; exact fun y => g y.2
      rw [if_pos (by rw [show ii 32 = ii (32 : Int) from rfl, ii_eq (by omega) (by omega) (by omega) (by omega)]; exact s2), rV_s]
      exact hK h RF.rf (by rw [hd_tok (by omega) g]; exact hp)
theorem c199 {K : mHeap → Prop} (hR : RS h) (hT : RTx h B n) (hb : Byt B n) (hp : fI h 148 28 = ii (p : Nat)) (hn : p ≤ n) (hK : ∀ h1, RF [28] [] h h1 → fI h1 148 28 = ii ((hd B n p).2 : Nat) → K h1) : GoCv (d + 2) 199 [.ref 148] h K := by
  rw [e199]
  exact c199_0 hb (n - p) p h (by omega) hR hT hp hK
theorem c200 {K : Int32 → mHeap → Prop} (hR : RS h) (hT : RTx h B n) (hb : Byt B n) (hp : fI h 148 28 = ii (p : Nat)) (p5 : p ≤ 500) : GoCi (d + 2) 200 [.ref 148] h K ↔ K (if 48 ≤ sgn B n p ∧ sgn B n p ≤ 57 then ii 1 else ii 0) h := by
  have s := sgn_b (B := B) (n := n) (p := p)
  rw [e200, b200_0]
  simp only [(RS.ok hR), (RS.fr hR), true_and, and_true, true_or, or_true, rI_s]
  rw [c198 hR hT hb hp p5, show jj 48 = jj (48 : Int) from rfl, show jj 57 = jj (57 : Int) from rfl, cin2 ⟨by omega, by omega⟩ ⟨by omega, by omega⟩ ⟨by omega, by omega⟩]
  by_cases g : 48 ≤ sgn B n p ∧ sgn B n p ≤ 57
  · rw [if_pos g]
    exact and_iff_right (Or.inr rfl)
  · rw [if_neg g]
    exact and_iff_right (Or.inl rfl)
theorem c201_63 {K : Int32 → mHeap → Prop} (hR : RS h) (hT : RTx h B n) (hp : fI h 148 28 = ii (p : Nat)) (hi : i < 28) {len : Nat} (hl : p + len ≤ n) (hb : Byt B n) (hK : K (if mtc B p len (mB i) = true then ii 1 else ii 0) h) {l2 : Option Value} (g2 : mNo l2 = true) {b : Bool} (eb : b = decide ((mB i).length = len)) : Go (d + 5) 201 63 [some (.ref 148), some (.ref (2 + i)), l2, some (.int (if b = true then ii 1 else ii 0)), some (.int (ii 0))] [] h (rI K) := by
  have n4 := hT.2.1
  have ml := (mB_ok i hi).1
  have s2 : oC h (2 + i) = 16 := oC_kd (St_str hR.1 hi).1
  refine Go_loop (fun k L h' => h' = h ∧ ∃ b : Bool, (b = true ↔ (mB i).length = len ∧ ∀ j, j < k → B (p + j) = ((mB i).getD j 0).toInt) ∧ L = [some (.ref 148), some (.ref (2 + i)), l2, some (.int (if b = true then ii 1 else ii 0)), some (.int (ii (k : Nat)))]) (mB i).length ?_ ?_ 0 _ h (Nat.zero_le _) ⟨rfl, b, ?_, rfl⟩
  · rintro k L h' hk ⟨rfl, b, hbk, rfl⟩ nx
    rw [b201_63]
    refine ⟨s2, (c319 (i := i) hR.1 hi).mpr ?_⟩
    rw [if_neg (by rw [ii_le (by omega) (by omega) (by omega) (by omega)]; omega)]
    cases b with
    | false =>
      rw [if_pos (if_neg Bool.false_ne_true)]
      refine ⟨Or.inl (if_neg Bool.false_ne_true), ?_⟩
      rw [rI_s, if_neg Bool.false_ne_true]
      rw [if_neg ?_] at hK
      · exact hK
      · intro m
        obtain ⟨m1, m2⟩ := mtc_i.mp m
        exact absurd (hbk.mpr ⟨m1, fun j hj => m2 j (by omega)⟩) Bool.false_ne_true
    | true =>
      obtain ⟨e1, e2⟩ := hbk.mp rfl
      have by1 := byt175 hR hT (show p + k < n by omega)
      have bb := hb (p + k) (by omega)
      have mk := (mB_ok i hi).2 k hk
      rw [if_neg (by rw [if_pos rfl]; decide), hp, show ii (p : Nat) + ii (k : Nat) = ii ((p + k : Nat) : Int) from ii_add _ _]
      simp only [(RS.ok hR), (RS.fr hR), true_and, and_true, true_or, or_true, by1]
      refine ⟨s2, (c320 (i := i) hR.1 hi hk).mpr ?_⟩
      rw [← mk.2.2.1]
      have ek : ii (k : Nat) + ii 1 = ii ((k + 1 : Nat) : Int) := ii_add _ _
      by_cases g : B (p + k) = ((mB i).getD k 0).toInt
      · rw [if_neg (by rw [g]; exact fun y => y rfl), b201_102 g2, ek]
        exact nx _ _ ⟨rfl, true, ⟨fun _ => ⟨e1, fun j hj => by
          by_cases c2 : j = k
          · rw [c2]; exact g
          · exact e2 j (by omega)⟩, fun _ => rfl⟩, rfl⟩
      · rw [if_pos (by rw [ii_eq (by omega) (by omega) (by omega) (by omega)]; exact g), b201_102 g2, ek]
        exact nx _ _ ⟨rfl, false, ⟨fun y => absurd y Bool.false_ne_true, fun y => absurd (y.2 k (by omega)) g⟩, rfl⟩
  · rintro L h' ⟨rfl, b, hbk, rfl⟩
    rw [b201_63]
    refine ⟨s2, (c319 (i := i) hR.1 hi).mpr ?_⟩
    rw [if_pos (Int32.le_refl _)]
    refine ⟨by cases b <;> decide, ?_⟩
    rw [rI_s]
    cases b with
    | false =>
      rw [if_neg Bool.false_ne_true]
      rw [if_neg (fun m => absurd (hbk.mpr (mtc_i.mp m)) Bool.false_ne_true)] at hK
      exact hK
    | true =>
      rw [if_pos rfl]
      rw [if_pos (mtc_i.mpr (hbk.mp rfl))] at hK
      exact hK
  · rw [eb]
    exact ⟨fun y => ⟨of_decide_eq_true y, fun j hj => absurd hj (Nat.not_lt_zero j)⟩, fun y => decide_eq_true y.1⟩
theorem c201_5 {K : Int32 → mHeap → Prop} (hR : RS h) (hT : RTx h B n) (hb : Byt B n) (hp : fI h 148 28 = ii (p : Nat)) (hn : p ≤ n) (hi : i < 28) (hK : K (if mtc B p (rnE isSm B n p - p) (mB i) = true then ii 1 else ii 0) h) : ∀ k e, e + k = n → p ≤ e → rnE isSm B n e = rnE isSm B n p → Go (d + 5) 201 5 [some (.ref 148), some (.ref (2 + i)), some (.int (ii (e : Nat))), none, none] [] h (rI K) := by
  have n4 := hT.2.1
  have ml := (mB_ok i hi).1
  have s2 : oC h (2 + i) = 16 := oC_kd (St_str hR.1 hi).1
  have fin : ∀ e, p ≤ e → e ≤ n → rnE isSm B n p = e → Go (d + 5) 201 41 [some (.ref 148), some (.ref (2 + i)), some (.int (ii (e : Nat))), none, none] [] h (rI K) := fun e e1 e2 e3 => by
    rw [e3] at hK
    rw [b201_41]
    simp only [(RS.ok hR), (RS.fr hR), true_and, and_true, true_or, or_true, hp]
    refine ⟨s2, (c319 (i := i) hR.1 hi).mpr ?_⟩
    rw [show ii (e : Nat) - ii (p : Nat) = ii ((e - p : Nat) : Int) by rw [ii_sub]; exact congrArg ii (by omega)]
    by_cases g : e - p = (mB i).length
    · rw [if_neg (by rw [g]; exact fun y => y rfl), b201_59 (by rfl)]
      exact c201_63 hR hT hp hi (by omega) hb hK (by rfl) (b := true) (by rw [g]; exact (decide_eq_true rfl).symm)
    · rw [if_pos (by rw [ii_eq (by omega) (by omega) (by omega) (by omega)]; omega), b201_59 (by rfl)]
      exact c201_63 hR hT hp hi (by omega) hb hK (by rfl) (b := false) (by rw [decide_eq_false (by omega)])
  intro k
  induction k with
  | zero =>
    intro e h1 h2 h3
    rw [rnE_n (by omega)] at h3
    rw [b201_5]
    simp only [(RS.ok hR), (RS.fr hR), true_and, and_true, true_or, or_true, hT.1]
    rw [if_pos (by rw [ii_le (by omega) (by omega) (by omega) (by omega)]; omega)]
    exact fin e h2 (by omega) h3.symm
  | succ k ih =>
    intro e h1 h2 h3
    have by1 := byt175 hR hT (show e < n by omega)
    have bb := hb e (by omega)
    rw [b201_5]
    simp only [(RS.ok hR), (RS.fr hR), true_and, and_true, true_or, or_true, hT.1]
    rw [if_neg (by rw [ii_le (by omega) (by omega) (by omega) (by omega)]; omega)]
    simp only [by1, true_and]
    by_cases g : B e < 97
    · rw [if_pos (by rw [show ii 97 = ii (97 : Int) from rfl, ii_lt (by omega) (by omega) (by omega) (by omega)]; exact g)]
      rw [rnE_n (fun y => by have := isSm_i.mp y.2; omega)] at h3
      exact fin e h2 (by omega) h3.symm
    · rw [if_neg (by rw [show ii 97 = ii (97 : Int) from rfl, ii_lt (by omega) (by omega) (by omega) (by omega)]; exact g)]
      by_cases g2 : 122 < B e
      · rw [if_pos (by rw [show ii 122 = ii (122 : Int) from rfl, ii_lt (by omega) (by omega) (by omega) (by omega)]; exact g2)]
        rw [rnE_n (fun y => by have := isSm_i.mp y.2; omega)] at h3
        exact fin e h2 (by omega) h3.symm
      · rw [if_neg (by rw [show ii 122 = ii (122 : Int) from rfl, ii_lt (by omega) (by omega) (by omega) (by omega)]; exact g2)]
        rw [show ii (e : Nat) + ii 1 = ii ((e + 1 : Nat) : Int) from ii_add _ _]
        rw [rnE_y (by omega) (isSm_i.mpr (by omega))] at h3
        exact ih (e + 1) (by omega) (by omega) h3
theorem c201 {K : Int32 → mHeap → Prop} (hR : RS h) (hT : RTx h B n) (hb : Byt B n) (hp : fI h 148 28 = ii (p : Nat)) (hn : p ≤ n) (hi : i < 28) (hK : K (if mtc B p (rnE isSm B n p - p) (mB i) = true then ii 1 else ii 0) h) : GoCi (d + 6) 201 [.ref 148, .ref (2 + i)] h K := by
  rw [e201, b201_0, hp]
  (try simp only [(RS.ok hR), (RS.fr hR), true_and, and_true, true_or, or_true])
  exact c201_5 hR hT hb hp hn hi hK (n - p) p (by omega) (Nat.le_refl p) rfl
/-- the words' places among the texts -/
def wix (k : Nat) : Nat := [1, 3, 4, 5, 2, 18, 19, 20, 21, 22, 23, 24, 25, 26, 6, 15, 16, 17, 27].getD k 0
theorem wix_ok : ∀ k, k < 19 → wix k < 28 ∧ mB (wix k) = wrds.getD k [] := by decide +kernel
theorem c201w {K : Int32 → mHeap → Prop} (hR : RS h) (hT : RTx h B n) (hb : Byt B n) (hp : fI h 148 28 = ii (q : Nat)) (hn : q ≤ n) (hl : Pl B n q t) (hk : k < 19) (hY : t = 301 + k → K (ii 1) h) (hN : ¬ t = 301 + k → K (ii 0) h) : GoCi (d + 6) 201 [.ref 148, .ref (2 + wix k)] h K := by
  have w := wix_ok k hk
  refine c201 hR hT hb hp hn w.1 ?_
  rw [w.2]
  have pw := (pl_w hl hk).1
  by_cases g : t = 301 + k
  · rw [if_pos (pw.mpr g)]; exact hY g
  · rw [if_neg (fun y => g (pw.mp y))]; exact hN g
theorem c205_25 {K : Int32 → mHeap → Prop} {x1 : Int32} (hx : x1 = ii ((99999 : Nat) : Int)) (hb : Byt B n) (hd : q < n) (dg : isDg (B q) = true) (f5 : f < 100000) : ∀ k e h, e + k = n → q ≤ e → rnE isDg B n e = rnE isDg B n q → (∀ j, q ≤ j → j < e → isDg (B j) = true) → RS h → RTx h B n → fI h 148 28 = ii (e : Nat) → fI h 148 29 = ii (f : Nat) → (∀ h1 v, RF [28, 29] [] h h1 → fI h1 148 28 = ii (rnE isDg B n q : Nat) → v ≤ 99999 → (rnE isDg B n q - q ≤ 5 → v = nuV B q (rnE isDg B n q - q) ∧ fI h1 148 29 = ii (f : Nat)) → (5 < rnE isDg B n q - q → fI h1 148 29 = ii (fa f q 1 : Nat)) → K (ii (v : Nat)) h1) → Go (d + 2) 205 25 [some (.ref 148), some (.int x1), some (.int (ii (q : Nat))), some (.int (ii (nuV B q (if e - q ≤ 5 then e - q else 5) : Nat)))] [] h (rI K) := by
  intro k
  have small : ∀ e, (∀ j, q ≤ j → j < e → isDg (B j) = true) → q ≤ e → nuV B q (if e - q ≤ 5 then e - q else 5) ≤ 99999 := fun e hj he => by
    have g : ∀ m, m ≤ 5 → m ≤ e - q → nuV B q m ≤ 99999 := fun m h1 h2 => by
      have a := nuV_lt (B := B) (q := q) m (fun i hi => hj _ (by omega) (by omega))
      have b : 10 ^ m ≤ 10 ^ 5 := Nat.pow_le_pow_right (by decide) h1
      omega
    split
    · exact g _ (by assumption) (Nat.le_refl _)
    · exact g 5 (Nat.le_refl _) (by omega)
  have fin : ∀ e h, q ≤ e → e ≤ n → rnE isDg B n q = e → (∀ j, q ≤ j → j < e → isDg (B j) = true) → RS h → RTx h B n → fI h 148 28 = ii (e : Nat) → fI h 148 29 = ii (f : Nat) → (∀ h1 v, RF [28, 29] [] h h1 → fI h1 148 28 = ii (rnE isDg B n q : Nat) → v ≤ 99999 → (rnE isDg B n q - q ≤ 5 → v = nuV B q (rnE isDg B n q - q) ∧ fI h1 148 29 = ii (f : Nat)) → (5 < rnE isDg B n q - q → fI h1 148 29 = ii (fa f q 1 : Nat)) → K (ii (v : Nat)) h1) → ¬ (48 ≤ sgn B n e ∧ sgn B n e ≤ 57) → Go (d + 2) 205 25 [some (.ref 148), some (.int x1), some (.int (ii (q : Nat))), some (.int (ii (nuV B q (if e - q ≤ 5 then e - q else 5) : Nat)))] [] h (rI K) := fun e h e1 e2 e3 e4 hR hT hp hf hK ns => by
    have n4 := hT.2.1
    have sm := small e e4 e1
    rw [e3] at hK
    rw [b205_25]
    (try simp only [(RS.ok hR), (RS.fr hR), true_and, and_true, true_or, or_true])
    rw [c200 hR hT hb hp (by omega), if_neg ns, if_pos rfl]
    simp only [(RS.ok hR), (RS.fr hR), true_and, and_true, true_or, or_true, hp]
    rw [show ii (e : Nat) - ii (q : Nat) = ii ((e - q : Nat) : Int) by rw [ii_sub]; exact congrArg ii (by omega)]
    by_cases g : 5 < e - q
    · rw [if_pos (by rw [show ii 5 = ii ((5 : Nat) : Int) from rfl, ii_lt (by omega) (by omega) (by omega) (by omega)]; omega), b205_87]
      (try simp only [(RS.ok hR), (RS.fr hR), true_and, and_true, true_or, or_true])
      rw [show ii 1 = ii ((1 : Nat) : Int) from rfl]
      refine c197 hR hf f5 (fun h1 z1 y1 => ?_)
      rw [rI_s]
      exact hK h1 _ (z1.wd (by decide) (by decide)) (by rw [z1.fe (by decide)]; exact hp) sm (fun y => by omega) (fun _ => y1)
    · rw [if_neg (by rw [show ii 5 = ii ((5 : Nat) : Int) from rfl, ii_lt (by omega) (by omega) (by omega) (by omega)]; omega), hx]
      rw [if_pos (by rw [ii_le (by omega) (by omega) (by omega) (by omega)]; omega), rI_s]
      exact hK h _ RF.rf hp sm (fun y => ⟨by rw [if_pos y], hf⟩) (fun y => by omega)
  induction k with
  | zero =>
    intro e h h1 h2 h3 h4 hR hT hp hf hK
    rw [rnE_n (by omega)] at h3
    refine fin e h h2 (by omega) h3.symm h4 hR hT hp hf hK ?_
    unfold sgn
    rw [if_neg (by omega)]
    omega
  | succ k ih =>
    intro e h h1 h2 h3 h4 hR hT hp hf hK
    have n4 := hT.2.1
    have bb := hb e (by omega)
    have se : sgn B n e = B e % 256 := if_pos (by omega)
    by_cases g : isDg (B e) = true
    · have gi := isDg_i.mp g
      have sm := small e h4 h2
      rw [rnE_y (by omega) g] at h3
      have h4' : ∀ j, q ≤ j → j < e + 1 → isDg (B j) = true := fun j j1 j2 => by
        by_cases c2 : j = e
        · rw [c2]; exact g
        · exact h4 j j1 (by omega)
      rw [b205_25]
      (try simp only [(RS.ok hR), (RS.fr hR), true_and, and_true, true_or, or_true])
      rw [c200 hR hT hb hp (by omega), if_pos (show 48 ≤ sgn B n e ∧ sgn B n e ≤ 57 by omega), if_neg (show ¬ ii 1 = ii 0 by decide)]
      simp only [(RS.ok hR), (RS.fr hR), true_and, and_true, true_or, or_true, hp]
      rw [show ii (e : Nat) - ii (q : Nat) = ii ((e - q : Nat) : Int) by rw [ii_sub]; exact congrArg ii (by omega)]
      have t28 : tgK (kd h 148) 28 = some 0 := hR.tg.2.1
      have z := RF.sF (x := ii ((e + 1 : Nat) : Int)) t28
      have z2 : RF [28, 29] [] h (sF h 148 28 (.int (ii ((e + 1 : Nat) : Int)))) := z.1.wd (by decide) (by decide)
      have ih := ih (e + 1) _ (by omega) (by omega) h3 h4' (z.1.rs hR (by decide)) (hT.z z.1 (by decide) (by decide)) z.2 (by rw [z.1.fe (by decide)]; exact hf) (fun h1 v z1 a b c e => hK h1 v (z2.tr z1) a b c e)
      by_cases g5 : 5 ≤ e - q
      · rw [if_pos (by rw [show ii 5 = ii ((5 : Nat) : Int) from rfl, ii_le (by omega) (by omega) (by omega) (by omega)]; omega), b205_58]
        simp only [(RS.ok hR), (RS.fr hR), true_and, and_true, true_or, or_true, hR.op, hp]
        rw [show ii (e : Nat) + ii 1 = ii ((e + 1 : Nat) : Int) from ii_add _ _]
        rw [if_neg (by omega)] at ih
        have e5 : (if e - q ≤ 5 then e - q else 5) = 5 := by split <;> omega
        rw [e5]
        exact ih
      · rw [if_neg (by rw [show ii 5 = ii ((5 : Nat) : Int) from rfl, ii_le (by omega) (by omega) (by omega) (by omega)]; omega)]
        rw [c198 hR hT hb hp (by omega), b205_58]
        simp only [(RS.ok hR), (RS.fr hR), true_and, and_true, true_or, or_true, hR.op, hp]
        rw [show ii (e : Nat) + ii 1 = ii ((e + 1 : Nat) : Int) from ii_add _ _]
        rw [if_pos (by omega), show e + 1 - q = (e - q) + 1 by omega, nuV_s, show q + (e - q) = e by omega] at ih
        rw [if_pos (by omega)]
        have ev : ii 10 * ii (nuV B q (e - q) : Nat) + ii (sgn B n e) - ii 48 = ii ((nuV B q (e - q) * 10 + (B e - 48).toNat : Nat) : Int) := by
          rw [ii_mul, ii_add, ii_sub]
          exact congrArg ii (by omega)
        rw [ev]
        exact ih
    · rw [rnE_n (fun y => g y.2)] at h3
      refine fin e h h2 (by omega) h3.symm h4 hR hT hp hf hK ?_
      intro y
      exact g (isDg_i.mpr (by omega))
theorem c205 {K : Int32 → mHeap → Prop} (hR : RS h) (hT : RTx h B n) (hb : Byt B n) (hp : fI h 148 28 = ii (q : Nat)) (hq : q ≤ n) (hl : Pl B n q t) (hf : fI h 148 29 = ii (f : Nat)) (f5 : f < 100000) (hN : t < 1001 → ∀ h1, RF [28, 29] [] h h1 → fI h1 148 28 = ii (q : Nat) → fI h1 148 29 = ii (fa f q 0 : Nat) → K (ii 0) h1) (hY : 1001 ≤ t → ∀ h1 v, RF [28, 29] [] h h1 → fI h1 148 28 = ii ((tok B n q).2 : Nat) → v ≤ 99999 → (¬ t = 101001 → v + 1001 = t ∧ fI h1 148 29 = ii (f : Nat)) → (t = 101001 → fI h1 148 29 = ii (fa f q 1 : Nat)) → K (ii (v : Nat)) h1) : GoCi (d + 3) 205 [.ref 148, .int (ii 99999)] h K := by
  have n4 := hT.2.1
  have pd := pl_dg hb hl
  rw [e205, b205_0]
  (try simp only [(RS.ok hR), (RS.fr hR), true_and, and_true, true_or, or_true])
  rw [c200 hR hT hb hp (by omega)]
  by_cases g : 1001 ≤ t
  · rw [if_pos (pd.mpr g), if_pos (by decide)]
    simp only [(RS.ok hR), (RS.fr hR), true_and, and_true, true_or, or_true, hp]
    obtain ⟨q1, q2⟩ := pl_ne hl (by omega)
    have dg : isDg (B q) = true ∧ (tok B n q).2 = rnE isDg B n q ∧ ¬ isSm (B q) = true := by
      rcases tok_k (B := B) q1 with ⟨_, y, _⟩ | ⟨y0, y, _, y2⟩ | ⟨_, _, ⟨_, _, y, _⟩ | ⟨_, y, _⟩⟩
      · omega
      · exact ⟨y, y2, y0⟩
      · omega
      · have := hb q q1; omega
    have ek : (tok B n q).1 = (if 5 < rnE isDg B n q - q then 101000 else 1000 + nuV B q (rnE isDg B n q - q)) := by
      unfold tok
      rw [if_neg dg.2.2, if_pos dg.1]
    have L := c205_25 (d := d) (K := K) (x1 := ii 99999) rfl hb q1 dg.1 f5 (n - q) q h (by omega) (Nat.le_refl q) rfl (fun j j1 j2 => absurd j2 (by omega)) hR hT hp hf (fun h1 v z1 a b c e => by
      refine hY g h1 v z1 (by rw [dg.2.1]; exact a) b (fun y => ?_) (fun y => ?_)
      · by_cases c5 : 5 < rnE isDg B n q - q
        · rw [if_pos c5] at ek; omega
        · rw [if_neg c5] at ek
          have := c (by omega)
          exact ⟨by omega, this.2⟩
      · by_cases c5 : 5 < rnE isDg B n q - q
        · exact e c5
        · rw [if_neg c5] at ek
          have := c (by omega)
          omega)
    rw [Nat.sub_self, if_pos (by decide)] at L
    exact L
  · rw [if_neg (fun y => g (pd.mp y)), if_neg (fun y => y rfl)]
    simp only [(RS.ok hR), (RS.fr hR), true_and, and_true, true_or, or_true, hp]
    rw [show GoCv (d + 2) 197 [.ref 148, .int (ii 0), .int (ii (q : Nat))] h _ = GoCv (d + 2) 197 [.ref 148, .int (ii ((0 : Nat) : Int)), .int (ii (q : Nat))] h _ from rfl]
    refine c197 hR hf f5 (fun h1 z1 y1 => ?_)
    rw [rI_s]
    exact hN (by omega) h1 (z1.wd (by decide) (by decide)) (by rw [z1.fe (by decide)]; exact hp) y1
end Te
