/-! THE TEXT: its tokens are read -/
section Lx2
variable {d n : Nat} {h h1 h2 : mHeap} {B : Bt} {T : List (Nat × Nat)}
theorem c100t {K : mHeap → Prop} (hT : TxS h) (hP : LxP h T) (hl : T.length < 401) {t w : Nat} (hK : ∀ h1, txF h h1 → LxP h1 (T ++ [(t + 1, w)]) → K h1) : GoCv (d + 1) 100 [.ref 65, .int (ii (t : Int)), .int (ii w)] h K := by
  have e : ii (t : Int) = ii (((t + 1 : Nat) : Int) - 1) := by
    congr 1
    omega
  rw [e]
  exact c100 hT hP hl hK
theorem rnE_all {p : Int → Bool} : ∀ k q, q + k = n → ∀ j, q ≤ j → j < rnE p B n q → p (B j) = true
  | 0, q, hk, j, h1, h2 => by
    have := rnE_le (p := p) (B := B) (n := n) q (by omega)
    omega
  | k + 1, q, hk, j, h1, h2 => by
    by_cases c : q < n ∧ p (B q) = true
    · rw [rnE_y c.1 c.2] at h2
      by_cases e : j = q
      · rw [e]; exact c.2
      · exact rnE_all k (q + 1) (by omega) j (by omega) h2
    · rw [rnE_n c] at h2
      omega
theorem nuV_s {q k : Nat} : nuV B q (k + 1) = nuV B q k * 10 + (B (q + k) - 48).toNat := rfl
theorem nuV_lt {q : Nat} : ∀ k, (∀ i, i < k → isDg (B (q + i)) = true) → nuV B q k < 10 ^ k
  | 0, _ => by show 0 < 10 ^ 0; decide
  | k + 1, hd => by
    have ih := nuV_lt k (fun i hi => hd i (by omega))
    have e := hd k (by omega)
    unfold isDg at e
    have e' := of_decide_eq_true e
    rw [nuV_s, Nat.pow_succ]
    omega
theorem wdT_le {q len : Nat} : ∀ ws k, 258 ≤ k → wdT B q len ws k ≤ k + List.length ws
  | [], k, h => h
  | w :: ws, k, h => by
    have ih := wdT_le (q := q) (len := len) ws (k + 1) (by omega)
    show (if mtc B q len w = true then k else wdT B q len ws (k + 1)) ≤ k + (ws.length + 1)
    split <;> omega
theorem tok_lt {q : Nat} (hq : q < n) (hb : -128 ≤ B q ∧ B q ≤ 127) : (tok B n q).1 ≤ 101000 := by
  unfold tok
  by_cases c1 : isSm (B q) = true
  · rw [if_pos c1]
    have := wdT_le (B := B) (q := q) (len := rnE isSm B n (q + 1) - q) wrds 300 (by decide)
    have w19 : wrds.length = 19 := by decide
    show (if 1 < rnE isSm B n (q + 1) - q then wdT B q (rnE isSm B n (q + 1) - q) wrds 300 else if B q - 97 < 8 then (260 + (B q - 97)).toNat else 258) ≤ 101000
    split
    · omega
    · split <;> omega
  rw [if_neg c1]
  by_cases c2 : isDg (B q) = true
  · rw [if_pos c2]
    have le := rnE_le (p := isDg) (B := B) (n := n) q (by omega)
    have al := rnE_all (p := isDg) (B := B) (n := n) (n - q) q (by omega)
    show (if 5 < rnE isDg B n q - q then 101000 else 1000 + nuV B q (rnE isDg B n q - q)) ≤ 101000
    split
    · exact Nat.le_refl _
    · have := nuV_lt (B := B) (q := q) (rnE isDg B n q - q) (fun i hi => al (q + i) (by omega) (by omega))
      have p10 : 10 ^ (rnE isDg B n q - q) ≤ 10 ^ 5 := Nat.pow_le_pow_right (by decide) (by omega)
      have : (10 : Nat) ^ 5 = 100000 := by decide
      omega
  rw [if_neg c2]
  split
  · show (if B q = 60 then 256 else 257) ≤ 101000
    split <;> omega
  · show (B q % 256).toNat ≤ 101000
    omega
theorem and255 : ∀ z : Nat, z < 256 → ii ((z : Int) - 128) &&& ii 255 = ii ((((z : Int) - 128) % 256).toNat : Int) := by decide +kernel
/-- addWord -/
theorem c102 {K : Int32 → mHeap → Prop} (hSt : St h) (hT : TxS h) (hB : TxB h B n) (hP : LxP h T) (hl : T.length < 401) {q : Nat} (hq : q < n) (hs : isSm (B q) = true) (hK : ∀ h1, txF h h1 → LxP h1 (T ++ [((tok B n q).1 + 1, q)]) → K (ii (tok B n q).2) h1) : GoCi (d + 7) 102 [.ref 65, .int (ii q)] h K := by
  have n4 := hB.2.1
  have le := rnE_le (p := isSm) (B := B) (n := n) (q + 1) (by omega)
  have et : tok B n q = (if 1 < rnE isSm B n (q + 1) - q then wdT B q (rnE isSm B n (q + 1) - q) wrds 300 else if B q - 97 < 8 then (260 + (B q - 97)).toNat else 258, rnE isSm B n (q + 1)) := by
    unfold tok
    rw [if_pos hs]
  have e1 : ii (q : Int) + ii 1 = ii ((q + 1 : Nat) : Int) := by rw [ii_add]; rfl
  rw [e102, b102_0, e1]
  have lp : ∀ k t, t + k = n → (∀ l3, Go (d + 6) 102 26 [some (.ref 65), some (.int (ii q)), some (.int (ii (rnE isSm B n t : Nat))), l3] [] h (rI K)) → ∀ l3, Go (d + 6) 102 4 [some (.ref 65), some (.int (ii q)), some (.int (ii t)), l3] [] h (rI K) := by
    intro k
    induction k with
    | zero =>
      intro t ht hg l3
      rw [b102_4]
      simp only [TxS_ok hT, hB.1, true_and]
      rw [if_pos (by rw [ii_le (by omega) (by omega) (by omega) (by omega)]; omega)]
      have := hg l3
      rw [rnE_n (by omega)] at this
      exact this
    | succ k ih =>
      intro t ht hg l3
      have ek : ii (t : Int) + ii 1 = ii ((t + 1 : Nat) : Int) := by rw [ii_add]; rfl
      rw [b102_4]
      simp only [TxS_ok hT, hB.1, true_and]
      rw [if_neg (by rw [ii_le (by omega) (by omega) (by omega) (by omega)]; omega)]
      rw [c105 hT hB (by omega)]
      by_cases c : isSm (B t) = true
      · rw [if_pos c, if_neg (by decide), ek]
        refine ih (t + 1) (by omega) ?_ l3
        rw [← rnE_y (by omega) c]
        exact hg
      · rw [if_neg c, if_pos rfl]
        have := hg l3
        rw [rnE_n (fun g => c g.2)] at this
        exact this
  refine lp (n - (q + 1)) (q + 1) (by omega) (fun l3 => ?_) none
  have by1 := byt_ok hT hB hq
  have br := (hB.2.2 q hq).2
  rw [et] at hK
  generalize rnE isSm B n (q + 1) = e at *
  have sm : 97 ≤ B q ∧ B q ≤ 122 := by
    unfold isSm at hs
    exact of_decide_eq_true hs
  rw [b102_26]
  simp only [TxS_ok hT, true_and, by1, ii_sub]
  by_cases c : 1 < e - q
  · rw [if_neg (by rw [show ii 1 = ii (1 : Int) from rfl, ii_le (by omega) (by omega) (by omega) (by omega)]; omega)]
    have e2 : ii ((e : Int) - (q : Int)) = ii ((e - q : Nat) : Int) := by
      congr 1
      omega
    rw [e2]
    refine c103 hSt hT hB (by omega) ?_
    refine ⟨(TxS_ok hT).2.2.2.2.2.2.2.2.2.2, ?_⟩
    refine c100t (d := d + 5) hT hP hl (fun h1 F1 P1 => ?_)
    rw [rI_s]
    have := hK h1 F1
    simp only [if_pos c] at this
    exact this P1
  · rw [if_pos (by rw [show ii 1 = ii (1 : Int) from rfl, ii_le (by omega) (by omega) (by omega) (by omega)]; omega)]
    simp only [if_neg c] at hK
    by_cases c8 : B q - 97 < 8
    · rw [if_neg (by rw [show ii 8 = ii (8 : Int) from rfl, ii_le (by omega) (by omega) (by omega) (by omega)]; omega)]
      have e3 : ii 260 + ii (B q - 97) = ii (((260 + (B q - 97)).toNat : Nat) : Int) := by
        rw [ii_add]
        congr 1
        omega
      rw [e3, b102_77]
      refine ⟨(TxS_ok hT).2.2.2.2.2.2.2.2.2.2, ?_⟩
      refine c100t (d := d + 5) hT hP hl (fun h1 F1 P1 => ?_)
      rw [rI_s]
      have := hK h1 F1
      rw [if_pos c8] at this
      exact this P1
    · rw [if_pos (by rw [show ii 8 = ii (8 : Int) from rfl, ii_le (by omega) (by omega) (by omega) (by omega)]; omega)]
      rw [b102_77]
      refine ⟨(TxS_ok hT).2.2.2.2.2.2.2.2.2.2, ?_⟩
      refine c100t (d := d + 5) (t := 258) hT hP hl (fun h1 F1 P1 => ?_)
      rw [rI_s]
      have := hK h1 F1
      rw [if_neg c8] at this
      exact this P1
/-- addNumber -/
theorem c104 {K : Int32 → mHeap → Prop} (hT : TxS h) (hB : TxB h B n) (hP : LxP h T) (hl : T.length < 401) {q : Nat} (hq : q < n) (hs : ¬ isSm (B q) = true) (hd : isDg (B q) = true) (hK : ∀ h1, txF h h1 → LxP h1 (T ++ [((tok B n q).1 + 1, q)]) → K (ii (tok B n q).2) h1) : GoCi (d + 3) 104 [.ref 65, .int (ii q)] h K := by
  have n4 := hB.2.1
  have le := rnE_le (p := isDg) (B := B) (n := n) q (by omega)
  have al := rnE_all (p := isDg) (B := B) (n := n) (n - q) q (by omega)
  have et : tok B n q = (if 5 < rnE isDg B n q - q then 101000 else 1000 + nuV B q (rnE isDg B n q - q), rnE isDg B n q) := by
    unfold tok
    rw [if_neg hs, if_pos hd]
  rw [e104, b104_0]
  have lp : ∀ k t, t + k = n → q ≤ t → (Go (d + 2) 104 48 [some (.ref 65), some (.int (ii q)), some (.int (ii (rnE isDg B n t : Nat))), some (.int (ii (nuV B q (min (rnE isDg B n t - q) 5) : Nat)))] [] h (rI K)) → Go (d + 2) 104 4 [some (.ref 65), some (.int (ii q)), some (.int (ii t)), some (.int (ii (nuV B q (min (t - q) 5) : Nat)))] [] h (rI K) := by
    intro k
    induction k with
    | zero =>
      intro t ht hqt hg
      rw [b104_4]
      simp only [TxS_ok hT, hB.1, true_and]
      rw [if_pos (by rw [ii_le (by omega) (by omega) (by omega) (by omega)]; omega)]
      rw [rnE_n (by omega)] at hg
      exact hg
    | succ k ih =>
      intro t ht hqt hg
      have ek : ii (t : Int) + ii 1 = ii ((t + 1 : Nat) : Int) := by rw [ii_add]; rfl
      rw [b104_4]
      simp only [TxS_ok hT, hB.1, true_and]
      rw [if_neg (by rw [ii_le (by omega) (by omega) (by omega) (by omega)]; omega)]
      rw [c106 hT hB (by omega)]
      by_cases c : isDg (B t) = true
      · rw [if_pos c, if_neg (by decide)]
        have hg' := hg
        rw [rnE_y (by omega) c] at hg'
        have := ih (t + 1) (by omega) (by omega) hg'
        simp only [ii_sub]
        by_cases c5 : 5 ≤ t - q
        · rw [if_pos (by rw [show ii 5 = ii (5 : Int) from rfl, ii_le (by omega) (by omega) (by omega) (by omega)]; omega), b104_42, ek]
          rw [show min (t + 1 - q) 5 = min (t - q) 5 by omega] at this
          exact this
        · rw [if_neg (by rw [show ii 5 = ii (5 : Int) from rfl, ii_le (by omega) (by omega) (by omega) (by omega)]; omega)]
          have by1 := byt_ok hT hB (show t < n by omega)
          simp only [TxS_ok hT, true_and, by1]
          rw [b104_42, ek]
          rw [show min (t + 1 - q) 5 = (t - q) + 1 by omega, nuV_s, show q + (t - q) = t by omega] at this
          rw [show min (t - q) 5 = t - q by omega]
          have dg : 48 ≤ B t := by
            unfold isDg at c
            exact (of_decide_eq_true c).1
          have ev : ii (nuV B q (t - q) : Nat) * ii 10 + ii (B t) - ii 48 = ii ((nuV B q (t - q) * 10 + (B t - 48).toNat : Nat) : Int) := by
            rw [ii_mul, ii_add, ii_sub]
            congr 1
            omega
          rw [ev]
          exact this
      · rw [if_neg c, if_pos rfl]
        rw [rnE_n (fun g => c g.2)] at hg
        exact hg
  have start := lp (n - q) q (by omega) (Nat.le_refl _)
  rw [show min (q - q) 5 = 0 by omega] at start
  refine start ?_
  rw [et] at hK
  generalize rnE isDg B n q = e at *
  rw [b104_48]
  simp only [ii_sub]
  by_cases c : 5 < e - q
  · rw [if_neg (by rw [show ii 5 = ii (5 : Int) from rfl, ii_le (by omega) (by omega) (by omega) (by omega)]; omega)]
    rw [b104_66]
    refine ⟨(TxS_ok hT).2.2.2.2.2.2.2.2.2.2, ?_⟩
    refine c100t (d := d + 1) (t := 101000) hT hP hl (fun h1 F1 P1 => ?_)
    rw [rI_s]
    have := hK h1 F1
    simp only [if_pos c] at this
    exact this P1
  · rw [if_pos (by rw [show ii 5 = ii (5 : Int) from rfl, ii_le (by omega) (by omega) (by omega) (by omega)]; omega)]
    have ev : ii 1000 + ii (nuV B q (min (e - q) 5) : Nat) = ii ((1000 + nuV B q (e - q) : Nat) : Int) := by
      rw [show min (e - q) 5 = e - q by omega, ii_add]
      rfl
    rw [ev, b104_66]
    refine ⟨(TxS_ok hT).2.2.2.2.2.2.2.2.2.2, ?_⟩
    refine c100t (d := d + 1) hT hP hl (fun h1 F1 P1 => ?_)
    rw [rI_s]
    have := hK h1 F1
    simp only [if_neg c] at this
    exact this P1
/-- addToken -/
theorem c101 {K : Int32 → mHeap → Prop} (hSt : St h) (hT : TxS h) (hB : TxB h B n) (hP : LxP h T) (hl : T.length < 401) {q : Nat} (hq : q < n) (hK : ∀ h1, txF h h1 → LxP h1 (T ++ [((tok B n q).1 + 1, q)]) → K (ii (tok B n q).2) h1) : GoCi (d + 8) 101 [.ref 65, .int (ii q)] h K := by
  have n4 := hB.2.1
  have o9 := (TxS_ok hT).2.2.2.2.2.2.2.2.2.2
  have e1 : ii (q : Int) + ii 1 = ii ((q + 1 : Nat) : Int) := by rw [ii_add]; rfl
  have e2 : ii (q : Int) + ii 2 = ii ((q + 2 : Nat) : Int) := by rw [ii_add]; rfl
  rw [e101, b101_0]
  refine ⟨o9, ?_⟩
  rw [c105 hT hB hq]
  by_cases cs : isSm (B q) = true
  · rw [if_pos cs, if_neg (by decide)]
    refine ⟨o9, ?_⟩
    refine c102 hSt hT hB hP hl hq cs (fun h1 F1 P1 => ?_)
    rw [rI_s]
    exact hK h1 F1 P1
  rw [if_neg cs, if_pos rfl]
  refine ⟨o9, ?_⟩
  rw [c106 hT hB hq]
  by_cases cd : isDg (B q) = true
  · rw [if_pos cd, if_neg (by decide)]
    refine ⟨o9, ?_⟩
    refine c104 (d := d + 4) hT hB hP hl hq cs cd (fun h1 F1 P1 => ?_)
    rw [rI_s]
    exact hK h1 F1 P1
  rw [if_neg cd, if_pos rfl]
  have by1 := byt_ok hT hB hq
  have br := (hB.2.2 q hq).2
  have ea : ii (B q) &&& ii 255 = ii ((B q % 256).toNat : Int) := by
    have := and255 (B q + 128).toNat (by omega)
    rw [show (((B q + 128).toNat : Nat) : Int) - 128 = B q by omega] at this
    exact this
  have et : tok B n q = (if q + 1 < n ∧ B (q + 1) = 61 ∧ (B q = 60 ∨ B q = 62) then (if B q = 60 then 256 else 257, q + 2) else ((B q % 256).toNat, q + 1)) := by
    unfold tok
    rw [if_neg cs, if_neg cd]
  rw [et] at hK
  have x60 : ii ((B q % 256).toNat : Int) = ii 60 ↔ B q = 60 := by
    rw [show ii 60 = ii (60 : Int) from rfl, ii_eq (by omega) (by omega) (by omega) (by omega)]
    omega
  have x62 : ii ((B q % 256).toNat : Int) = ii 62 ↔ B q = 62 := by
    rw [show ii 62 = ii (62 : Int) from rfl, ii_eq (by omega) (by omega) (by omega) (by omega)]
    omega
  simp only [TxS_ok hT, true_and, by1, hB.1, ea, e1]
  have plain : ¬ (q + 1 < n ∧ B (q + 1) = 61 ∧ (B q = 60 ∨ B q = 62)) → ∀ l3, Go (d + 7) 101 108 [some (.ref 65), some (.int (ii q)), some (.int (ii ((B q % 256).toNat : Int))), l3] [] h (rI K) := fun c l3 => by
    rw [if_neg c] at hK
    rw [b101_108, e1]
    refine ⟨o9, ?_⟩
    refine c100t (d := d + 6) hT hP hl (fun h1 F1 P1 => ?_)
    rw [rI_s]
    exact hK h1 F1 P1
  have no : ¬ (q + 1 < n ∧ B (q + 1) = 61) → ∀ l3, Go (d + 7) 101 66 [some (.ref 65), some (.int (ii q)), some (.int (ii ((B q % 256).toNat : Int))), l3] [] h (rI K) := fun c l3 => by
    rw [b101_66, b101_67, if_pos rfl]
    exact plain (fun g => c ⟨g.1, g.2.1⟩) _
  by_cases c1 : q + 1 < n
  rotate_left
  · rw [if_pos (by rw [ii_le (by omega) (by omega) (by omega) (by omega)]; omega)]
    exact no (fun g => c1 g.1) _
  rw [if_neg (by rw [ii_le (by omega) (by omega) (by omega) (by omega)]; omega)]
  have by2 := byt_ok hT hB c1
  have br2 := (hB.2.2 (q + 1) c1).2
  refine ⟨by2.1, ?_⟩
  rw [by2.2]
  by_cases c2 : B (q + 1) = 61
  rotate_left
  · rw [if_pos (by rw [show ii 61 = ii (61 : Int) from rfl, ii_eq (by omega) (by omega) (by omega) (by omega)]; exact c2)]
    exact no (fun g => c2 g.2) _
  rw [if_neg (by rw [c2]; exact fun g => g rfl), b101_67, if_neg (by decide)]
  by_cases c60 : B q = 60
  · rw [if_pos (x60.mpr c60), b101_84, if_neg (fun g => g (x60.mpr c60)), b101_100]
    rw [if_pos ⟨c1, c2, Or.inl c60⟩, if_pos c60] at hK
    refine ⟨o9, ?_⟩
    refine c100t (d := d + 6) (t := 256) hT hP hl (fun h1 F1 P1 => ?_)
    rw [rI_s, e2]
    exact hK h1 F1 P1
  rw [if_neg (fun g => c60 (x60.mp g))]
  by_cases c62 : B q = 62
  · rw [if_neg (fun g => g (x62.mpr c62)), b101_84, if_pos (fun g => c60 (x60.mp g)), b101_100]
    rw [if_pos ⟨c1, c2, Or.inr c62⟩, if_neg c60] at hK
    refine ⟨o9, ?_⟩
    refine c100t (d := d + 6) (t := 257) hT hP hl (fun h1 F1 P1 => ?_)
    rw [rI_s, e2]
    exact hK h1 F1 P1
  · rw [if_pos (fun g => c62 (x62.mp g))]
    exact plain (by rintro ⟨_, _, g | g⟩; exact c60 g; exact c62 g) _
end Lx2
