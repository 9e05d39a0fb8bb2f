/-! THE REFERENCE: what follows from what -/
section Rv2
variable {d : Nat} {h h1 : mHeap} {l : Ld} {m : Mo} {S : List Wd} {P : Pg} {K : Int32 → mHeap → Prop} {x y z : Int} {set s w k n : Nat} {l4 l5 l6 : Option Value}
theorem mtW_iff (hn : n ≤ 8) : mtW n S set w = true ↔ w < 2 ^ n ∧ ∀ i, i < S.length → set.testBit i = true → sy S i w = true := by
  have n256 : 2 ^ n ≤ 256 := pow_le hn
  unfold mtW mtK allW
  rw [Bool.and_eq_true, Bool.and_eq_true, decide_eq_true_eq, decide_eq_true_eq, List.all_eq_true]
  constructor
  · rintro ⟨⟨_, a⟩, b⟩
    refine ⟨a, fun i hi hb => ?_⟩
    have := b i (List.mem_range.mpr hi)
    rw [hb] at this
    exact this
  · rintro ⟨a, b⟩
    refine ⟨⟨by omega, a⟩, fun i hi => ?_⟩
    cases e : set.testBit i with
    | false => rfl
    | true => exact b i (List.mem_range.mp hi) e
theorem c283 (W : Rw h l m S) (hset : set < 4294967296) (hs : s < S.length) : GoCi (d + 3) 283 [.ref 148, .int (ii (set : Nat)), .int (ii (s : Nat))] h K ↔ K (bP (flw (ld_n l) S set s)) h := by
  have s24 := W.s24
  have n8 := W.n8
  have n256 := W.n256
  rw [e283, b283_0]
  have L := downA (n := 2 ^ ld_n l) (P := fun w => (∀ v, v < w → mtW (ld_n l) S set v = true → sy S s v = true) → ∀ l4 l5, (Go (d + 2) 283 2 [some (.ref 148), some (.int (ii (set : Nat))), some (.int (ii (s : Nat))), some (.int (ii (w : Nat))), l4, l5] [] h (rI K) ↔ K (bP (flw (ld_n l) S set s)) h)) (fun g l4 l5 => by
    rw [b283_2]
    (try simp only [(RS.ok W.1), (RS.fr W.1), true_and, and_true, true_or, or_true])
    rw [c191 W, if_pos (Int32.le_refl _), rI_s, bP_t (show flw (ld_n l) S set s from fun i _ hi => g i ((mtW_iff n8).mp hi).1 hi)]) (fun w hw ih g l4 l5 => by
    -- the inner loop
    have I : ∀ l5' : Option Value, (Go (d + 2) 283 75 [some (.ref 148), some (.int (ii (set : Nat))), some (.int (ii (s : Nat))), some (.int (ii (w : Nat))), some (.int (bP (sy S s w = false ∧ ∀ i, i < S.length → set.testBit i = true → sy S i w = true))), l5'] [] h (rI K) ↔ K (bP (flw (ld_n l) S set s)) h) := fun l5' => by
      rw [b283_75]
      by_cases c : sy S s w = false ∧ ∀ i, i < S.length → set.testBit i = true → sy S i w = true
      · rw [bP_t c, if_neg (by decide), rI_s, bP_f (show ¬ flw (ld_n l) S set s from fun f => by
          have := f w (by omega) ((mtW_iff n8).mpr ⟨hw, c.2⟩)
          rw [c.1] at this
          cases this)]
        exact ⟨fun q => q.2, fun q => ⟨Or.inl rfl, q⟩⟩
      · rw [bP_f c, if_pos rfl, show ii (w : Nat) + ii 1 = ii ((w + 1 : Nat) : Int) from ii_add _ _]
        refine ih (fun v hv a => ?_) _ _
        by_cases e : v = w
        · subst e
          cases e2 : sy S s v with
          | true => rfl
          | false => exact absurd ⟨e2, ((mtW_iff n8).mp a).2⟩ c
        · exact g v (by omega) a
    have J := downA (n := S.length) (P := fun j => (Go (d + 2) 283 29 [some (.ref 148), some (.int (ii (set : Nat))), some (.int (ii (s : Nat))), some (.int (ii (w : Nat))), some (.int (bP (sy S s w = false ∧ ∀ i, i < j → set.testBit i = true → sy S i w = true))), some (.int (ii (j : Nat)))] [] h (rI K) ↔ K (bP (flw (ld_n l) S set s)) h)) (by
      rw [b283_29]
      simp only [(RS.ok W.1), (RS.fr W.1), true_and, and_true, true_or, or_true, W.ns]
      rw [if_pos (Int32.le_refl _)]
      exact I _) (fun j hj ih2 => by
      have nx : ∀ b : Prop, (b ↔ sy S s w = false ∧ ∀ i, i < j + 1 → set.testBit i = true → sy S i w = true) → (Go (d + 2) 283 29 [some (.ref 148), some (.int (ii (set : Nat))), some (.int (ii (s : Nat))), some (.int (ii (w : Nat))), some (.int (bP b)), some (.int (ii (j : Nat) + ii 1))] [] h (rI K) ↔ K (bP (flw (ld_n l) S set s)) h) := fun b hb => by
        rw [bP_cong hb, show ii (j : Nat) + ii 1 = ii ((j + 1 : Nat) : Int) from ii_add _ _]
        exact ih2
      rw [b283_29]
      simp only [(RS.ok W.1), (RS.fr W.1), true_and, and_true, true_or, or_true, W.ns]
      rw [if_neg (by rw [ii_le (by omega) (by omega) (by omega) (by omega)]; omega)]
      by_cases c : sy S s w = false ∧ ∀ i, i < j → set.testBit i = true → sy S i w = true
      · rw [if_neg (by rw [bP_0]; exact fun n => n c)]
        rw [c185 (by omega), wb_ii (by omega)]
        have yes : (set.testBit j = true → sy S j w = true) → (Go (d + 2) 283 62 [some (.ref 148), some (.int (ii (set : Nat))), some (.int (ii (s : Nat))), some (.int (ii (w : Nat))), some (.int (bP (sy S s w = false ∧ ∀ i, i < j → set.testBit i = true → sy S i w = true))), some (.int (ii (j : Nat)))] [] h (rI K) ↔ K (bP (flw (ld_n l) S set s)) h) := fun y => by
          rw [b283_62, b283_67]
          have := nx True ⟨fun _ => ⟨c.1, fun i hi a => by
            by_cases e : i = j
            · subst e; exact y a
            · exact c.2 i (by omega) a⟩, fun _ => trivial⟩
          rw [bP_t trivial] at this
          exact this
        cases e : set.testBit j with
        | false =>
          rw [if_neg Bool.false_ne_true, if_pos rfl]
          exact yes (fun a => by rw [e] at a; cases a)
        | true =>
          rw [if_pos rfl, if_neg (by decide)]
          (try simp only [(RS.ok W.1), (RS.fr W.1), true_and, and_true, true_or, or_true])
          rw [c250 W.1 (by omega) (by omega), W.ss hj]
          cases e2 : sy S j w with
          | true =>
            rw [if_pos rfl, if_neg (by decide)]
            exact yes (fun _ => e2)
          | false =>
            rw [if_neg Bool.false_ne_true, if_pos rfl, b283_67]
            have := nx False ⟨fun n => n.elim, fun n => by have := n.2 j (by omega) e; rw [e2] at this; cases this⟩
            rw [bP_f (fun n : False => n)] at this
            exact this
      · rw [if_pos (by rw [bP_0]; exact c)]
        have e : bP (sy S s w = false ∧ ∀ i, i < j → set.testBit i = true → sy S i w = true) = bP (sy S s w = false ∧ ∀ i, i < S.length → set.testBit i = true → sy S i w = true) := by
          rw [bP_f c, bP_f (fun n => c ⟨n.1, fun i hi => n.2 i (by omega)⟩)]
        rw [e]
        exact I _) (Nat.zero_le _)
    rw [b283_2]
    (try simp only [(RS.ok W.1), (RS.fr W.1), true_and, and_true, true_or, or_true])
    rw [c191 W, if_neg (by rw [ii_le (by omega) (by omega) (by omega) (by omega)]; omega)]
    (try simp only [(RS.ok W.1), (RS.fr W.1), true_and, and_true, true_or, or_true])
    rw [c250 W.1 (by omega) (by omega), W.ss hs]
    cases e : sy S s w with
    | true =>
      rw [if_pos rfl, if_pos (by decide), b283_24]
      rw [e] at J
      rw [bP_f (fun n : true = false ∧ _ => by cases n.1)] at J
      exact J
    | false =>
      rw [if_neg Bool.false_ne_true, if_neg (fun n => n rfl), b283_24]
      rw [e] at J
      rw [bP_t (show false = false ∧ ∀ i, i < 0 → set.testBit i = true → sy S i w = true from ⟨rfl, fun i hi => absurd hi (Nat.not_lt_zero _)⟩)] at J
      exact J) (Nat.zero_le _) (fun v hv => absurd hv (Nat.not_lt_zero _)) none none
  exact L
theorem c284 (W : Rw h (pg_l P) (pg_m P) S) (hz : i32 z) : GoCi (d + 2) 284 [.ref 148, .int (ii z)] h K ↔ K (if isSe S z ∧ 0 < ld_n (pg_l P) then ii 1 else ii 0) h := by
  have s24 := W.s24
  rw [e284, b284_0]
  (try simp only [(RS.ok W.1), (RS.fr W.1), true_and, and_true, true_or, or_true])
  rw [c186 W]
  by_cases c : 0 < ld_n (pg_l P)
  · rw [if_pos c, if_neg (by decide)]
    simp only [(RS.ok W.1), (RS.fr W.1), true_and, and_true, true_or, or_true, W.ns]
    rw [shl1 (by omega)]
    have p24 : (2 : Nat) ^ S.length ≤ 2 ^ 24 := p2_6 s24
    have e : ((2 ^ S.length : Nat) : Int) = (2 : Int) ^ S.length := p2i _
    rw [cin hz (by rw [e]; exact Int.le_of_lt (Int.pow_pos (by decide))) (by omega)]
    by_cases c2 : isSe S z
    · rw [if_pos (show 0 ≤ z ∧ z < ((2 ^ S.length : Nat) : Int) by rw [e]; exact c2), if_neg (by decide), rI_s, if_pos ⟨c2, c⟩]
    · rw [if_neg (show ¬ (0 ≤ z ∧ z < ((2 ^ S.length : Nat) : Int)) by rw [e]; exact c2), if_pos rfl, rI_s, if_neg (fun g => c2 g.1)]
  · rw [if_neg c, if_pos rfl, rI_s, if_neg (fun g => c g.2)]
theorem se_nat {S : List Wd} (s24 : S.length ≤ 24) (c : isSe S z) : ∃ n : Nat, z = n ∧ n < 16777216 := by
  obtain ⟨n, rfl⟩ := nat_of c.1
  exact ⟨n, rfl, (se_lt s24 c).1⟩
theorem bq_bP {p : Prop} : (if bP p = ii 0 then ii 0 else ii 1) = ii (bq p) := by
  by_cases c : p
  · rw [bP_t c, if_neg (by decide)]; unfold bq; rw [iteP_t c]
  · rw [bP_f c, if_pos rfl]; unfold bq; rw [iteP_f c]
theorem c285 (W : Rw h (pg_l P) (pg_m P) S) (hy : i32 y) (hz : i32 z) : GoCi (d + 4) 285 [.ref 148, .int (ii y), .int (ii z)] h K ↔ K (ii (vFollows P S y z)) h := by
  have s24 := W.s24
  rw [e285, b285_0]
  (try simp only [(RS.ok W.1), (RS.fr W.1), true_and, and_true, true_or, or_true])
  rw [c284 W hy]
  unfold vFollows
  by_cases c : isSe S y ∧ 0 < ld_n (pg_l P)
  · rw [if_pos c, if_neg (by decide)]
    (try simp only [(RS.ok W.1), (RS.fr W.1), true_and, and_true, true_or, or_true])
    rw [c190 W hz]
    by_cases c2 : 0 ≤ z ∧ z < S.length
    · rw [if_pos c2, if_neg (by decide), if_pos ⟨⟨c.1, c2⟩, c.2⟩]
      obtain ⟨n, rfl, hn⟩ := se_nat s24 c.1
      obtain ⟨k, rfl⟩ := nat_of c2.1
      (try simp only [(RS.ok W.1), (RS.fr W.1), true_and, and_true, true_or, or_true])
      rw [c283 W (by omega) (by omega)]
      show _ ↔ K (ii (bq (flw (ld_n (pg_l P)) S n k))) h
      by_cases g : flw (ld_n (pg_l P)) S n k
      · rw [bP_t g, if_neg (by decide), rI_s]; unfold bq; rw [iteP_t g]
      · rw [bP_f g, if_pos rfl, rI_s]; unfold bq; rw [iteP_f g]
    · rw [if_neg c2, if_pos rfl, if_neg (fun g => c2 g.1.2), rI_s]
  · rw [if_neg c, if_pos rfl, if_neg (fun g => c ⟨g.1.1, g.2⟩), rI_s]
theorem c287 (W : Rw h (pg_l P) (pg_m P) S) (hy : i32 y) (hz : i32 z) : GoCi (d + 3) 287 [.ref 148, .int (ii y), .int (ii z)] h K ↔ K (ii (vOpp P S y z)) h := by
  have s24 := W.s24
  have n256 := W.n256
  rw [e287, b287_0]
  (try simp only [(RS.ok W.1), (RS.fr W.1), true_and, and_true, true_or, or_true])
  rw [c190 W hy]
  unfold vOpp
  by_cases c : 0 ≤ y ∧ y < S.length
  · rw [if_pos c, if_neg (by decide)]
    (try simp only [(RS.ok W.1), (RS.fr W.1), true_and, and_true, true_or, or_true])
    rw [c190 W hz]
    by_cases c2 : 0 ≤ z ∧ z < S.length
    · rw [if_pos c2, if_neg (by decide)]
      by_cases c3 : y = z
      · rw [if_pos (by rw [c3]), rI_s, if_neg (fun g => g.1.2.2 c3)]
      · rw [if_neg (by rw [ii_eq hy.1 hy.2 hz.1 hz.2]; exact c3)]
        (try simp only [(RS.ok W.1), (RS.fr W.1), true_and, and_true, true_or, or_true])
        rw [c186 W]
        by_cases c4 : 0 < ld_n (pg_l P)
        · rw [if_pos c4, if_pos (by decide), if_pos ⟨⟨c, c2, c3⟩, c4⟩]
          obtain ⟨a, rfl⟩ := nat_of c.1
          obtain ⟨b, rfl⟩ := nat_of c2.1
          have ha : a < S.length := by omega
          have hb : b < S.length := by omega
          show _ ↔ K (ii (bq (dis (fun w => allW (ld_n (pg_l P)) w && sy S a w) (sy S b)))) h
          have al : ∀ w, allW (ld_n (pg_l P)) w = true ↔ w < 2 ^ ld_n (pg_l P) := fun w => by
            unfold allW
            rw [Bool.and_eq_true, decide_eq_true_eq, decide_eq_true_eq]
            exact ⟨fun q => q.2, fun q => ⟨by omega, q⟩⟩
          have L := downA (n := 2 ^ ld_n (pg_l P)) (P := fun w => (∀ v, v < w → sy S a v = true → sy S b v = false) → (Go (d + 2) 287 32 [some (.ref 148), some (.int (ii (a : Nat))), some (.int (ii (b : Nat))), some (.int (ii (w : Nat)))] [] h (rI K) ↔ K (ii (bq (dis (fun w => allW (ld_n (pg_l P)) w && sy S a w) (sy S b)))) h)) (fun g => by
            rw [b287_32]
            (try simp only [(RS.ok W.1), (RS.fr W.1), true_and, and_true, true_or, or_true])
            rw [c191 W, if_pos (Int32.le_refl _), rI_s]
            have : dis (fun w => allW (ld_n (pg_l P)) w && sy S a w) (sy S b) := fun i hi q => by
              have q : (allW (ld_n (pg_l P)) i && sy S a i) = true := q
              rw [Bool.and_eq_true] at q
              exact g i ((al i).mp q.1) q.2
            unfold bq
            rw [iteP_t this]) (fun w hw ih g => by
            have nx : (sy S a w = true → sy S b w = false) → (Go (d + 2) 287 60 [some (.ref 148), some (.int (ii (a : Nat))), some (.int (ii (b : Nat))), some (.int (ii (w : Nat)))] [] h (rI K) ↔ K (ii (bq (dis (fun w => allW (ld_n (pg_l P)) w && sy S a w) (sy S b)))) h) := fun q => by
              rw [b287_60, show ii (w : Nat) + ii 1 = ii ((w + 1 : Nat) : Int) from ii_add _ _]
              exact ih (fun v hv r => by
                by_cases e : v = w
                · subst e; exact q r
                · exact g v (by omega) r)
            rw [b287_32]
            (try simp only [(RS.ok W.1), (RS.fr W.1), true_and, and_true, true_or, or_true])
            rw [c191 W, if_neg (by rw [ii_le (by omega) (by omega) (by omega) (by omega)]; omega)]
            (try simp only [(RS.ok W.1), (RS.fr W.1), true_and, and_true, true_or, or_true])
            rw [c250 W.1 (by omega) (by omega), W.ss ha]
            cases e : sy S a w with
            | false =>
              rw [if_neg Bool.false_ne_true, if_pos rfl]
              exact nx (fun r => by rw [e] at r; cases r)
            | true =>
              rw [if_pos rfl, if_neg (by decide)]
              (try simp only [(RS.ok W.1), (RS.fr W.1), true_and, and_true, true_or, or_true])
              rw [c250 W.1 (by omega) (by omega), W.ss hb]
              cases e2 : sy S b w with
              | false =>
                rw [if_neg Bool.false_ne_true, if_pos rfl]
                exact nx (fun _ => e2)
              | true =>
                rw [if_pos rfl, if_neg (by decide), rI_s]
                have : ¬ dis (fun w => allW (ld_n (pg_l P)) w && sy S a w) (sy S b) := fun q => by
                  have := q w (by omega) (by show (allW (ld_n (pg_l P)) w && sy S a w) = true; rw [(al w).mpr hw, e]; rfl)
                  rw [e2] at this
                  cases this
                unfold bq
                rw [iteP_f this]) (Nat.zero_le _) (fun v hv => absurd hv (Nat.not_lt_zero _))
          exact L
        · rw [if_neg c4, if_neg (by decide), rI_s, if_neg (fun g => c4 g.2)]
    · rw [if_neg c2, if_pos rfl, if_neg (fun g => c2 g.1.2.1), rI_s]
  · rw [if_neg c, if_pos rfl, if_neg (fun g => c g.1.1), rI_s]
end Rv2
