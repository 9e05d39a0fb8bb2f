/-! THE REFERENCE: sets that fit, what to say next -/
section Si2
variable {d : Nat} {h h1 h0 : mHeap} {l : Ld} {m m' : Mo} {S : List Wd} {P : Pg} {s : Cs} {K : Int32 → mHeap → Prop} {x y z : Int} {q k n set : Nat} {Tr : List (Nat × Bool)} {Q : Option Value → mHeap → Prop}
theorem c304 (W : Rw h l m S) : GoCi (d + 1) 304 [.ref 148] h K ↔ K (ii (frs S : Nat)) h := by
  have s24 := W.s24
  rw [e304, b304_0]
  simp only [(RS.ok W.1), (RS.fr W.1), true_and, and_true, true_or, or_true, W.ns, rI_s]
  unfold frs
  by_cases c : 8 ≤ S.length
  · rw [if_pos (by rw [show ii 8 = ii (8 : Int) from rfl, ii_le (by omega) (by omega) (by omega) (by omega)]; omega)]
    have e : (if 8 < S.length then 8 else S.length) = 8 := by split <;> omega
    rw [e]
    exact Iff.rfl
  · rw [if_neg (by rw [show ii 8 = ii (8 : Int) from rfl, ii_le (by omega) (by omega) (by omega) (by omega)]; omega), if_neg (by omega)]
theorem c305 (W : Rw h l m S) (hT : RTr (lv h) Tr) (hs : ∀ t, t < Tr.length → (Tr.getD t (0, false)).1 < S.length) (h32 : set < 4294967296) : GoCi (d + 4) 305 [.ref 148, .int (ii (set : Nat))] h K ↔ K (if fitB (ld_n l) S Tr set = true then ii 1 else ii 0) h := by
  have s24 := W.s24
  have p7 : xA h 149 7 = ii (Tr.length : Nat) := hT.1
  have t10 := hT.2.1
  have e : (if fitB (ld_n l) S Tr set = true then ii 1 else ii 0) = bP (ftT (ld_n l) S Tr set) := by
    by_cases c : ftT (ld_n l) S Tr set
    · rw [if_pos (fitB_t.mpr c), bP_t c]
    · rw [if_neg (fun g => c (fitB_t.mp g)), bP_f c]
  rw [e305, b305_0, e]
  have L := downA (n := Tr.length) (P := fun j => (Go (d + 3) 305 4 [some (.ref 148), some (.int (ii (set : Nat))), some (.int (bP (∀ t, t < j → (flw (ld_n l) S set (Tr.getD t (0, false)).1 ↔ (Tr.getD t (0, false)).2 = true)))), some (.int (ii (j : Nat)))] [] h (rI K) ↔ K (bP (ftT (ld_n l) S Tr set)) h)) (by
    rw [b305_4]
    simp only [(RS.ok W.1), (RS.fr W.1), true_and, and_true, true_or, or_true, W.1.l149, p7]
    rw [if_pos (Int32.le_refl _), bP_01, true_and, rI_s]
    exact Iff.rfl) (fun j hj ih => by
    have tr : xA h 161 j = ii ((Tr.getD j (0, false)).1 : Nat) ∧ xA h 162 j = ii (bt (Tr.getD j (0, false)).2) := hT.2.2 j hj
    have sj := hs j hj
    have nx : ∀ b : Prop, (b ↔ ∀ t, t < j + 1 → (flw (ld_n l) S set (Tr.getD t (0, false)).1 ↔ (Tr.getD t (0, false)).2 = true)) → (Go (d + 3) 305 53 [some (.ref 148), some (.int (ii (set : Nat))), some (.int (ii 1)), some (.int (ii (j : Nat)))] [.int (bP b)] h (rI K) ↔ K (bP (ftT (ld_n l) S Tr set)) h) := fun b hb => by
      rw [b305_53, bP_cong hb, show ii (j : Nat) + ii 1 = ii ((j + 1 : Nat) : Int) from ii_add _ _]
      exact ih
    rw [b305_4]
    simp only [(RS.ok W.1), (RS.fr W.1), true_and, and_true, true_or, or_true, W.1.l149, p7]
    rw [if_neg (by rw [ii_le (by omega) (by omega) (by omega) (by omega)]; omega)]
    by_cases g : ∀ t, t < j → (flw (ld_n l) S set (Tr.getD t (0, false)).1 ↔ (Tr.getD t (0, false)).2 = true)
    · rw [bP_t g, if_neg (by decide)]
      simp only [(RS.ok W.1), (RS.fr W.1), true_and, and_true, true_or, or_true, W.1.x161 (show j < 10 by omega), tr]
      rw [c283 W h32 sj]
      simp only [(RS.ok W.1), (RS.fr W.1), true_and, and_true, true_or, or_true, W.1.x162 (show j < 10 by omega), tr]
      have two : ∀ f : Bool, (if f = true then ii 1 else ii 0) = ii (bt f) := fun f => by cases f <;> rfl
      have fin : ∀ w : Int32, w = ii (bt (Tr.getD j (0, false)).2) → (Go (d + 3) 305 45 [some (.ref 148), some (.int (ii (set : Nat))), some (.int (ii 1)), some (.int (ii (j : Nat)))] [.int w, .int (bP (flw (ld_n l) S set (Tr.getD j (0, false)).1))] h (rI K) ↔ K (bP (ftT (ld_n l) S Tr set)) h) := fun w hw => by
        rw [b305_45, hw]
        have eq : (bP (flw (ld_n l) S set (Tr.getD j (0, false)).1) = ii (bt (Tr.getD j (0, false)).2)) ↔ (flw (ld_n l) S set (Tr.getD j (0, false)).1 ↔ (Tr.getD j (0, false)).2 = true) := by
          by_cases c : flw (ld_n l) S set (Tr.getD j (0, false)).1
          · rw [bP_t c]
            cases (Tr.getD j (0, false)).2 with
            | true => exact ⟨fun _ => ⟨fun _ => rfl, fun _ => c⟩, fun _ => rfl⟩
            | false => exact ⟨fun e => absurd e (by decide), fun e => absurd (e.mp c) Bool.false_ne_true⟩
          · rw [bP_f c]
            cases (Tr.getD j (0, false)).2 with
            | true => exact ⟨fun e => absurd e (by decide), fun e => absurd (e.mpr rfl) c⟩
            | false => exact ⟨fun _ => ⟨fun e => absurd e c, fun e => absurd e Bool.false_ne_true⟩, fun _ => rfl⟩
        by_cases c : flw (ld_n l) S set (Tr.getD j (0, false)).1 ↔ (Tr.getD j (0, false)).2 = true
        · rw [if_neg (fun n => n (eq.mpr c))]
          have := nx True ⟨fun _ t ht => by
            by_cases e : t = j
            · rw [e]; exact c
            · exact g t (by omega), fun _ => trivial⟩
          rw [bP_t trivial] at this
          exact this
        · rw [if_pos (fun n => c (eq.mp n))]
          have := nx False ⟨fun n => n.elim, fun n => c (n j (by omega))⟩
          rw [bP_f (fun n : False => n)] at this
          exact this
      by_cases c : (Tr.getD j (0, false)).2 = true
      · rw [if_neg (fun n => n (by rw [c]; rfl))]
        exact fin _ (by rw [c]; rfl)
      · have c' : (Tr.getD j (0, false)).2 = false := Bool.eq_false_iff.mpr c
        rw [if_pos (by rw [c']; decide)]
        exact fin _ (by rw [c']; rfl)
    · rw [bP_f g, if_pos rfl, rI_s, bP_f (fun f => g (fun t ht => f t (by omega)))]
      exact ⟨fun q => q.2, fun q => ⟨Or.inl rfl, q⟩⟩) (Nat.zero_le _)
  rw [bP_t (show ∀ t, t < 0 → (flw (ld_n l) S set (Tr.getD t (0, false)).1 ↔ (Tr.getD t (0, false)).2 = true) from fun t ht => absurd ht (Nat.not_lt_zero _))] at L
  exact L
theorem nFit_s {T : List (Nat × Bool)} : nFit n S T (k + 1) = nFit n S T k + (if fitB n S T k = true then 1 else 0) := rfl
theorem fit_b (n : Nat) (S : List Wd) (T : List (Nat × Bool)) {all : Nat} (ha : all < 256) : ∀ k, k ≤ 256 → aFit n S T all k < 256 ∧ oFit n S T k < 256 ∧ nFit n S T k ≤ k := by
  intro k
  induction k with
  | zero => intro _; exact ⟨ha, by show 0 < 256; decide, Nat.le_refl _⟩
  | succ k ih =>
    intro hk
    obtain ⟨a, b, c⟩ := ih (by omega)
    rw [aFit_s, oFit_s, nFit_s]
    by_cases e : fitB n S T k = true
    · rw [if_pos e, if_pos e, if_pos e]
      exact ⟨Nat.lt_of_le_of_lt Nat.and_le_left a, Nat.or_lt_two_pow (n := 8) b (by omega), by omega⟩
    · rw [if_neg e, if_neg e, if_neg e]
      exact ⟨a, b, by omega⟩
theorem c306 (hI : RI h s) (hC : CsI s) (hx : i32 x) : GoCi (d + 5) 306 [.ref 148, .int (ii x)] h K ↔ K (ii (vSets (cs_P s) (cs_S s) x)) h := by
  have W := hI.w hC
  have hT := hI.2.2.2.2.1.2.2.2.1
  have fp := frs_p (S := cs_S s)
  have f8 := frs_le (S := cs_S s)
  have E : ∀ k : Nat, k < 2147483648 → ((ii x = ii k) ↔ x = k) := fun k hk => i32_eq hx k hk
  rw [e306, b306_0]
  (try simp only [(RS.ok W.1), (RS.fr W.1), true_and, and_true, true_or, or_true])
  rw [c186 W]
  unfold vSets
  by_cases c : 0 < ld_n (pg_l (cs_P s))
  · rw [if_pos c, if_neg (by decide)]
    rw [show jj 0 = jj (0 : Int) from rfl, show jj 2 = jj (2 : Int) from rfl, cin2 hx (by decide) (by decide)]
    by_cases c2 : 0 ≤ x ∧ x ≤ 2
    · rw [if_pos c2, if_pos (by decide), if_pos (show (0 ≤ x ∧ x < 3) ∧ 0 < ld_n (pg_l (cs_P s)) from ⟨⟨c2.1, by omega⟩, c⟩)]
      obtain ⟨w, rfl⟩ := nat_of c2.1
      (try simp only [(RS.ok W.1), (RS.fr W.1), true_and, and_true, true_or, or_true])
      rw [c304 W, shl1 (by omega), show ii ((2 ^ frs (cs_S s) : Nat) : Int) - ii 1 = ii ((2 ^ frs (cs_S s) - 1 : Nat) : Int) by rw [ii_sub]; exact congrArg ii (by omega)]
      show _ ↔ K (ii (stA (pgn (cs_P s)) (cs_S s) (pg_t (cs_P s)) w : Nat)) h
      generalize eA : 2 ^ frs (cs_S s) - 1 = all at *
      have e2 : 2 ^ frs (cs_S s) = all + 1 := by omega
      have fb := fit_b (ld_n (pg_l (cs_P s))) (cs_S s) (pg_t (cs_P s)) (all := all) (by omega)
      have L := downA (n := all + 1) (P := fun j => (Go (d + 4) 306 41 [some (.ref 148), some (.int (ii (w : Nat))), some (.int (ii (all : Nat))), some (.int (ii (nFit (ld_n (pg_l (cs_P s))) (cs_S s) (pg_t (cs_P s)) j : Nat))), some (.int (ii (aFit (ld_n (pg_l (cs_P s))) (cs_S s) (pg_t (cs_P s)) all j : Nat))), some (.int (ii (oFit (ld_n (pg_l (cs_P s))) (cs_S s) (pg_t (cs_P s)) j : Nat))), some (.int (ii (j : Nat)))] [] h (rI K) ↔ K (ii (stA (pgn (cs_P s)) (cs_S s) (pg_t (cs_P s)) w : Nat)) h)) (by
        obtain ⟨b1, b2, b3⟩ := fb (all + 1) (by omega)
        rw [b306_41, if_pos (by rw [ii_lt (by omega) (by omega) (by omega) (by omega)]; omega)]
        unfold stA
        rw [e2, show all + 1 - 1 = all by omega]
        show _ ↔ K (ii ((if w = 0 ∨ nFit (ld_n (pg_l (cs_P s))) (cs_S s) (pg_t (cs_P s)) (all + 1) = 0 then nFit (ld_n (pg_l (cs_P s))) (cs_S s) (pg_t (cs_P s)) (all + 1) else if w = 1 then aFit (ld_n (pg_l (cs_P s))) (cs_S s) (pg_t (cs_P s)) all (all + 1) else all &&& (oFit (ld_n (pg_l (cs_P s))) (cs_S s) (pg_t (cs_P s)) (all + 1) ^^^ 4294967295) : Nat) : Int)) h
        generalize nFit (ld_n (pg_l (cs_P s))) (cs_S s) (pg_t (cs_P s)) (all + 1) = N at *
        by_cases k0 : w = 0
        · rw [if_pos (by rw [k0]; rfl), rI_s, if_pos (Or.inl k0)]
        · rw [if_neg (by rw [show ii 0 = ii (0 : Int) from rfl, ii_eq (by omega) (by omega) (by omega) (by omega)]; omega)]
          by_cases k1 : N = 0
          · rw [if_neg (by rw [k1]; exact fun n => n rfl), rI_s, if_pos (Or.inr k1)]
          · rw [if_pos (by rw [show ii 0 = ii (0 : Int) from rfl, ii_eq (by omega) (by omega) (by omega) (by omega)]; omega), if_neg (show ¬ (w = 0 ∨ N = 0) from fun g => g.elim k0 k1)]
            by_cases k2 : w = 1
            · rw [if_neg (by rw [k2]; exact fun n => n rfl), rI_s, if_pos k2]
            · rw [if_pos (by rw [show ii 1 = ii (1 : Int) from rfl, ii_eq (by omega) (by omega) (by omega) (by omega)]; omega), rI_s, if_neg k2]
              rw [show ii (-1) = ii ((4294967295 : Nat) : Int) by decide, xor_ii, and_ii]) (fun j hj ih => by
        obtain ⟨b1, b2, b3⟩ := fb j (by omega)
        rw [b306_41, if_neg (by rw [ii_lt (by omega) (by omega) (by omega) (by omega)]; omega)]
        (try simp only [(RS.ok W.1), (RS.fr W.1), true_and, and_true, true_or, or_true])
        rw [c305 W hT hC.1.2.2.1 (by omega)]
        rw [nFit_s, aFit_s, oFit_s] at ih
        cases e : fitB (ld_n (pg_l (cs_P s))) (cs_S s) (pg_t (cs_P s)) j with
        | true =>
          rw [if_pos e, if_pos e, if_pos e] at ih
          rw [if_pos rfl, if_neg (by decide), b306_73, show ii (j : Nat) + ii 1 = ii ((j + 1 : Nat) : Int) from ii_add _ _, and_ii, or_ii, show ii (nFit (ld_n (pg_l (cs_P s))) (cs_S s) (pg_t (cs_P s)) j : Nat) + ii 1 = ii ((nFit (ld_n (pg_l (cs_P s))) (cs_S s) (pg_t (cs_P s)) j + 1 : Nat) : Int) from ii_add _ _]
          exact ih
        | false =>
          rw [if_neg (by rw [e]; exact Bool.false_ne_true), if_neg (by rw [e]; exact Bool.false_ne_true), if_neg (by rw [e]; exact Bool.false_ne_true), Nat.add_zero] at ih
          rw [if_neg Bool.false_ne_true, if_pos rfl, b306_73, show ii (j : Nat) + ii 1 = ii ((j + 1 : Nat) : Int) from ii_add _ _]
          exact ih) (Nat.zero_le _)
      exact L
    · rw [if_neg c2, if_neg (by decide), if_neg (fun g => c2 ⟨g.1.1, by omega⟩), rI_s]
  · rw [if_neg c, if_pos rfl, if_neg (fun g => c g.2), rI_s]
theorem nFol_s {T : List (Nat × Bool)} {s : Nat} : nFol n S T s (k + 1) = nFol n S T s k + (if (fitB n S T k && flwB n S k s) = true then 1 else 0) := rfl
theorem c307_68 {x1 x2 : Int32} {l5 l6 : Option Value} (W : Rw h l m S) (hset : set < 256) {F : Nat → Nat} (hF : ∀ i, i < S.length → xA h 199 i = ii (F i : Nat) ∧ F i ≤ 256) (hG : ∀ h1 l4 l5 l6, RF [] [199] h h1 → (∀ i, i < S.length → xA h1 199 i = ii ((F i + (if flwB (ld_n l) S set i = true then 1 else 0) : Nat) : Int)) → Go (d + 4) 307 108 [some (.ref 148), some (.int x1), some (.int x2), some (.int (ii (set : Nat))), l4, l5, l6] [] h1 Q) : Go (d + 4) 307 68 [some (.ref 148), some (.int x1), some (.int x2), some (.int (ii (set : Nat))), some (.int (ii 0)), l5, l6] [] h Q := by
  have s24 := W.s24
  refine Go_loop (fun j L h' => (∃ l5 l6, L = [some (.ref 148), some (.int x1), some (.int x2), some (.int (ii (set : Nat))), some (.int (ii (j : Nat))), l5, l6]) ∧ RF [] [199] h h' ∧ ∀ i, i < S.length → xA h' 199 i = if i < j then ii ((F i + (if flwB (ld_n l) S set i = true then 1 else 0) : Nat) : Int) else ii (F i : Nat)) S.length ?_ ?_ 0 _ h (Nat.zero_le _) ⟨⟨_, _, rfl⟩, RF.rf, fun i hi => by rw [if_neg (by omega)]; exact (hF i hi).1⟩
  · rintro j L h' hj ⟨⟨l5, l6, rfl⟩, z, H⟩ nx
    have W' := W.sc z (by decide) (by decide) (by decide)
    have hj0 := H j hj
    rw [if_neg (by omega)] at hj0
    have fin : ∀ w : Int32, w = ii ((if flwB (ld_n l) S set j = true then 1 else 0 : Nat) : Int) → Go (d + 4) 307 100 [some (.ref 148), some (.int x1), some (.int x2), some (.int (ii (set : Nat))), some (.int (ii (j : Nat))), l5, l6] [.int w, .int (ii (F j : Nat)), .int (ii (j : Nat)), .ref 199] h' Q := fun w hw => by
      rw [b307_100]
      simp only [W'.1.x199 (show j < 24 by omega)]
      refine ⟨⟨by decide, trivial⟩, ?_⟩
      rw [show ii (j : Nat) + ii 1 = ii ((j + 1 : Nat) : Int) from ii_add _ _]
      refine nx _ _ ⟨⟨_, _, rfl⟩, z.tr RF.sI, fun i hi => ?_⟩
      rw [W'.1.s199 (show j < 24 by omega), if_pos rfl]
      unfold upf
      by_cases c : i = j
      · rw [if_pos c, if_pos (by omega), hw, ii_add, c]
        rfl
      · rw [if_neg c, H i hi]
        by_cases c2 : i < j
        · rw [if_pos c2, if_pos (show i < j + 1 by omega)]
        · rw [if_neg c2, if_neg (show ¬ i < j + 1 by omega)]
    rw [b307_68]
    simp only [(RS.ok W'.1), (RS.fr W'.1), true_and, and_true, true_or, or_true, W'.ns]
    rw [if_neg (by rw [ii_le (by omega) (by omega) (by omega) (by omega)]; omega)]
    simp only [(RS.ok W'.1), (RS.fr W'.1), true_and, and_true, true_or, or_true, W'.1.x199 (show j < 24 by omega), hj0]
    rw [c283 W' (by omega) hj]
    by_cases c : flw (ld_n l) S set j
    · rw [bP_t c, if_neg (by decide)]
      exact fin _ (by rw [if_pos (flwB_t.mpr c)]; rfl)
    · rw [bP_f c, if_pos rfl]
      exact fin _ (by rw [if_neg (fun g => c (flwB_t.mp g))]; rfl)
  · rintro L h' ⟨⟨l5, l6, rfl⟩, z, H⟩
    have W' := W.sc z (by decide) (by decide) (by decide)
    rw [b307_68]
    simp only [(RS.ok W'.1), (RS.fr W'.1), true_and, and_true, true_or, or_true, W'.ns]
    rw [if_pos (Int32.le_refl _)]
    exact hG h' _ _ _ z (fun i hi => by have := H i hi; rw [if_pos hi] at this; exact this)
theorem c307 (hI : RI h s) (hC : CsI s) (hx : i32 x) (hK : ∀ h1, RI h1 s → K (ii (vNext (cs_P s) (cs_S s) x)) h1) : GoCi (d + 5) 307 [.ref 148, .int (ii x)] h K := by
  have W := hI.w hC
  have s24 := W.s24
  have fp := frs_p (S := cs_S s)
  have f8 := frs_le (S := cs_S s)
  rw [e307, b307_0]
  (try simp only [(RS.ok W.1), (RS.fr W.1), true_and, and_true, true_or, or_true])
  rw [c186 W]
  have no : ¬ ((0 ≤ x ∧ x < 2) ∧ 0 < ld_n (pg_l (cs_P s))) → K (ii (-1)) h := fun n => by
    have := hK h hI
    unfold vNext at this
    rw [if_neg n] at this
    exact this
  by_cases c : 0 < ld_n (pg_l (cs_P s))
  · rw [if_pos c, if_neg (by decide)]
    rw [show jj 0 = jj (0 : Int) from rfl, show jj 1 = jj (1 : Int) from rfl, cin2 hx (by decide) (by decide)]
    by_cases c2 : 0 ≤ x ∧ x ≤ 1
    · rw [if_pos c2, if_pos (by decide)]
      obtain ⟨w, rfl⟩ := nat_of c2.1
      have kk : ∀ h1, RI h1 s → K (ii (btA (pgn (cs_P s)) (cs_S s) (pg_t (cs_P s)) w)) h1 := fun h1 i1 => by
        have := hK h1 i1
        unfold vNext at this
        rw [if_pos (show (0 ≤ (w : Int) ∧ (w : Int) < 2) ∧ 0 < ld_n (pg_l (cs_P s)) from ⟨⟨by omega, by omega⟩, c⟩)] at this
        exact this
      -- nothing counted yet
      refine Go_loop (fun j L h' => L = [some (.ref 148), some (.int (ii (w : Nat))), some (.int (ii 0)), some (.int (ii (j : Nat))), none, none, none] ∧ RF [] [199] h h' ∧ ∀ i, i < j → xA h' 199 i = ii 0) 24 ?_ ?_ 0 _ h (Nat.zero_le _) ⟨rfl, RF.rf, fun i hi => absurd hi (Nat.not_lt_zero _)⟩
      · rintro j L h' hj ⟨rfl, z, H⟩ nx
        have R' : RS h' := z.rs W.1 (by decide)
        rw [b307_23, if_neg (by rw [show ii 24 = ii (24 : Int) from rfl, ii_le (by omega) (by omega) (by omega) (by omega)]; omega)]
        simp only [(RS.ok R'), (RS.fr R'), true_and, and_true, true_or, or_true, R'.x199 hj]
        refine ⟨by decide, ?_⟩
        rw [show ii (j : Nat) + ii 1 = ii ((j + 1 : Nat) : Int) from ii_add _ _]
        refine nx _ _ ⟨rfl, z.tr RF.sI, fun i hi => ?_⟩
        rw [R'.s199 hj, if_pos rfl]
        unfold upf
        by_cases c : i = j
        · rw [if_pos c]
        · rw [if_neg c]; exact H i (by omega)
      · rintro L h1 ⟨rfl, z1, H1⟩
        have I1 : RI h1 s := hI.sc hC (z1.wd (by decide) (by decide))
        rw [b307_23, if_pos (show ii 24 ≤ ii ((24 : Nat) : Int) by decide)]
        have fo : ∀ k i, k ≤ 256 → nFol (ld_n (pg_l (cs_P s))) (cs_S s) (pg_t (cs_P s)) i k ≤ nFit (ld_n (pg_l (cs_P s))) (cs_S s) (pg_t (cs_P s)) k ∧ nFit (ld_n (pg_l (cs_P s))) (cs_S s) (pg_t (cs_P s)) k ≤ k := fun k i _ => nFol_le
        refine Go_loop (fun j L h' => (∃ l4 l5 l6, L = [some (.ref 148), some (.int (ii (w : Nat))), some (.int (ii (nFit (ld_n (pg_l (cs_P s))) (cs_S s) (pg_t (cs_P s)) j : Nat))), some (.int (ii (j : Nat))), l4, l5, l6]) ∧ RF [] [199] h1 h' ∧ ∀ i, i < (cs_S s).length → xA h' 199 i = ii (nFol (ld_n (pg_l (cs_P s))) (cs_S s) (pg_t (cs_P s)) i j : Nat)) (2 ^ frs (cs_S s)) ?_ ?_ 0 _ h1 (Nat.zero_le _) ⟨⟨_, _, _, rfl⟩, RF.rf, fun i hi => H1 i (by omega)⟩
        · rintro j L h' hj ⟨⟨l4, l5, l6, rfl⟩, z, H⟩ nx
          have I' : RI h' s := I1.sc hC (z.wd (by decide) (by decide))
          have W' := I'.w hC
          have hT := I'.2.2.2.2.1.2.2.2.1
          rw [b307_44]
          (try simp only [(RS.ok W'.1), (RS.fr W'.1), true_and, and_true, true_or, or_true])
          rw [c304 W', shl1 (by omega), if_neg (by rw [ii_le (by omega) (by omega) (by omega) (by omega)]; omega)]
          (try simp only [(RS.ok W'.1), (RS.fr W'.1), true_and, and_true, true_or, or_true])
          rw [c305 W' hT hC.1.2.2.1 (by omega)]
          cases e : fitB (ld_n (pg_l (cs_P s))) (cs_S s) (pg_t (cs_P s)) j with
          | false =>
            rw [if_neg Bool.false_ne_true, if_pos rfl, b307_108, show ii (j : Nat) + ii 1 = ii ((j + 1 : Nat) : Int) from ii_add _ _]
            refine nx _ _ ⟨⟨l4, l5, l6, ?_⟩, z, fun i hi => ?_⟩
            · have en : nFit (ld_n (pg_l (cs_P s))) (cs_S s) (pg_t (cs_P s)) (j + 1) = nFit (ld_n (pg_l (cs_P s))) (cs_S s) (pg_t (cs_P s)) j := by rw [nFit_s, if_neg (by rw [e]; exact Bool.false_ne_true), Nat.add_zero]
              rw [en]
            · rw [nFol_s, e, Bool.false_and, if_neg Bool.false_ne_true, Nat.add_zero]; exact H i hi
          | true =>
            rw [if_pos rfl, if_neg (by decide), show ii (nFit (ld_n (pg_l (cs_P s))) (cs_S s) (pg_t (cs_P s)) j : Nat) + ii 1 = ii ((nFit (ld_n (pg_l (cs_P s))) (cs_S s) (pg_t (cs_P s)) j + 1 : Nat) : Int) from ii_add _ _]
            refine c307_68 W' (by omega) (F := fun i => nFol (ld_n (pg_l (cs_P s))) (cs_S s) (pg_t (cs_P s)) i j) (fun i hi => ⟨H i hi, by have := fo j i (by omega); omega⟩) (fun h2 l4 l5 l6 z2 H2 => ?_)
            rw [b307_108, show ii (j : Nat) + ii 1 = ii ((j + 1 : Nat) : Int) from ii_add _ _]
            refine nx _ _ ⟨⟨l4, l5, l6, ?_⟩, z.tr z2, fun i hi => ?_⟩
            · have en : nFit (ld_n (pg_l (cs_P s))) (cs_S s) (pg_t (cs_P s)) (j + 1) = nFit (ld_n (pg_l (cs_P s))) (cs_S s) (pg_t (cs_P s)) j + 1 := by rw [nFit_s, if_pos e]
              rw [en]
            · rw [H2 i hi, nFol_s, e, Bool.true_and]
        · rintro L h2 ⟨⟨l4, l5, l6, rfl⟩, z2, H2⟩
          have I2 : RI h2 s := I1.sc hC (z2.wd (by decide) (by decide))
          have W2 := I2.w hC
          rw [b307_44]
          (try simp only [(RS.ok W2.1), (RS.fr W2.1), true_and, and_true, true_or, or_true])
          rw [c304 W2, shl1 (by omega), if_pos (Int32.le_refl _)]
          have kk := kk h2 I2
          have gt : ∀ i, i < (cs_S s).length → gtr (pgn (cs_P s)) (cs_S s) (pg_t (cs_P s)) i = if nFol (ld_n (pg_l (cs_P s))) (cs_S s) (pg_t (cs_P s)) i (2 ^ frs (cs_S s)) < nFit (ld_n (pg_l (cs_P s))) (cs_S s) (pg_t (cs_P s)) (2 ^ frs (cs_S s)) - nFol (ld_n (pg_l (cs_P s))) (cs_S s) (pg_t (cs_P s)) i (2 ^ frs (cs_S s)) then nFit (ld_n (pg_l (cs_P s))) (cs_S s) (pg_t (cs_P s)) (2 ^ frs (cs_S s)) - nFol (ld_n (pg_l (cs_P s))) (cs_S s) (pg_t (cs_P s)) i (2 ^ frs (cs_S s)) else nFol (ld_n (pg_l (cs_P s))) (cs_S s) (pg_t (cs_P s)) i (2 ^ frs (cs_S s)) := fun i _ => rfl
          have fl := fun i => fo (2 ^ frs (cs_S s)) i (by omega)
          unfold btA at kk
          have ep : pgn (cs_P s) = ld_n (pg_l (cs_P s)) := rfl
          rw [ep] at kk gt
          generalize nFit (ld_n (pg_l (cs_P s))) (cs_S s) (pg_t (cs_P s)) (2 ^ frs (cs_S s)) = N at *
          have N256 : N ≤ 256 := by have := (fl 0).2; omega
          have fin : ∀ b : Int × Nat, (b.1 = -2 ∨ ∃ k : Nat, b.1 = k ∧ k < 24) → b.2 ≤ 256 → ∀ l2 l5 l6, (N = 0 → b.1 = -2) → (¬ N = 0 → b = btK (ld_n (pg_l (cs_P s))) (cs_S s) (pg_t (cs_P s)) (cs_S s).length) → Go (d + 4) 307 203 [some (.ref 148), some (.int (ii (w : Nat))), l2, some (.int (ii b.1)), some (.int (ii (if b.1 = -2 then -2 else (b.2 : Int)))), l5, l6] [] h2 (rI K) := fun b hb hb2 l2 l5 l6 h0 h1 => by
            rw [b307_203]
            by_cases cN : N = 0
            · have e := h0 cN
              rw [if_pos cN] at kk
              rw [if_pos e, e]
              split <;> (rw [rI_s]; exact kk)
            · rw [if_neg cN, ← h1 cN] at kk
              by_cases k0 : w = 0
              · rw [if_neg (by rw [k0]; exact fun n => n rfl), rI_s]
                rw [if_pos (Or.inl k0)] at kk
                exact kk
              · rw [if_pos (by rw [show ii 0 = ii (0 : Int) from rfl, ii_eq (by omega) (by omega) (by omega) (by omega)]; omega), rI_s]
                by_cases e : b.1 = -2
                · rw [if_pos (Or.inr e), e] at kk
                  rw [if_pos e]; exact kk
                · rw [if_neg (fun g => g.elim k0 e)] at kk
                  rw [if_neg e]; exact kk
          by_cases cN : N = 0
          · rw [b307_124]
            simp only [(RS.ok W2.1), (RS.fr W2.1), true_and, and_true, true_or, or_true, W2.ns]
            have := fun l2 l5 l6 => fin (-2, 0) (Or.inl rfl) (by show 0 ≤ 256; decide) l2 l5 l6 (fun _ => rfl) (fun g => absurd cN g)
            by_cases c5 : (cs_S s).length ≤ 0
            · rw [if_pos (by rw [show ii 0 = ii ((0 : Nat) : Int) from rfl, ii_le (by omega) (by omega) (by omega) (by omega)]; omega)]
              exact this _ _ _
            · rw [if_neg (by rw [show ii 0 = ii ((0 : Nat) : Int) from rfl, ii_le (by omega) (by omega) (by omega) (by omega)]; omega), if_pos (by rw [cN]; decide)]
              exact this _ _ _
          · have bb : ∀ j, j ≤ (cs_S s).length → ((btK (ld_n (pg_l (cs_P s))) (cs_S s) (pg_t (cs_P s)) j).1 = -2 ∨ ∃ k : Nat, (btK (ld_n (pg_l (cs_P s))) (cs_S s) (pg_t (cs_P s)) j).1 = k ∧ k < 24) ∧ (btK (ld_n (pg_l (cs_P s))) (cs_S s) (pg_t (cs_P s)) j).2 ≤ 256 := by
              intro j
              induction j with
              | zero => intro _; exact ⟨Or.inl rfl, by show 0 ≤ 256; decide⟩
              | succ j ih =>
                intro hj
                rw [btK_s]
                split
                · refine ⟨Or.inr ⟨j, rfl, by omega⟩, ?_⟩
                  show gtr _ _ _ j ≤ 256
                  rw [gt j (by omega)]
                  have := fl j
                  split <;> omega
                · exact ih (by omega)
            refine (show ∀ {A : Prop}, (A) → A from fun a => a) (downA (n := (cs_S s).length) (P := fun j => ∀ l6 : Option Value, Go (d + 4) 307 124 [some (.ref 148), some (.int (ii (w : Nat))), some (.int (ii (N : Nat))), some (.int (ii (btK (ld_n (pg_l (cs_P s))) (cs_S s) (pg_t (cs_P s)) j).1)), some (.int (ii (if (btK (ld_n (pg_l (cs_P s))) (cs_S s) (pg_t (cs_P s)) j).1 = -2 then -2 else ((btK (ld_n (pg_l (cs_P s))) (cs_S s) (pg_t (cs_P s)) j).2 : Int)))), some (.int (ii (j : Nat))), l6] [] h2 (rI K)) (fun l6 => ?_) (fun j hj ih l6 => ?_) (Nat.zero_le _) l6)
            · rw [b307_124]
              simp only [(RS.ok W2.1), (RS.fr W2.1), true_and, and_true, true_or, or_true, W2.ns]
              rw [if_pos (Int32.le_refl _)]
              have b0 := bb _ (Nat.le_refl _)
              exact fin _ b0.1 b0.2 _ _ _ (fun g => absurd g cN) (fun _ => rfl)
            · have b0 := bb j (by omega)
              have fj := fl j
              have gj := gt j hj
              rw [btK_s] at ih
              rw [b307_124]
              simp only [(RS.ok W2.1), (RS.fr W2.1), true_and, and_true, true_or, or_true, W2.ns]
              rw [if_neg (by rw [ii_le (by omega) (by omega) (by omega) (by omega)]; omega), if_neg (by rw [show ii 0 = ii (0 : Int) from rfl, ii_le (by omega) (by omega) (by omega) (by omega)]; omega)]
              simp only [(RS.ok W2.1), (RS.fr W2.1), true_and, and_true, true_or, or_true, W2.1.x199 (show j < 24 by omega), H2 j hj]
              generalize nFol (ld_n (pg_l (cs_P s))) (cs_S s) (pg_t (cs_P s)) j (2 ^ frs (cs_S s)) = f at *
              rw [show ii (N : Nat) - ii (f : Nat) = ii ((N - f : Nat) : Int) by rw [ii_sub]; exact congrArg ii (by omega)]
              generalize gtr (ld_n (pg_l (cs_P s))) (cs_S s) (pg_t (cs_P s)) j = g at *
              generalize btK (ld_n (pg_l (cs_P s))) (cs_S s) (pg_t (cs_P s)) j = b at *
              have go : ∀ l6', Go (d + 4) 307 175 [some (.ref 148), some (.int (ii (w : Nat))), some (.int (ii (N : Nat))), some (.int (ii b.1)), some (.int (ii (if b.1 = -2 then -2 else (b.2 : Int)))), some (.int (ii (j : Nat))), l6'] [.int (ii (g : Nat))] h2 (rI K) := fun l6' => by
                have g256 : g ≤ 256 := by rw [gj]; split <;> omega
                have take : (b.1 = -2 ∨ g < b.2) → ∀ l3 l4, Go (d + 4) 307 190 [some (.ref 148), some (.int (ii (w : Nat))), some (.int (ii (N : Nat))), l3, l4, some (.int (ii (j : Nat))), some (.int (ii (g : Nat)))] [] h2 (rI K) := fun t l3 l4 => by
                  rw [b307_190, b307_197, show ii (j : Nat) + ii 1 = ii ((j + 1 : Nat) : Int) from ii_add _ _]
                  rw [if_pos t] at ih
                  have := ih (some (.int (ii (g : Nat))))
                  have ne : ¬ ((j : Int), g).1 = -2 := by show ¬ (j : Int) = -2; omega
                  rw [if_neg ne] at this
                  exact this
                rw [b307_175]
                rcases b0.1 with e | ⟨k, k1, k2⟩
                · rw [if_pos (by rw [e])]
                  exact take (Or.inl e) _ _
                · have ne : ¬ b.1 = -2 := by omega
                  rw [if_neg (by rw [k1, show ii (-2) = ii (-2 : Int) from rfl, ii_eq (by omega) (by omega) (by omega) (by omega)]; omega), if_neg ne]
                  have b2 := b0.2
                  by_cases c8 : g < b.2
                  · rw [if_neg (by rw [ii_le (by omega) (by omega) (by omega) (by omega)]; omega)]
                    exact take (Or.inr c8) _ _
                  · rw [if_pos (by rw [ii_le (by omega) (by omega) (by omega) (by omega)]; omega), b307_197, show ii (j : Nat) + ii 1 = ii ((j + 1 : Nat) : Int) from ii_add _ _]
                    rw [if_neg (fun t => t.elim ne c8)] at ih
                    have := ih (some (.int (ii (g : Nat))))
                    rw [if_neg ne] at this
                    exact this
              by_cases c7 : f ≤ N - f
              · rw [if_pos (by rw [ii_le (by omega) (by omega) (by omega) (by omega)]; omega)]
                have : N - f = g := by rw [gj]; split <;> omega
                rw [this]
                exact go _
              · rw [if_neg (by rw [ii_le (by omega) (by omega) (by omega) (by omega)]; omega)]
                have : f = g := by rw [gj]; split <;> omega
                rw [this]
                exact go _
    · rw [if_neg c2, if_neg (by decide), rI_s]
      exact no (fun g => c2 ⟨g.1.1, by omega⟩)
  · rw [if_neg c, if_pos rfl, rI_s]
    exact no (fun g => c g.2)
end Si2
