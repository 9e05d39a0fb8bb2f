/-! THE REFERENCE: fewest, when, person, count -/
section Rx2
variable {d : Nat} {h h1 : mHeap} {l : Ld} {m : Mo} {S : List Wd} {P : Pg} {K : Int32 → mHeap → Prop} {x y z r : Int} {set s w k n i : Nat} {Q : Option Value → mHeap → Prop}
theorem bc_wb (hn : n < 4294967296) : cB (wb (ii (n : Nat))) 32 = bc n := cB_cong fun i hi => wb_ii hi
def Bst (n : Nat) (S : List Wd) (set s i : Nat) (r : Int) : Prop := (r = -2 ∧ ∀ j, j < i → ¬ flw n S (dep 32 set j) s) ∨ ∃ k, k < i ∧ r = dep 32 set k ∧ flw n S (dep 32 set k) s ∧ (∀ j, j < i → flw n S (dep 32 set j) s → bc (dep 32 set k) ≤ bc (dep 32 set j)) ∧ ∀ j, j < k → flw n S (dep 32 set j) s → bc (dep 32 set k) < bc (dep 32 set j)
theorem c286_s (W : Rw h l m S) (hset : set < 16777216) (hs : s < S.length) (B : Bst (ld_n l) S set s i r) {l6 : Option Value} (hG : ∀ r' l3 l5 l6, Bst (ld_n l) S set s (i + 1) r' → Go (d + 3) 286 87 [some (.ref 148), some (.int (ii (set : Nat))), some (.int (ii (s : Nat))), l3, some (.int (ii (dep 32 set i : Nat))), l5, l6] [.int (ii r')] h Q) : Go (d + 3) 286 36 [some (.ref 148), some (.int (ii (set : Nat))), some (.int (ii (s : Nat))), some (.int (ii r)), some (.int (ii (dep 32 set i : Nat))), some (.int (ii 0)), l6] [] h Q := by
  have dl := dep_le set i
  have keep : ∀ l6, (flw (ld_n l) S (dep 32 set i) s → ∃ k, k < i ∧ r = dep 32 set k ∧ bc (dep 32 set k) ≤ bc (dep 32 set i)) → Go (d + 3) 286 86 [some (.ref 148), some (.int (ii (set : Nat))), some (.int (ii (s : Nat))), some (.int (ii r)), some (.int (ii (dep 32 set i : Nat))), some (.int (ii 0)), l6] [] h Q := fun l6 g => by
    rw [b286_86]
    refine hG r _ _ _ ?_
    rcases B with ⟨b1, b2⟩ | ⟨k, k1, k2, k3, k4, k5⟩
    · refine Or.inl ⟨b1, fun j hj f => ?_⟩
      by_cases c : j = i
      · subst c
        obtain ⟨k, _, e, _⟩ := g f
        rw [b1] at e
        omega
      · exact b2 j (by omega) f
    · refine Or.inr ⟨k, by omega, k2, k3, fun j hj f => ?_, k5⟩
      by_cases c : j = i
      · subst c
        obtain ⟨k', _, e, e2⟩ := g f
        rw [k2] at e
        have e : dep 32 set k = dep 32 set k' := by omega
        rw [e]; exact e2
      · exact k4 j (by omega) f
  have try_ : ∀ l6, (flw (ld_n l) S (dep 32 set i) s → Bst (ld_n l) S set s (i + 1) (dep 32 set i : Nat)) → (¬ flw (ld_n l) S (dep 32 set i) s → True) → Go (d + 3) 286 59 [some (.ref 148), some (.int (ii (set : Nat))), some (.int (ii (s : Nat))), some (.int (ii r)), some (.int (ii (dep 32 set i : Nat))), some (.int (ii 0)), l6] [] h Q := fun l6 g _ => by
    rw [b286_59, b286_64 rfl, if_neg (by decide)]
    (try simp only [(RS.ok W.1), (RS.fr W.1), true_and, and_true, true_or, or_true])
    rw [c283 W (by omega) hs]
    by_cases c : flw (ld_n l) S (dep 32 set i) s
    · rw [bP_t c, if_neg (by decide)]
      exact hG _ _ _ _ (g c)
    · rw [bP_f c, if_pos rfl]
      exact keep _ (fun f => absurd f c)
  rw [b286_36, if_neg (fun n => n rfl)]
  rcases id B with ⟨b1, b2⟩ | ⟨k, k1, k2, k3, k4, k5⟩
  · rw [if_pos (by rw [b1])]
    exact try_ _ (fun f => Or.inr ⟨i, by omega, rfl, f, fun j hj f2 => by
      by_cases c : j = i
      · rw [c]; exact Nat.le_refl _
      · exact absurd f2 (b2 j (by omega)), fun j hj f2 => absurd f2 (b2 j hj)⟩) (fun _ => trivial)
  · have dk := dep_le set k
    subst k2
    rw [if_neg (by rw [show ii (-2) = ii (-2 : Int) from rfl, ii_eq (by omega) (by omega) (by omega) (by omega)]; omega)]
    rw [c184, bc_wb (by omega), c184, bc_wb (by omega)]
    have b1 := bc_le (dep 32 set i)
    have b2 := bc_le (dep 32 set k)
    by_cases c : bc (dep 32 set k) ≤ bc (dep 32 set i)
    · rw [if_pos (by rw [ii_le (by omega) (by omega) (by omega) (by omega)]; omega), b286_64 rfl, if_pos rfl]
      exact keep _ (fun _ => ⟨k, k1, rfl, c⟩)
    · rw [if_neg (by rw [ii_le (by omega) (by omega) (by omega) (by omega)]; omega)]
      exact try_ _ (fun f => Or.inr ⟨i, by omega, rfl, f, fun j hj f2 => by
        by_cases c2 : j = i
        · rw [c2]; exact Nat.le_refl _
        · have := k4 j (by omega) f2; omega, fun j hj f2 => by have := k4 j hj f2; omega⟩) (fun _ => trivial)
theorem c286 (W : Rw h (pg_l P) (pg_m P) S) (hy : i32 y) (hz : i32 z) (hK : ∀ r, vFewest P S y z r → K (ii r) h) : GoCi (d + 4) 286 [.ref 148, .int (ii y), .int (ii z)] h K := by
  have s24 := W.s24
  have no : ¬ (((isSe S y ∧ isSa S z) ∧ 0 < ld_n (pg_l P)) ∧ bc y.toNat ≤ 12) → K (ii (-1)) h := fun n => hK (-1) (by unfold vFewest; rw [if_neg n])
  rw [e286, b286_0]
  (try simp only [(RS.ok W.1), (RS.fr W.1), true_and, and_true, true_or, or_true])
  rw [c284 W hy]
  by_cases c : isSe S y ∧ 0 < ld_n (pg_l P)
  · rw [if_pos c, if_neg (by decide)]
    (try simp only [(RS.ok W.1), (RS.fr W.1), true_and, and_true, true_or, or_true])
    rw [c190 W hz]
    by_cases c2 : 0 ≤ z ∧ z < S.length
    · rw [if_pos c2, if_neg (by decide)]
      obtain ⟨set, rfl, hset⟩ := se_nat s24 c.1
      obtain ⟨s, rfl⟩ := nat_of c2.1
      have hs : s < S.length := by omega
      rw [c184, bc_wb (by omega)]
      have bl := bc_le set
      by_cases c3 : bc set ≤ 12
      · rw [if_pos (by rw [show ii 12 = ii (12 : Int) from rfl, ii_le (by omega) (by omega) (by omega) (by omega)]; omega)]
        have fin : ∀ r, Bst (ld_n (pg_l P)) S set s (2 ^ bc set) r → K (ii r) h := fun r B => by
          refine hK r ?_
          unfold vFewest
          rw [if_pos ⟨⟨⟨c.1, c2⟩, c.2⟩, c3⟩]
          have last : dep 32 set (2 ^ bc set - 1) = set := dep_last (by omega) (by have := Nat.pow_pos (n := bc set) (show 0 < 2 by decide); omega)
          have p0 := Nat.pow_pos (n := bc set) (show 0 < 2 by decide)
          refine ⟨fun f => ?_, fun f => ?_⟩
          · rcases B with ⟨b1, b2⟩ | ⟨k, k1, k2, k3, k4, k5⟩
            · exact absurd f (by have := b2 (2 ^ bc set - 1) (by omega); rw [last] at this; exact this)
            · exact ⟨dep 32 set k, ⟨k, k1, rfl, k3, k4, k5⟩, k2⟩
          · rcases B with ⟨b1, b2⟩ | ⟨k, k1, k2, k3, k4, k5⟩
            · exact b1
            · exact absurd (flw_mono (dep_sub 32 set k) k3) f
        have p0 := Nat.pow_pos (n := bc set) (show 0 < 2 by decide)
        have L := downA (n := 2 ^ bc set - 1) (P := fun i => ∀ r l6, Bst (ld_n (pg_l P)) S set s i r → Go (d + 3) 286 36 [some (.ref 148), some (.int (ii (set : Nat))), some (.int (ii (s : Nat))), some (.int (ii r)), some (.int (ii (dep 32 set i : Nat))), some (.int (ii 0)), l6] [] h (rI K)) (fun r l6 B => by
          refine c286_s W hset hs B (fun r' l3 l5 l6 B' => ?_)
          have last : dep 32 set (2 ^ bc set - 1) = set := dep_last (by omega) (by omega)
          rw [b286_87, last, if_neg (fun n => n rfl), b286_99, b286_36, if_pos (by decide), rI_s]
          rw [show 2 ^ bc set - 1 + 1 = 2 ^ bc set by omega] at B'
          exact fin r' B') (fun i hi ih r l6 B => by
          refine c286_s W hset hs B (fun r' l3 l5 l6 B' => ?_)
          have dl := dep_le set i
          have ne : ¬ dep 32 set i = set := fun e => by have := (dep_end (by omega) (by omega)).mp e; omega
          rw [b286_87, if_pos (by rw [ii_eq (by omega) (by omega) (by omega) (by omega)]; omega), b286_99, nx_ii (by omega) (by omega)]
          exact ih r' _ B') (Nat.zero_le _) (-2) none (Or.inl ⟨rfl, fun j hj => absurd hj (Nat.not_lt_zero _)⟩)
        rw [dep_0] at L
        exact L
      · rw [if_neg (by rw [show ii 12 = ii (12 : Int) from rfl, ii_le (by omega) (by omega) (by omega) (by omega)]; omega), rI_s]
        exact no (fun g => c3 g.2)
    · rw [if_neg c2, if_pos rfl, rI_s]
      exact no (fun g => c2 g.1.1.2)
  · rw [if_neg c, if_pos rfl, rI_s]
    exact no (fun g => c ⟨g.1.1.1, g.1.2⟩)
/-! when -/
theorem c288 (W : Rw h (pg_l P) (pg_m P) S) (hy : i32 y) (hz : i32 z) : GoCi (d + 3) 288 [.ref 148, .int (ii y), .int (ii z)] h K ↔ K (ii (vWhen P S y z)) h := by
  have s24 := W.s24
  have t8 := W.ok.2.2.2.2.2.1
  have dd := W.mj.2.1
  rw [e288, b288_0]
  (try simp only [(RS.ok W.1), (RS.fr W.1), true_and, and_true, true_or, or_true])
  rw [c190 W hy]
  unfold vWhen
  by_cases c : 0 ≤ y ∧ y < S.length
  · rw [if_pos c, if_neg (by decide)]
    (try simp only [(RS.ok W.1), (RS.fr W.1), true_and, and_true, true_or, or_true])
    rw [c186 W]
    by_cases c2 : 0 < ld_n (pg_l P)
    · rw [if_pos c2, if_neg (by decide)]
      rw [show jj 0 = jj (0 : Int) from rfl, show jj 9999 = jj (9999 : Int) from rfl, cin2 hz (by decide) (by decide)]
      by_cases c3 : 0 ≤ z ∧ z ≤ 9999
      · rw [if_pos c3, if_pos (by decide), if_pos (show (isSa S y ∧ 0 ≤ z ∧ z ≤ 9999) ∧ 0 < ld_n (pg_l P) from ⟨⟨c, c3⟩, c2⟩)]
        obtain ⟨s, rfl⟩ := nat_of c.1
        obtain ⟨day, rfl⟩ := nat_of c3.1
        have hs : s < S.length := by omega
        have hday : day ≤ 9999 := by omega
        simp only [(RS.ok W.1), (RS.fr W.1), true_and, and_true, true_or, or_true, W.1.l149, W.day]
        show _ ↔ K (ii (whK (sy S s) (fct (pg_l P) (pg_m P)) 100 (max day (mo_d (pg_m P))))) h
        generalize eD : mo_d (pg_m P) = D at *
        -- one day on
        have T : ∀ dy fr l2, D ≤ dy → dy < 100000 → ∀ X : Prop, (∀ l6, Go (d + 2) 288 140 [some (.ref 148), some (.int (ii (s : Nat))), l2, some (.int (ii (fr : Nat))), some (.int (ii (fct (pg_l P) (pg_m P) dy : Nat))), some (.int (ii (dy : Nat))), l6] [] h (rI K) ↔ X) → (Go (d + 2) 288 81 [some (.ref 148), some (.int (ii (s : Nat))), l2, some (.int (ii (fr : Nat))), some (.int (ii (fct (pg_l P) (pg_m P) (if dy = D then dy else dy - 1) : Nat))), some (.int (ii (dy : Nat))), some (.int (ii 0))] [] h (rI K) ↔ X) := fun dy fr l2 h1 h2 X hX => by
          by_cases e : dy = D
          · rw [if_pos e, b288_81]
            simp only [(RS.ok W.1), (RS.fr W.1), true_and, and_true, true_or, or_true, W.1.l149, W.nt, W.day, eD]
            by_cases e2 : (ld_t (pg_l P)).length ≤ 0
            · rw [if_pos (by rw [show ii 0 = ii ((0 : Nat) : Int) from rfl, ii_le (by omega) (by omega) (by omega) (by omega)]; omega)]
              exact hX _
            · rw [if_neg (by rw [show ii 0 = ii ((0 : Nat) : Int) from rfl, ii_le (by omega) (by omega) (by omega) (by omega)]; omega), if_pos (by rw [ii_le (by omega) (by omega) (by omega) (by omega)]; omega)]
              exact hX _
          · rw [if_neg e]
            have st : fct (pg_l P) (pg_m P) dy = fct (pg_l P) (pg_m P) (dy - 1) ^^^ xAll (tOn (pg_l P) dy) := by
              have := fct_s (l := pg_l P) (m := pg_m P) (dd := dy - 1) (by omega)
              rw [show dy - 1 + 1 = dy by omega] at this
              exact this
            have L := downA (n := (ld_t (pg_l P)).length) (P := fun t => (Go (d + 2) 288 81 [some (.ref 148), some (.int (ii (s : Nat))), l2, some (.int (ii (fr : Nat))), some (.int (ii ((fct (pg_l P) (pg_m P) (dy - 1) ^^^ xAll (tOnK (pg_l P) dy t) : Nat) : Int))), some (.int (ii (dy : Nat))), some (.int (ii (t : Nat)))] [] h (rI K) ↔ X)) (by
              rw [b288_81]
              simp only [(RS.ok W.1), (RS.fr W.1), true_and, and_true, true_or, or_true, W.1.l149, W.nt]
              rw [if_pos (Int32.le_refl _), tOnK_all, ← st]
              exact hX _) (fun t ht ih => by
              have tt := W.tt ht
              have tk := W.ok.t ht
              rw [b288_81]
              simp only [(RS.ok W.1), (RS.fr W.1), true_and, and_true, true_or, or_true, W.1.l149, W.nt, W.day, eD, W.1.x160 (show t < 8 by omega), W.1.x159 (show t < 8 by omega), tt]
              rw [if_neg (by rw [ii_le (by omega) (by omega) (by omega) (by omega)]; omega), if_neg (by rw [ii_le (by omega) (by omega) (by omega) (by omega)]; omega)]
              by_cases e3 : (la_t (pg_l P) t).2 = dy
              · rw [if_neg (by rw [e3]; exact fun n => n rfl), shl1 (by omega), b288_131, xor_ii, show ii (t : Nat) + ii 1 = ii ((t + 1 : Nat) : Int) from ii_add _ _]
                rw [tOnK_succ ht, if_pos e3, xAll_app, ← Nat.xor_assoc] at ih
                exact ih
              · rw [if_pos (by rw [ii_eq (by omega) (by omega) (by omega) (by omega)]; omega), b288_131, show ii 0 = ii ((0 : Nat) : Int) from rfl, xor_ii, Nat.xor_zero, show ii (t : Nat) + ii 1 = ii ((t + 1 : Nat) : Int) from ii_add _ _]
                rw [tOnK_succ ht, if_neg e3, List.append_nil] at ih
                exact ih) (Nat.zero_le _)
            have t0 : xAll (tOnK (pg_l P) dy 0) = 0 := by unfold tOnK; rw [List.take_zero]; rfl
            rw [t0, Nat.xor_zero] at L
            exact L
        have main : ∀ fr l2 l6, D ≤ fr → fr ≤ 20000 → ((Go (d + 2) 288 69 [some (.ref 148), some (.int (ii (s : Nat))), l2, some (.int (ii (fr : Nat))), some (.int (ii (mo_f (pg_m P) : Nat))), some (.int (ii (D : Nat))), l6] [] h (rI K)) ↔ K (ii (whK (sy S s) (fct (pg_l P) (pg_m P)) 100 fr)) h) := fun fr l2 l6 hfr hfr2 => by
          have L := downI (n := fr + 100) (P := fun dy => D ≤ dy → ∀ l6, (Go (d + 2) 288 69 [some (.ref 148), some (.int (ii (s : Nat))), l2, some (.int (ii (fr : Nat))), some (.int (ii (fct (pg_l P) (pg_m P) (if dy = D then dy else dy - 1) : Nat))), some (.int (ii (dy : Nat))), l6] [] h (rI K) ↔ K (ii (if dy ≤ fr then whK (sy S s) (fct (pg_l P) (pg_m P)) 100 fr else whK (sy S s) (fct (pg_l P) (pg_m P)) (fr + 100 - dy) dy)) h)) (fun _ l6 => by
            rw [b288_69, show ii (fr : Nat) + ii 100 = ii ((fr + 100 : Nat) : Int) from ii_add _ _, if_pos (Int32.le_refl _), rI_s, if_neg (by omega), Nat.sub_self]
            exact Iff.rfl) (fun dy hdy ih h1 l6 => by
            rw [b288_69, show ii (fr : Nat) + ii 100 = ii ((fr + 100 : Nat) : Int) from ii_add _ _, if_neg (by rw [ii_le (by omega) (by omega) (by omega) (by omega)]; omega)]
            refine T dy fr l2 h1 (by omega) _ (fun l6 => ?_)
            have nx : Go (d + 2) 288 159 [some (.ref 148), some (.int (ii (s : Nat))), l2, some (.int (ii (fr : Nat))), some (.int (ii (fct (pg_l P) (pg_m P) dy : Nat))), some (.int (ii (dy : Nat))), l6] [] h (rI K) ↔ K (ii (if dy + 1 ≤ fr then whK (sy S s) (fct (pg_l P) (pg_m P)) 100 fr else whK (sy S s) (fct (pg_l P) (pg_m P)) (fr + 100 - (dy + 1)) (dy + 1))) h := by
              rw [b288_159, show ii (dy : Nat) + ii 1 = ii ((dy + 1 : Nat) : Int) from ii_add _ _]
              have := ih (by omega) l6
              rw [if_neg (by omega), show dy + 1 - 1 = dy by omega] at this
              exact this
            rw [b288_140]
            by_cases c5 : dy < fr
            · rw [if_pos (by rw [ii_lt (by omega) (by omega) (by omega) (by omega)]; omega), nx, if_pos (by omega), if_pos (by omega)]
            · rw [if_neg (by rw [ii_lt (by omega) (by omega) (by omega) (by omega)]; omega)]
              (try simp only [(RS.ok W.1), (RS.fr W.1), true_and, and_true, true_or, or_true])
              rw [c250 W.1 (by omega) (fct_lt W.ok W.f8 dy), W.ss hs]
              have wk : (if dy ≤ fr then whK (sy S s) (fct (pg_l P) (pg_m P)) 100 fr else whK (sy S s) (fct (pg_l P) (pg_m P)) (fr + 100 - dy) dy) = if sy S s (fct (pg_l P) (pg_m P) dy) = true then (dy : Int) else whK (sy S s) (fct (pg_l P) (pg_m P)) (fr + 100 - (dy + 1)) (dy + 1) := by
                have e : (if dy ≤ fr then whK (sy S s) (fct (pg_l P) (pg_m P)) 100 fr else whK (sy S s) (fct (pg_l P) (pg_m P)) (fr + 100 - dy) dy) = whK (sy S s) (fct (pg_l P) (pg_m P)) (fr + 100 - (dy + 1) + 1) dy := by
                  by_cases c6 : dy ≤ fr
                  · have : dy = fr := by omega
                    subst this
                    rw [if_pos c6, show dy + 100 - (dy + 1) + 1 = 100 by omega]
                  · rw [if_neg c6, show fr + 100 - (dy + 1) + 1 = fr + 100 - dy by omega]
                rw [e]
                rfl
              rw [wk]
              cases e : sy S s (fct (pg_l P) (pg_m P) dy) with
              | true => rw [if_pos rfl, if_neg (by decide), rI_s, if_pos rfl]
              | false =>
                rw [if_neg Bool.false_ne_true, if_pos rfl, nx, if_neg (by omega), if_neg Bool.false_ne_true]) (fr + 100 - D) D (by omega) (Nat.le_refl _) l6
          rw [if_pos rfl, if_pos hfr] at L
          have f0 := fct_0 (l := pg_l P) (m := pg_m P)
          rw [eD] at f0
          rw [f0] at L
          exact L
        by_cases c4 : day ≤ D
        · rw [if_pos (by rw [ii_le (by omega) (by omega) (by omega) (by omega)]; omega), b288_51 rfl]
          simp only [(RS.ok W.1), (RS.fr W.1), true_and, and_true, true_or, or_true, W.1.l149, W.day, W.so, eD]
          rw [Nat.max_eq_right c4]
          exact main D _ _ (Nat.le_refl _) (by omega)
        · rw [if_neg (by rw [ii_le (by omega) (by omega) (by omega) (by omega)]; omega), b288_51 rfl]
          simp only [(RS.ok W.1), (RS.fr W.1), true_and, and_true, true_or, or_true, W.1.l149, W.day, W.so, eD]
          rw [Nat.max_eq_left (by omega)]
          exact main day _ _ (by omega) (by omega)
      · rw [if_neg c3, if_neg (by decide), if_neg (fun g => c3 g.1.2), rI_s]
    · rw [if_neg c2, if_pos rfl, if_neg (fun g => c2 g.2), rI_s]
  · rw [if_neg c, if_pos rfl, if_neg (fun g => c g.1.1), rI_s]
end Rx2
