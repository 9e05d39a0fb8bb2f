/-! RIDDLES: fittingSets, bestTrial -/
section Ne
variable {d p : Nat} {h h1 : mHeap} {S : List Wd} {P : Pg}
/-- fittingSets -/
theorem c90 {K : Int32 → mHeap → Prop} (hSt : St h) (hS : SyR h S) (hP : PgR h p P) (hL : PgLo h p) (htr : ∀ t, t < (pg_t P).length → ((pg_t P).getD t (0, false)).1 < S.length) {what : Nat} (hw : what ≤ 2) (hK : ∀ h1, Fr 69 4 h h1 → SyR h1 S → K (ii (stA (pgn P) S (pg_t P) what : Nat)) h1) : GoCi (d + 5) 90 [.ref 69, .ref p, .int (ii what)] h K := by
  have hp := frs_p (S := S)
  have e0 : ii 0 = ii ((0 : Nat) : Int) := rfl
  have e1 : ii 1 = ii ((1 : Nat) : Int) := rfl
  rw [e90, b90_0]
  refine ⟨(SyS_ok hS.1).2.2.2.2.2.2.2.2.2.2.1, ?_⟩
  refine c93 hSt hS hP hL htr (fun h1 F1 hS1 g4 g5 g6 gx => ?_)
  have hn := (nFol_le (n := pgn P) (S := S) (s := 0) (k := 2 ^ frs S) (T := pg_t P)).2
  have hK := hK h1 F1 hS1
  simp only [SyS_ok hS1.1, true_and, rI_s, g4, g5]
  by_cases c : what = 0
  · rw [if_pos (by rw [c]; rfl)]
    unfold stA at hK
    rw [if_pos (Or.inl c)] at hK
    exact hK
  rw [if_neg (by rw [e0, ii_eq (by omega) (by omega) (by omega) (by omega)]; omega)]
  by_cases z : nFit (pgn P) S (pg_t P) (2 ^ frs S) = 0
  · unfold stA at hK
    rw [if_pos (Or.inr z)] at hK
    rw [if_neg (by rw [z]; exact fun g => g rfl)]
    exact hK
  · unfold stA at hK
    rw [if_neg (by omega)] at hK
    rw [if_pos (by rw [e0, ii_eq (by omega) (by omega) (by omega) (by omega)]; omega)]
    by_cases w : what = 1
    · rw [if_pos w] at hK
      rw [if_neg (by rw [w]; exact fun g => g rfl)]
      exact hK
    · rw [if_neg w] at hK
      rw [if_pos (by rw [e1, ii_eq (by omega) (by omega) (by omega) (by omega)]; omega)]
      rw [c92 hS1]
      simp only [SyS_ok hS1.1, true_and, g6]
      rw [show ii (-1) = ii ((4294967295 : Nat) : Int) from by decide, xor_ii, and_ii]
      exact hK
/-- bestTrial -/
theorem c91 {K : Int32 → mHeap → Prop} (hSt : St h) (hS : SyR h S) (hP : PgR h p P) (hL : PgLo h p) (htr : ∀ t, t < (pg_t P).length → ((pg_t P).getD t (0, false)).1 < S.length) {what : Nat} (hw : what ≤ 1) (hK : ∀ h1, Fr 69 4 h h1 → SyR h1 S → K (ii (btA (pgn P) S (pg_t P) what)) h1) : GoCi (d + 5) 91 [.ref 69, .ref p, .int (ii what)] h K := by
  have hp := frs_p (S := S)
  have hlen := hS.2.2.1
  have e0 : ii 0 = ii ((0 : Nat) : Int) := rfl
  rw [e91, b91_0]
  refine ⟨(SyS_ok hS.1).2.2.2.2.2.2.2.2.2.2.1, ?_⟩
  refine c93 hSt hS hP hL htr (fun h1 F1 hS1 g4 g5 g6 gx => ?_)
  have hn := (nFol_le (n := pgn P) (S := S) (s := 0) (k := 2 ^ frs S) (T := pg_t P)).2
  have hK := hK h1 F1 hS1
  by_cases z : nFit (pgn P) S (pg_t P) (2 ^ frs S) = 0
  · have fin : Go (d + 4) 91 80 [some (.ref 69), some (.ref p), some (.int (ii what)), some (.int (ii (-2))), some (.int (ii 0)), some (.int (ii 0)), none] [] h1 (rI K) := by
      unfold btA at hK
      rw [if_pos z] at hK
      rw [b91_80]
      simp only [rI_s]
      by_cases c : what = 0
      · rw [if_pos (by rw [c]; rfl)]
        exact hK
      · rw [if_neg (by rw [e0, ii_eq (by omega) (by omega) (by omega) (by omega)]; omega), if_neg (by simp)]
        exact hK
    rw [b91_14]
    simp only [SyS_ok hS1.1, true_and, hS1.2.1, g4, z]
    by_cases c : ii (S.length : Nat) ≤ ii 0
    · rw [if_pos c]; exact fin
    · rw [if_neg c, if_pos (by decide)]; exact fin
  have bt : ∀ k, k ≤ S.length → ((btK (pgn P) S (pg_t P) k).1 = -2 ∧ k = 0 ∨ 0 ≤ (btK (pgn P) S (pg_t P) k).1 ∧ (btK (pgn P) S (pg_t P) k).1 < 24) ∧ (btK (pgn P) S (pg_t P) k).2 ≤ 256 := by
    intro k
    induction k with
    | zero => exact fun _ => ⟨Or.inl ⟨rfl, rfl⟩, Nat.zero_le _⟩
    | succ k ih =>
      intro hk
      have ih := ih (by omega)
      have hf := nFol_le (n := pgn P) (S := S) (s := k) (k := 2 ^ frs S) (T := pg_t P)
      have hg : gtr (pgn P) S (pg_t P) k ≤ 256 := by
        unfold gtr
        split <;> omega
      rw [btK_s]
      by_cases c : (btK (pgn P) S (pg_t P) k).1 = -2 ∨ gtr (pgn P) S (pg_t P) k < (btK (pgn P) S (pg_t P) k).2
      · rw [if_pos c]
        exact ⟨Or.inr ⟨by show (0 : Int) ≤ k; omega, by show (k : Int) < 24; omega⟩, hg⟩
      · rw [if_neg c]
        refine ⟨?_, ih.2⟩
        rcases ih.1 with g | g
        · exact absurd (Or.inl g.1) c
        · exact Or.inr g
  refine Go_loop (fun k L' h' => h' = h1 ∧ ∃ l6, L' = [some (.ref 69), some (.ref p), some (.int (ii what)), some (.int (ii (btK (pgn P) S (pg_t P) k).1)), some (.int (ii ((btK (pgn P) S (pg_t P) k).2 : Nat))), some (.int (ii k)), l6]) S.length ?_ ?_ 0 _ _ (Nat.zero_le _) ⟨rfl, none, rfl⟩
  · rintro k L' h' hk ⟨rfl, l6, rfl⟩ next
    have ek : ii (k : Int) + ii 1 = ii ((k + 1 : Nat) : Int) := by rw [ii_add]; rfl
    have hb := bt k (by omega)
    have hf := nFol_le (n := pgn P) (S := S) (s := k) (k := 2 ^ frs S) (T := pg_t P)
    have q := SyS_f hS1.1 (show k < 24 by omega)
    have nx := next
    have em : (if ii (nFol (pgn P) S (pg_t P) k (2 ^ frs S) : Nat) < ii (nFit (pgn P) S (pg_t P) (2 ^ frs S) : Nat) - ii (nFol (pgn P) S (pg_t P) k (2 ^ frs S) : Nat) then ii (nFit (pgn P) S (pg_t P) (2 ^ frs S) : Nat) - ii (nFol (pgn P) S (pg_t P) k (2 ^ frs S) : Nat) else ii (nFol (pgn P) S (pg_t P) k (2 ^ frs S) : Nat)) = ii (gtr (pgn P) S (pg_t P) k : Nat) ∧ gtr (pgn P) S (pg_t P) k ≤ 256 := by
      unfold gtr
      generalize nFol (pgn P) S (pg_t P) k (2 ^ frs S) = u at *
      generalize nFit (pgn P) S (pg_t P) (2 ^ frs S) = v at *
      have es : ii (v : Nat) - ii (u : Nat) = ii ((v - u : Nat) : Int) := by
        rw [ii_sub]
        congr 1
        omega
      rw [es]
      by_cases c : u < v - u
      · rw [if_pos c, if_pos (by rw [ii_lt (by omega) (by omega) (by omega) (by omega)]; omega)]
        exact ⟨rfl, by omega⟩
      · rw [if_neg c, if_neg (by rw [ii_lt (by omega) (by omega) (by omega) (by omega)]; omega)]
        exact ⟨rfl, by omega⟩
    have em2 := em.2
    rw [b91_14]
    simp only [SyS_ok hS1.1, true_and, hS1.2.1, g4, q, gx k hk, em.1]
    rw [if_neg (by rw [ii_le (by omega) (by omega) (by omega) (by omega)]; omega), if_neg (by rw [e0, ii_le (by omega) (by omega) (by omega) (by omega)]; omega)]
    by_cases c : (btK (pgn P) S (pg_t P) k).1 = -2
    · rw [if_pos (by rw [c]), b91_67, b91_74, ek]
      refine next _ _ ⟨rfl, some (.int (ii (gtr (pgn P) S (pg_t P) k : Nat))), ?_⟩
      rw [btK_s, if_pos (Or.inl c)]
    · rw [if_neg (by rw [ii_eq (by omega) (by omega) (by omega) (by omega)]; exact c)]
      by_cases g : gtr (pgn P) S (pg_t P) k < (btK (pgn P) S (pg_t P) k).2
      · rw [if_neg (by rw [ii_le (by omega) (by omega) (by omega) (by omega)]; omega), b91_67, b91_74, ek]
        refine next _ _ ⟨rfl, some (.int (ii (gtr (pgn P) S (pg_t P) k : Nat))), ?_⟩
        rw [btK_s, if_pos (Or.inr g)]
      · rw [if_pos (by rw [ii_le (by omega) (by omega) (by omega) (by omega)]; omega), b91_74, ek]
        refine next _ _ ⟨rfl, some (.int (ii (gtr (pgn P) S (pg_t P) k : Nat))), ?_⟩
        rw [btK_s, if_neg (by rintro (a | a); exact c a; exact g a)]
  · rintro L' h' ⟨rfl, l6, rfl⟩
    have hb := bt S.length (Nat.le_refl _)
    rw [b91_14]
    simp only [SyS_ok hS1.1, true_and, hS1.2.1]
    rw [if_pos (by rw [ii_le (by omega) (by omega) (by omega) (by omega)]; omega), b91_80]
    simp only [rI_s]
    unfold btA at hK
    rw [if_neg z] at hK
    by_cases c : what = 0
    · rw [if_pos (Or.inl c)] at hK
      rw [if_pos (by rw [c]; rfl)]
      exact hK
    · rw [if_neg (by rw [e0, ii_eq (by omega) (by omega) (by omega) (by omega)]; omega)]
      by_cases g : (btK (pgn P) S (pg_t P) S.length).1 = -2
      · rw [if_pos (Or.inr g)] at hK
        rw [if_neg (by rw [g]; exact fun q => q rfl)]
        exact hK
      · rw [if_neg (by rintro (a | a); exact c a; exact g a)] at hK
        rw [if_pos (by rw [ii_eq (by omega) (by omega) (by omega) (by omega)]; exact g)]
        exact hK
end Ne
