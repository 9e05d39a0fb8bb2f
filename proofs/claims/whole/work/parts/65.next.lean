/-! RIDDLES: fittingSets, bestTrial -/
section Ne
variable {d p : Nat} {h h1 : mHeap} {S : List Wd} {P : Pg}
/-- fittingSets -/
theorem c90 {K : Int32 → mHeap → Prop} (hSt : St h) (hS : SyR h S) (hP : PgR h p P) (hL : PgLo h p) (htr : ∀ t, t < (pg_t P).length → ((pg_t P).getD t (0, false)).1 < S.length) {what : Nat} (hw : what ≤ 2) (hK : ∀ h1, Fr 69 4 h h1 → SyR h1 S → K (ii (stA (pgn P) S (pg_t P) what : Nat)) h1) : GoCi (d + 5) 90 [.ref 69, .ref p, .int (ii what)] h K := by
  have hp := frs_p (S := S)
  have e0 : ii 0 = ii ((0 : Nat) : Int) := rfl
  have e1 : ii 1 = ii ((1 : Nat) : Int) := rfl
  rw [e90, b90_0]
  refine ⟨(SyS_ok hS.1).2.2.2.2.2.2.2.2.2.2.1, ?_⟩
  refine c93 hSt hS hP hL htr (fun h1 F1 hS1 g4 g5 g6 gx => ?_)
  have hn := (nFol_le (n := pgn P) (S := S) (s := 0) (k := 2 ^ frs S) (T := pg_t P)).2
  have hK := hK h1 F1 hS1
  simp only [SyS_ok hS1.1, true_and, rI_s, g4, g5]
  by_cases c : what = 0
  · rw [if_pos (by rw [c]; rfl)]
    unfold stA at hK
    rw [if_pos (Or.inl c)] at hK
    exact hK
  rw [if_neg (by rw [e0, ii_eq (by omega) (by omega) (by omega) (by omega)]; omega)]
  by_cases z : nFit (pgn P) S (pg_t P) (2 ^ frs S) = 0
  · unfold stA at hK
    rw [if_pos (Or.inr z)] at hK
    rw [if_neg (by rw [z]; exact fun g => g rfl)]
    exact hK
  · unfold stA at hK
    rw [if_neg (by omega)] at hK
    rw [if_pos (by rw [e0, ii_eq (by omega) (by omega) (by omega) (by omega)]; omega)]
    by_cases w : what = 1
    · rw [if_pos w] at hK
      rw [if_neg (by rw [w]; exact fun g => g rfl)]
      exact hK
    · rw [if_neg w] at hK
      rw [if_pos (by rw [e1, ii_eq (by omega) (by omega) (by omega) (by omega)]; omega)]
      rw [c92 hS1]
      simp only [SyS_ok hS1.1, true_and, g6]
      rw [show ii (-1) = ii ((4294967295 : Nat) : Int) from by decide, xor_ii, and_ii]
      exact hK
end Ne
