/-! RIDDLES, whole: siftSets, fittingSets, bestTrial -/
def pgn (P : Pg) : Nat := ld_n (pg_l P)
/-- the answer of SETS -/
noncomputable def stA (n : Nat) (S : List Wd) (T : List (Nat × Bool)) (what : Nat) : Nat := if what = 0 ∨ nFit n S T (2 ^ frs S) = 0 then nFit n S T (2 ^ frs S) else if what = 1 then aFit n S T (2 ^ frs S - 1) (2 ^ frs S) else (2 ^ frs S - 1) &&& (oFit n S T (2 ^ frs S) ^^^ 4294967295)
noncomputable def gtr (n : Nat) (S : List Wd) (T : List (Nat × Bool)) (s : Nat) : Nat := if nFol n S T s (2 ^ frs S) < nFit n S T (2 ^ frs S) - nFol n S T s (2 ^ frs S) then nFit n S T (2 ^ frs S) - nFol n S T s (2 ^ frs S) else nFol n S T s (2 ^ frs S)
/-- the best and its number, of the first k sayings -/
noncomputable def btK (n : Nat) (S : List Wd) (T : List (Nat × Bool)) : Nat → Int × Nat
  | 0 => (-2, 0)
  | k + 1 => if (btK n S T k).1 = -2 ∨ gtr n S T k < (btK n S T k).2 then (k, gtr n S T k) else btK n S T k
/-- the answer of NEXT -/
noncomputable def btA (n : Nat) (S : List Wd) (T : List (Nat × Bool)) (what : Nat) : Int := if nFit n S T (2 ^ frs S) = 0 then -2 else if what = 0 ∨ (btK n S T S.length).1 = -2 then (btK n S T S.length).1 else (btK n S T S.length).2
section Se
variable {d p : Nat} {h h1 : mHeap} {S : List Wd} {P : Pg}
theorem cB_mono {u v : Nat → Bool} (e : ∀ i, u i = true → v i = true) : ∀ n, cB u n ≤ cB v n
  | 0 => Nat.le_refl _
  | n + 1 => by
    have ih := cB_mono e n
    unfold cB
    cases hu : u n with
    | false =>
      rw [if_neg (by decide)]
      exact Nat.le_trans ih (Nat.le_add_right _ _)
    | true => rw [e n hu]; omega
theorem nFol_le {n s k : Nat} {T : List (Nat × Bool)} : nFol n S T s k ≤ nFit n S T k ∧ nFit n S T k ≤ k := ⟨cB_mono (fun i q => by rw [Bool.and_eq_true] at q; exact q.1) k, cB_le _ _⟩
theorem aFit_s {n all k : Nat} {T : List (Nat × Bool)} : aFit n S T all (k + 1) = if fitB n S T k = true then aFit n S T all k &&& k else aFit n S T all k := rfl
theorem oFit_s {n k : Nat} {T : List (Nat × Bool)} : oFit n S T (k + 1) = if fitB n S T k = true then oFit n S T k ||| k else oFit n S T k := rfl
theorem btK_s {n k : Nat} {T : List (Nat × Bool)} : btK n S T (k + 1) = if (btK n S T k).1 = -2 ∨ gtr n S T k < (btK n S T k).2 then ((k : Int), gtr n S T k) else btK n S T k := rfl
theorem SyS_t (hS : SyS h) {k : Nat} (hk : k = 4 ∨ k = 5 ∨ k = 6) : tgK (kd h 69) k = some 0 := by
  rw [hS.1]
  rcases hk with rfl | rfl | rfl <;> rfl
theorem SyS_put (hS : SyR h S) {k : Nat} (hk : k = 4 ∨ k = 5 ∨ k = 6) (x : Int32) : SyR (sF h 69 k (.int x)) S ∧ Fr 69 1 h (sF h 69 k (.int x)) ∧ ∀ j, fI (sF h 69 k (.int x)) 69 j = if j = k then x else fI h 69 j := by
  have ht := SyS_t hS.1 hk
  have hf := Fr.sF (x := x) ht
  have e : ∀ j, fI (sF h 69 k (.int x)) 69 j = if j = k then x else fI h 69 j := fun j => by
    rw [fI_sF ht]
    by_cases q : j = k
    · rw [if_pos ⟨rfl, q.symm⟩, if_pos q]
    · rw [if_neg (fun g => q g.2.symm), if_neg q]
  refine ⟨⟨hf.1.SyS hS.1, ?_, hS.2.2.1, fun i hi => ?_⟩, hf, e⟩
  · rw [e, if_neg (by omega)]; exact hS.2.1
  · rw [same_wo (hf.2.2.2 (73 + i) (by omega))]; exact hS.2.2.2 i hi
theorem PgR_n (hP : PgR h p P) : okF h p 4 0 2 ∧ okF h (fR h p 0) 2 0 0 ∧ fI h (fR h p 0) 0 = ii (pgn P : Nat) ∧ pgn P ≤ 8 := ⟨(PgS_okF hP.1).1, (LaS_ok hP.2.1.1).1, hP.2.1.2.1, hP.2.2.1.1⟩
/-- siftSets -/
theorem c93 {K : mHeap → Prop} (hSt : St h) (hS : SyR h S) (hP : PgR h p P) (hL : PgLo h p) (htr : ∀ t, t < (pg_t P).length → ((pg_t P).getD t (0, false)).1 < S.length) (hK : ∀ h1, Fr 69 4 h h1 → SyR h1 S → fI h1 69 4 = ii (nFit (pgn P) S (pg_t P) (2 ^ frs S) : Nat) → fI h1 69 5 = ii (aFit (pgn P) S (pg_t P) (2 ^ frs S - 1) (2 ^ frs S) : Nat) → fI h1 69 6 = ii (oFit (pgn P) S (pg_t P) (2 ^ frs S) : Nat) → (∀ i, i < S.length → xA h1 72 i = ii (nFol (pgn P) S (pg_t P) i (2 ^ frs S) : Nat)) → K h1) : GoCv (d + 4) 93 [.ref 69, .ref p] h K := by
  have hp := frs_p (S := S)
  rw [e93, b93_0]
  refine ⟨(SyS_ok hS.1).2.2.2.2.2.2.2.2.2.2.1, ?_⟩
  rw [c92 hS]
  generalize hG : (2 : Nat) ^ frs S = G at *
  obtain ⟨A1, F1, x1⟩ := SyS_put hS (k := 4) (by omega) (ii 0)
  obtain ⟨A2, F2, x2⟩ := SyS_put A1 (k := 5) (by omega) (ii ((G - 1 : Nat) : Int))
  obtain ⟨A3, F3, x3⟩ := SyS_put A2 (k := 6) (by omega) (ii 0)
  refine ⟨(SyS_ok hS.1).2.2.2.2.2.2.2.2.2.2.2.2.1, (SyS_ok A1.1).2.2.2.2.2.2.2.2.2.2.2.2.2.1, (SyS_ok A2.1).2.2.2.2.2.2.2.2.2.2.2.2.2.2, (SyS_ok A3.1).2.2.2.1, ?_⟩
  have y4 : fI (sF (sF (sF h 69 4 (.int (ii 0))) 69 5 (.int (ii ((G - 1 : Nat) : Int)))) 69 6 (.int (ii 0))) 69 4 = ii 0 := by
    rw [x3, if_neg (by decide), x2, if_neg (by decide), x1, if_pos rfl]
  have y5 : fI (sF (sF (sF h 69 4 (.int (ii 0))) 69 5 (.int (ii ((G - 1 : Nat) : Int)))) 69 6 (.int (ii 0))) 69 5 = ii ((G - 1 : Nat) : Int) := by
    rw [x3, if_neg (by decide), x2, if_pos rfl]
  have y6 : fI (sF (sF (sF h 69 4 (.int (ii 0))) 69 5 (.int (ii ((G - 1 : Nat) : Int)))) 69 6 (.int (ii 0))) 69 6 = ii 0 := by
    rw [x3, if_pos rfl]
  have F0 := (F1.tr F2).tr F3
  clear x1 x2 x3
  generalize sF (sF (sF h 69 4 (.int (ii 0))) 69 5 (.int (ii ((G - 1 : Nat) : Int)))) 69 6 (.int (ii 0)) = H at *
  rw [(SyS_ok A3.1).2.2.2.2.2.2.2.2.2.1]
  refine c325 (n := 24) (by decide) A3.1.2.2.2.2.2 (by decide) (fun h2 F4 hx => ?_)
  have B1 := A3.fr F4 (by omega)
  have z : ∀ k, fI h2 69 k = fI H 69 k := fun k => same_fI (F4.2.2.2 69 (by omega)) k
  have hlen := hS.2.2.1
  refine Go_loop (fun k L' h' => L' = [some (.ref 69), some (.ref p), some (.int (ii ((G - 1 : Nat) : Int))), some (.int (ii k))] ∧ Fr 69 4 h h' ∧ SyR h' S ∧ fI h' 69 4 = ii (nFit (pgn P) S (pg_t P) k : Nat) ∧ fI h' 69 5 = ii (aFit (pgn P) S (pg_t P) (G - 1) k : Nat) ∧ fI h' 69 6 = ii (oFit (pgn P) S (pg_t P) k : Nat) ∧ ∀ i, i < S.length → xA h' 72 i = ii (nFol (pgn P) S (pg_t P) i k : Nat)) G ?_ ?_ 0 _ _ (Nat.zero_le _) ⟨rfl, (F0.wide (by omega) (by omega)).tr (F4.wide (by omega) (by omega)), B1, by rw [z, y4]; rfl, by rw [z, y5]; rfl, by rw [z, y6]; rfl, fun i hi => hx i (by omega)⟩
  · rintro k L' h' hk ⟨rfl, hf, hS', g4, g5, g6, gx⟩ next
    have hP' := PgR_below hP hL hf (by omega)
    have pn := PgR_n hP'.1
    have ek : ii (k : Int) + ii 1 = ii ((k + 1 : Nat) : Int) := by rw [ii_add]; rfl
    rw [b93_30, if_neg (by rw [ii_lt (by omega) (by omega) (by omega) (by omega)]; omega)]
    refine ⟨pn.1, pn.2.1, (SyS_ok hS'.1).2.2.2.2.2.2.2.2.2.2.1, ?_⟩
    rw [pn.2.2.1]
    refine c86 (hf.St (by omega) hSt) hS' pn.2.2.2 (by omega) (fun h3 F5 hw => ?_)
    have hS3 := hS'.fr F5 (by omega)
    have hP3 := PgR_below hP'.1 hP'.2 F5 (by omega)
    have w : ∀ k, fI h3 69 k = fI h' 69 k := fun k => same_fI (F5.2.2.2 69 (by omega)) k
    have w2 : xA h3 72 = xA h' 72 := same_xA (F5.2.2.2 72 (by omega))
    have hf3 := hf.tr (F5.wide (lo' := 69) (n' := 4) (by omega) (by omega))
    refine ⟨(SyS_ok hS3.1).2.2.2.2.2.2.2.2.2.2.1, ?_⟩
    refine c94 hS3 hP3.1 htr hw ?_
    by_cases f : ftT (pgn P) S (pg_t P) k
    · have fb := fitB_t.mpr f
      rw [if_neg (fun g => bP_n.mpr f g)]
      obtain ⟨D1, E1, v1⟩ := SyS_put hS3 (k := 4) (by omega) (fI h3 69 4 + ii 1)
      obtain ⟨D2, E2, v2⟩ := SyS_put D1 (k := 5) (by omega) (fI (sF h3 69 4 (.int (fI h3 69 4 + ii 1))) 69 5 &&& ii k)
      obtain ⟨D3, E3, v3⟩ := SyS_put D2 (k := 6) (by omega) (fI (sF (sF h3 69 4 (.int (fI h3 69 4 + ii 1))) 69 5 (.int (fI (sF h3 69 4 (.int (fI h3 69 4 + ii 1))) 69 5 &&& ii k))) 69 6 ||| ii k)
      refine ⟨(SyS_ok hS3.1).2.2.2.2.1, (SyS_ok hS3.1).2.2.2.2.2.2.2.2.2.2.2.2.1, (SyS_ok D1.1).2.2.2.2.2.1, (SyS_ok D1.1).2.2.2.2.2.2.2.2.2.2.2.2.2.1, (SyS_ok D2.1).2.2.2.2.2.2.1, (SyS_ok D2.1).2.2.2.2.2.2.2.2.2.2.2.2.2.2, (SyS_ok D3.1).2.2.2.2.2.2.2.2.2.2.1, ?_⟩
      have u4 : fI (sF (sF (sF h3 69 4 (.int (fI h3 69 4 + ii 1))) 69 5 (.int (fI (sF h3 69 4 (.int (fI h3 69 4 + ii 1))) 69 5 &&& ii k))) 69 6 (.int (fI (sF (sF h3 69 4 (.int (fI h3 69 4 + ii 1))) 69 5 (.int (fI (sF h3 69 4 (.int (fI h3 69 4 + ii 1))) 69 5 &&& ii k))) 69 6 ||| ii k))) 69 4 = ii (nFit (pgn P) S (pg_t P) (k + 1) : Nat) := by
        rw [v3, if_neg (by decide), v2, if_neg (by decide), v1, if_pos rfl, w, g4, ii_add]
        show _ = ii ((nFit (pgn P) S (pg_t P) k + (if fitB (pgn P) S (pg_t P) k = true then 1 else 0) : Nat) : Int)
        rw [if_pos fb]
        rfl
      have u5 : fI (sF (sF (sF h3 69 4 (.int (fI h3 69 4 + ii 1))) 69 5 (.int (fI (sF h3 69 4 (.int (fI h3 69 4 + ii 1))) 69 5 &&& ii k))) 69 6 (.int (fI (sF (sF h3 69 4 (.int (fI h3 69 4 + ii 1))) 69 5 (.int (fI (sF h3 69 4 (.int (fI h3 69 4 + ii 1))) 69 5 &&& ii k))) 69 6 ||| ii k))) 69 5 = ii (aFit (pgn P) S (pg_t P) (G - 1) (k + 1) : Nat) := by
        rw [v3, if_neg (by decide), v2, if_pos rfl, v1, if_neg (by decide), w, g5, and_ii]
        rw [aFit_s]
        rw [if_pos fb]
      have u6 : fI (sF (sF (sF h3 69 4 (.int (fI h3 69 4 + ii 1))) 69 5 (.int (fI (sF h3 69 4 (.int (fI h3 69 4 + ii 1))) 69 5 &&& ii k))) 69 6 (.int (fI (sF (sF h3 69 4 (.int (fI h3 69 4 + ii 1))) 69 5 (.int (fI (sF h3 69 4 (.int (fI h3 69 4 + ii 1))) 69 5 &&& ii k))) 69 6 ||| ii k))) 69 6 = ii (oFit (pgn P) S (pg_t P) (k + 1) : Nat) := by
        rw [v3, if_pos rfl, v2, if_neg (by decide), v1, if_neg (by decide), w, g6, or_ii]
        rw [oFit_s]
        rw [if_pos fb]
      have E0 := (E1.tr E2).tr E3
      clear v1 v2 v3
      generalize sF (sF (sF h3 69 4 (.int (fI h3 69 4 + ii 1))) 69 5 (.int (fI (sF h3 69 4 (.int (fI h3 69 4 + ii 1))) 69 5 &&& ii k))) 69 6 (.int (fI (sF (sF h3 69 4 (.int (fI h3 69 4 + ii 1))) 69 5 (.int (fI (sF h3 69 4 (.int (fI h3 69 4 + ii 1))) 69 5 &&& ii k))) 69 6 ||| ii k)) = H3 at *
      refine c95 D3 (n := pgn P) (set := k) (by rw [same_wo (E0.2.2.2 71 (by omega))]; exact hw) (fun h4 F6 hx4 => ?_)
      have hS4 := D3.fr F6 (by omega)
      have z4 : ∀ k, fI h4 69 k = fI H3 69 k := fun k => same_fI (F6.2.2.2 69 (by omega)) k
      rw [b93_89, ek]
      refine next _ _ ⟨rfl, (hf3.tr (E0.wide (by omega) (by omega))).tr (F6.wide (by omega) (by omega)), hS4, by rw [z4, u4], by rw [z4, u5], by rw [z4, u6], fun i hi => ?_⟩
      rw [hx4 i hi, same_xA (E0.2.2.2 72 (by omega)), w2, gx i hi]
      show _ = ii ((nFol (pgn P) S (pg_t P) i k + (if (fitB (pgn P) S (pg_t P) k && flwB (pgn P) S k i) = true then 1 else 0) : Nat) : Int)
      rw [fb, Bool.true_and]
      cases flwB (pgn P) S k i with
      | true => rw [if_pos rfl, if_pos rfl, ii_add]; rfl
      | false => rw [if_neg (by decide), if_neg (by decide)]; rfl
    · have fb : ¬ fitB (pgn P) S (pg_t P) k = true := fun g => f (fitB_t.mp g)
      rw [if_pos (bP_0.mpr f), b93_89, ek]
      refine next _ _ ⟨rfl, hf3, hS3, ?_, ?_, ?_, fun i hi => ?_⟩
      · rw [w, g4]
        show _ = ii ((nFit (pgn P) S (pg_t P) k + (if fitB (pgn P) S (pg_t P) k = true then 1 else 0) : Nat) : Int)
        rw [if_neg fb]; rfl
      · rw [w, g5]
        rw [aFit_s]
        rw [if_neg fb]
      · rw [w, g6]
        rw [oFit_s]
        rw [if_neg fb]
      · rw [w2, gx i hi]
        show _ = ii ((nFol (pgn P) S (pg_t P) i k + (if (fitB (pgn P) S (pg_t P) k && flwB (pgn P) S k i) = true then 1 else 0) : Nat) : Int)
        rw [if_neg (by rw [Bool.and_eq_true]; exact fun g => fb g.1)]; rfl
  · rintro L' h' ⟨rfl, hf, hS', g4, g5, g6, gx⟩
    rw [b93_30, if_pos (by rw [ii_lt (by omega) (by omega) (by omega) (by omega)]; omega), rV_s]
    exact hK h' hf hS' g4 g5 g6 gx
end Se
