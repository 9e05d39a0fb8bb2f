/-! RIDDLES: the sets of sayings that fit the trials, as the class finds them -/
def PgLo (h : mHeap) (p : Nat) : Prop := 97 ≤ p ∧ 97 ≤ fR h p 0 ∧ ∀ i b, i < 20 → xR h (p + 19) i = some b → 97 ≤ b
def frs (S : List Wd) : Nat := if 8 < S.length then 8 else S.length
def ftT (n : Nat) (S : List Wd) (T : List (Nat × Bool)) (set : Nat) : Prop := ∀ t, t < T.length → (flw n S set (T.getD t (0, false)).1 ↔ (T.getD t (0, false)).2 = true)
noncomputable def fitB (n : Nat) (S : List Wd) (T : List (Nat × Bool)) (set : Nat) : Bool := @decide (ftT n S T set) (Classical.propDecidable _)
noncomputable def flwB (n : Nat) (S : List Wd) (set s : Nat) : Bool := @decide (flw n S set s) (Classical.propDecidable _)
noncomputable def nFit (n : Nat) (S : List Wd) (T : List (Nat × Bool)) (k : Nat) : Nat := cB (fitB n S T) k
noncomputable def aFit (n : Nat) (S : List Wd) (T : List (Nat × Bool)) (all : Nat) : Nat → Nat
  | 0 => all
  | k + 1 => if fitB n S T k = true then aFit n S T all k &&& k else aFit n S T all k
noncomputable def oFit (n : Nat) (S : List Wd) (T : List (Nat × Bool)) : Nat → Nat
  | 0 => 0
  | k + 1 => if fitB n S T k = true then oFit n S T k ||| k else oFit n S T k
noncomputable def nFol (n : Nat) (S : List Wd) (T : List (Nat × Bool)) (s k : Nat) : Nat := cB (fun set => fitB n S T set && flwB n S set s) k
section Si
variable {d p : Nat} {h h1 : mHeap} {S : List Wd} {P : Pg}
theorem fitB_t {n set : Nat} {T : List (Nat × Bool)} : fitB n S T set = true ↔ ftT n S T set := by
  unfold fitB
  exact @decide_eq_true_iff _ (Classical.propDecidable _)
theorem flwB_t {n set s : Nat} : flwB n S set s = true ↔ flw n S set s := by
  unfold flwB
  exact @decide_eq_true_iff _ (Classical.propDecidable _)
theorem PgLo.T {a : Nat} (hL : PgLo h p) (c : PgT h p a ∨ (fR h p 0 ≤ a ∧ a < fR h p 0 + 8)) : 97 ≤ a := by
  obtain ⟨l1, l2, l3⟩ := hL
  rcases c with (c | c | ⟨i, b, hi, hb, c⟩) | c
  · omega
  · omega
  · have := l3 i b hi hb
    omega
  · omega
theorem PgR_below {lo n : Nat} (hP : PgR h p P) (hL : PgLo h p) (x : Fr lo n h h1) (e : lo + n ≤ 97) : PgR h1 p P ∧ PgLo h1 p := by
  refine ⟨PgR_eq hP (fun a c => x.2.2.2 a (by have := hL.T c; omega)), hL.1, ?_, fun i b hi hb => hL.2.2 i b hi (by rw [← x.1.2]; exact hb)⟩
  have : fR h1 p 0 = fR h p 0 := by rw [fR_kd (h := h1), x.1.1, ← fR_kd]
  rw [this]
  exact hL.2.1
theorem frs_le : frs S ≤ 8 ∧ frs S ≤ S.length := by
  unfold frs
  split <;> omega
theorem frs_p : 1 ≤ 2 ^ frs S ∧ 2 ^ frs S ≤ 256 := ⟨Nat.two_pow_pos _, Nat.le_trans (Nat.pow_le_pow_right (by decide) frs_le.1) (by decide : 2 ^ 8 ≤ 256)⟩
/-- firstSayings -/
theorem c92 {K : Int32 → mHeap → Prop} (hS : SyR h S) : GoCi (d + 1) 92 [.ref 69] h K ↔ K (ii ((2 ^ frs S - 1 : Nat) : Int)) h := by
  have hlen := hS.2.2.1
  have e8 : ii 8 = ii ((8 : Nat) : Int) := rfl
  rw [e92, b92_0]
  simp only [SyS_ok hS.1, true_and, hS.2.1, rI_s]
  have em : (if (ii 8) < ii (S.length : Nat) then (ii 8) else ii (S.length : Nat)) = ii (frs S : Nat) := by
    unfold frs
    by_cases c : 8 < S.length
    · rw [if_pos c, if_pos (by rw [e8, ii_lt (by omega) (by omega) (by omega) (by omega)]; omega)]; rfl
    · rw [if_neg c, if_neg (by rw [e8, ii_lt (by omega) (by omega) (by omega) (by omega)]; omega)]
  have hf := frs_le (S := S)
  have hp := frs_p (S := S)
  have e1 : shl (ii 1) (ii (frs S : Nat)) = ii ((2 ^ frs S : Nat) : Int) := by
    have := shl_ii 1 (show frs S < 32 by omega)
    rw [this, Int.one_mul]
    rfl
  rw [em, e1]
  generalize 2 ^ frs S = G at *
  rw [ii_sub, show ((G : Nat) : Int) - 1 = ((G - 1 : Nat) : Int) by omega]
theorem SyS_f (hS : SyS h) {i : Nat} (hi : i < 24) : okA h 72 .int (ii i) ∧ eI h 72 (ii i) = xA h 72 i := by
  have hx : (ii (i : Nat)).toNatClampNeg = i := ix_n (by omega)
  refine ⟨?_, by rw [eI_xA, hx]⟩
  rw [okA_kd, hS.2.2.2.2.2, hx]
  refine ⟨rfl, rfl, ?_, hi⟩
  rw [ii_lt0 (by omega) (by omega)]; omega
theorem PgR_tr (hP : PgR h p P) {t : Nat} (ht : t < (pg_t P).length) : okA h (p + 20) .int (ii t) ∧ eI h (p + 20) (ii t) = ii ((pg_t P).getD t (0, false)).1 := by
  obtain ⟨l0, l1, l2, l3, l4, l5, l6, l7, l8, l9⟩ := hP.2
  have hx : (ii (t : Nat)).toNatClampNeg = t := ix_n (by omega)
  refine ⟨?_, by rw [eI_xA, hx]; exact l8 t ht⟩
  rw [okA_kd, hP.1.2.2.2.1, hx]
  refine ⟨rfl, rfl, ?_, by show t < 10; omega⟩
  rw [ii_lt0 (by omega) (by omega)]; omega
/-- fitsTrials -/
theorem c94 {K : Int32 → mHeap → Prop} (hS : SyR h S) (hP : PgR h p P) (htr : ∀ t, t < (pg_t P).length → ((pg_t P).getD t (0, false)).1 < S.length) {n set : Nat} (hw : wo h 71 = mtW n S set) (hK : K (bP (ftT n S (pg_t P) set)) h) : GoCi (d + 2) 94 [.ref 69, .ref p] h K := by
  have hlen := hS.2.2.1
  obtain ⟨l0, l1, l2, l3, l4, l5, l6, l7, l8, l9⟩ := id hP.2
  rw [e94, b94_0]
  refine Go_loop (fun k L' h' => h' = h ∧ L' = [some (.ref 69), some (.ref p), some (.int (ii k))] ∧ ∀ t, t < k → (flw n S set ((pg_t P).getD t (0, false)).1 ↔ ((pg_t P).getD t (0, false)).2 = true)) (pg_t P).length ?_ ?_ 0 _ _ (Nat.zero_le _) ⟨rfl, rfl, fun t ht => absurd ht (Nat.not_lt_zero _)⟩
  · rintro k L' h' hk ⟨rfl, rfl, hI⟩ next
    have ek : ii (k : Int) + ii 1 = ii ((k + 1 : Nat) : Int) := by rw [ii_add]; rfl
    have hs := htr k hk
    have r := SyS_row hS.1 (show ((pg_t P).getD k (0, false)).1 < 24 by omega)
    have tr := PgR_tr hP hk
    rw [b94_2]
    simp only [PgS_okF hP.1, SyS_ok hS.1, W_ok hS.1.2.2.2.2.1, true_and, l6, tr, r]
    rw [if_neg (by rw [ii_le (by omega) (by omega) (by omega) (by omega)]; omega), c128 hS.1.2.2.2.2.1 (hS.1.2.2.2.1 _ (by omega))]
    refine ⟨(PgS_okF hP.1).2.2.2.2.2.2.2.2.2.2.2, ?_⟩
    rw [c62 hP hk, hw, hS.2.2.2 _ hs]
    show (if bP (flw n S set ((pg_t P).getD k (0, false)).1) = _ then _ else _)
    by_cases f : flw n S set ((pg_t P).getD k (0, false)).1
    · by_cases g : ((pg_t P).getD k (0, false)).2 = true
      · rw [bP_t f, if_pos g, if_pos rfl, ek]
        refine next _ _ ⟨rfl, rfl, fun t ht => ?_⟩
        rcases Nat.lt_succ_iff_lt_or_eq.mp ht with c | c
        · exact hI t c
        · subst c; exact ⟨fun _ => g, fun _ => f⟩
      · rw [bP_t f, if_neg g, if_neg (by decide)]
        refine ⟨by simp, ?_⟩
        rw [rI_s]
        rw [bP_f (fun q : ftT n S (pg_t P) set => g ((q k hk).mp f))] at hK
        exact hK
    · by_cases g : ((pg_t P).getD k (0, false)).2 = true
      · rw [bP_f f, if_pos g, if_neg (by decide)]
        refine ⟨by simp, ?_⟩
        rw [rI_s]
        rw [bP_f (fun q : ftT n S (pg_t P) set => f ((q k hk).mpr g))] at hK
        exact hK
      · rw [bP_f f, if_neg g, if_pos rfl, ek]
        refine next _ _ ⟨rfl, rfl, fun t ht => ?_⟩
        rcases Nat.lt_succ_iff_lt_or_eq.mp ht with c | c
        · exact hI t c
        · subst c; exact ⟨fun q => absurd q f, fun q => absurd q g⟩
  · rintro L' h' ⟨rfl, rfl, hI⟩
    rw [b94_2]
    simp only [PgS_okF hP.1, true_and, l6]
    rw [if_pos (by rw [ii_le (by omega) (by omega) (by omega) (by omega)]; omega)]
    refine ⟨by simp, ?_⟩
    rw [rI_s]
    rw [bP_t (show ftT n S (pg_t P) set from hI)] at hK
    exact hK
/-- countFollowing -/
theorem c95 {K : mHeap → Prop} (hS : SyR h S) {n set : Nat} (hw : wo h 71 = mtW n S set) (hK : ∀ h1, Fr 72 1 h h1 → (∀ i, i < S.length → xA h1 72 i = if flwB n S set i = true then xA h 72 i + ii 1 else xA h 72 i) → K h1) : GoCv (d + 2) 95 [.ref 69] h K := by
  have hlen := hS.2.2.1
  rw [e95, b95_0]
  refine Go_loop (fun k L' h' => L' = [some (.ref 69), some (.int (ii k))] ∧ Fr 72 1 h h' ∧ (∀ i, i < k → xA h' 72 i = if flwB n S set i = true then xA h 72 i + ii 1 else xA h 72 i) ∧ ∀ i, k ≤ i → xA h' 72 i = xA h 72 i) S.length ?_ ?_ 0 _ _ (Nat.zero_le _) ⟨rfl, Fr.rf, fun t ht => absurd ht (Nat.not_lt_zero _), fun _ _ => rfl⟩
  · rintro k L' h' hk ⟨rfl, hf, hA, hB⟩ next
    have hS' := hS.fr hf (by omega)
    have ek : ii (k : Int) + ii 1 = ii ((k + 1 : Nat) : Int) := by rw [ii_add]; rfl
    have hw' : wo h' 71 = mtW n S set := by rw [same_wo (hf.2.2.2 71 (by omega)), hw]
    have r := SyS_row hS'.1 (show k < 24 by omega)
    have q := SyS_f hS'.1 (show k < 24 by omega)
    have hx : (ii (k : Nat)).toNatClampNeg = k := ix_n (by omega)
    rw [b95_2]
    simp only [SyS_ok hS'.1, W_ok hS'.1.2.2.2.2.1, true_and, hS'.2.1, r]
    rw [if_neg (by rw [ii_le (by omega) (by omega) (by omega) (by omega)]; omega), c128 hS'.1.2.2.2.2.1 (hS'.1.2.2.2.1 _ (by omega)), hw', hS'.2.2.2 _ hk]
    show (if bP (flw n S set k) = ii 0 then _ else _)
    by_cases f : flw n S set k
    · rw [if_neg (fun g => bP_n.mpr f g)]
      simp only [SyS_ok hS'.1, true_and, q]
      refine ⟨by decide, ?_⟩
      rw [b95_36, ek]
      refine next _ _ ⟨rfl, hf.tr Fr.sI, fun i hi => ?_, fun i hi => ?_⟩
      · rw [xA_sI (by rw [hS'.1.2.2.2.2.2]) (by rw [hS'.1.2.2.2.2.2, hx]; show k < 24; omega), if_pos rfl, hx]
        unfold upf
        by_cases c : i = k
        · subst c
          rw [if_pos rfl, if_pos (flwB_t.mpr f), hB _ (Nat.le_refl _)]
        · rw [if_neg c]
          exact hA i (by omega)
      · rw [xA_sI (by rw [hS'.1.2.2.2.2.2]) (by rw [hS'.1.2.2.2.2.2, hx]; show k < 24; omega), if_pos rfl, hx]
        unfold upf
        rw [if_neg (by omega)]
        exact hB i (by omega)
    · rw [if_pos (bP_0.mpr f), b95_36, ek]
      refine next _ _ ⟨rfl, hf, fun i hi => ?_, fun i hi => hB i (by omega)⟩
      by_cases c : i = k
      · subst c
        rw [if_neg (fun g => f (flwB_t.mp g)), hB _ (Nat.le_refl _)]
      · exact hA i (by omega)
  · rintro L' h' ⟨rfl, hf, hA, hB⟩
    have hS' := hS.fr hf (by omega)
    rw [b95_2]
    simp only [SyS_ok hS'.1, true_and, hS'.2.1]
    rw [if_pos (by rw [ii_le (by omega) (by omega) (by omega) (by omega)]; omega), rV_s]
    exact hK h' hf hA
end Si
