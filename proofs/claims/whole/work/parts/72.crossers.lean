/-! PLANS: who crosses -/
def thK (P : Pg) (sd : Bool) (k : Nat) : List Nat := (List.range k).filter (fun q => (mo_s (pg_m P) q == sd) && !mo_l (pg_m P) q)
def AdP (h : mHeap) : Prop := kd h 127 = (3, 10, [5]) ∧ (∀ i, i < 5 → xR h 127 i = some (131 + i)) ∧ kd h 128 = (1, 1, [4]) ∧ kd h 129 = (1, 1, [4]) ∧ kd h 130 = (1, 1, [4096]) ∧ WS h 126 ∧ ∀ i, i < 5 → WS h (131 + i)
def CrS (h : mHeap) (S : List Wd) (P : Pg) (l : List Nat) : Prop := fI h 125 6 = ii l.length ∧ l.length ≤ 4 ∧ ∀ i, i < l.length → xA h 128 i = ii (l.getD i 0) ∧ xA h 129 i = ii (knw S (mo_w (pg_m P) (l.getD i 0 + 1)) 255 : Nat)
section Cr
variable {d : Nat} {h h1 : mHeap} {S : List Wd} {P : Pg} {sd : Bool}
theorem thK_s {k : Nat} : thK P sd (k + 1) = thK P sd k ++ (if ((mo_s (pg_m P) k == sd) && !mo_l (pg_m P) k) = true then [k] else []) := by
  unfold thK
  rw [List.range_succ, List.filter_append, List.filter_cons, List.filter_nil]
theorem thK_mono {k : Nat} (n : Nat) (g : k ≤ n) : (thK P sd k).length ≤ (thK P sd n).length := by
  induction n with
  | zero => rw [show k = 0 by omega]; exact Nat.le_refl _
  | succ n ih =>
    by_cases c : k = n + 1
    · rw [c]; exact Nat.le_refl _
    · have := ih (by omega)
      rw [thK_s, List.length_append]
      omega
theorem thK_lt {k i : Nat} (hi : i < (thK P sd k).length) : (thK P sd k).getD i 0 < k := by
  rw [List.getD_eq_getElem?_getD, List.getElem?_eq_getElem hi, Option.getD_some]
  have := List.getElem_mem hi
  unfold thK at this
  rw [List.mem_filter] at this
  exact List.mem_range.mp this.1
theorem AdP.fr (hA : AdP h) (x : Sk h h1) : AdP h1 := ⟨by rw [x.1]; exact hA.1, fun i hi => by rw [x.2]; exact hA.2.1 i hi, by rw [x.1]; exact hA.2.2.1, by rw [x.1]; exact hA.2.2.2.1, by rw [x.1]; exact hA.2.2.2.2.1, x.WS hA.2.2.2.2.2.1, fun i hi => x.WS (hA.2.2.2.2.2.2 i hi)⟩
theorem AdS_ok2 (hA : AdS h) : okF h 125 0 3 2 ∧ okF h 125 0 4 2 ∧ okF h 125 0 5 2 ∧ okF h 125 0 6 0 ∧ okF h 125 0 7 2 ∧ fR h 125 3 = 127 ∧ fR h 125 4 = 128 ∧ fR h 125 5 = 129 ∧ fR h 125 7 = 130 ∧ okP h 125 0 6 := by
  refine ⟨?_, ?_, ?_, ?_, ?_, ?_, ?_, ?_, ?_, ?_⟩
  · rw [okF_kd, hA]; exact ⟨rfl, rfl, rfl⟩
  · rw [okF_kd, hA]; exact ⟨rfl, rfl, rfl⟩
  · rw [okF_kd, hA]; exact ⟨rfl, rfl, rfl⟩
  · rw [okF_kd, hA]; exact ⟨rfl, rfl, rfl⟩
  · rw [okF_kd, hA]; exact ⟨rfl, rfl, rfl⟩
  · rw [fR_kd, hA]; rfl
  · rw [fR_kd, hA]; rfl
  · rw [fR_kd, hA]; rfl
  · rw [fR_kd, hA]; rfl
  · rw [okP_kd, hA]; exact ⟨by decide, rfl, rfl, by decide⟩
theorem AdS_t6 (hA : AdS h) : tgK (kd h 125) 6 = some 0 := by rw [hA]; rfl
theorem CrS.fr {lo n : Nat} {l : List Nat} (hC : CrS h S P l) (x : Fr lo n h h1) (e : 130 ≤ lo ∨ lo + n ≤ 125 ∨ (126 ≤ lo ∧ lo + n ≤ 128)) : CrS h1 S P l := ⟨by rw [same_fI (x.2.2.2 125 (by omega))]; exact hC.1, hC.2.1, fun i hi => by rw [same_xA (x.2.2.2 128 (by omega)), same_xA (x.2.2.2 129 (by omega))]; exact hC.2.2 i hi⟩
/-- gatherCrossers -/
theorem c7 {K : Int32 → mHeap → Prop} (hA : AdO h) (hAP : AdP h) (hS : SyR h S) (hP : PgR h 97 P) (hK : ∀ h1, Fr 125 5 h h1 → ((thK P sd (ld_q (pg_l P)).length).length ≤ 4 → CrS h1 S P (thK P sd (ld_q (pg_l P)).length)) → K (if (thK P sd (ld_q (pg_l P)).length).length ≤ 4 then ii 1 else ii 0) h1) : GoCi (d + 3) 7 [.ref 125, .int (ii (if sd = true then 1 else 0))] h K := by
  have f1 : fR h 97 1 = 106 := (PgS_okF hP.1).2.2.2.2.2.2.2.2.1
  rw [e7, b7_0]
  simp only [AdS_ok hA.1, AdS_ok2 hA.1, true_and, PgS_okF hP.1, f1]
  have F1 : Fr 125 1 h (sF h 125 6 (.int (ii 0))) := Fr.sF (AdS_t6 hA.1)
  have g1 : fI (sF h 125 6 (.int (ii 0))) 125 6 = ii 0 := by rw [fI_sF (AdS_t6 hA.1), if_pos ⟨rfl, rfl⟩]
  generalize sF h 125 6 (.int (ii 0)) = H1 at *
  refine Go_loop (fun k L' h' => Fr 125 5 h h' ∧ CrS h' S P (thK P sd k) ∧ L' = [some (.ref 125), some (.int (ii (if sd = true then 1 else 0))), some (.ref 106), some (.int (ii 255)), some (.int (ii k))]) (ld_q (pg_l P)).length ?_ ?_ 0 _ _ (Nat.zero_le _) ⟨F1.wide (by decide) (by decide), ⟨g1, Nat.zero_le 4, fun i hi => (by cases hi)⟩, rfl⟩
  · rintro k L' h' hk ⟨F, C, rfl⟩ next
    have ek : ii (k : Int) + ii 1 = ii ((k + 1 : Nat) : Int) := by rw [ii_add]; rfl
    have A := hA.fr F.1
    have P' := PgR_adv hA hP F (by decide) (by decide)
    have S' := hS.fr F (by omega)
    have L := P'.2.1
    have M : MoR h' 106 (pg_m P) := P'.2.2.2.1
    have hn := P'.2.2.1.2.2.1
    have no : ((mo_s (pg_m P) k == sd) && !mo_l (pg_m P) k) = false → Go (d + 2) 7 105 [some (.ref 125), some (.int (ii (if sd = true then 1 else 0))), some (.ref 106), some (.int (ii 255)), some (.int (ii k))] [] h' (rI K) := fun c => by
      rw [b7_105, ek]
      exact next _ _ ⟨F, by rw [thK_s, c]; simpa using C, rfl⟩
    rw [b7_20]
    simp only [AdS_ok A.1, AdS_ok2 A.1, true_and, PgS_okF P'.1, LaS_ok L.1, L.2.2.2.1]
    rw [if_neg (by rw [ii_le (by omega) (by omega) (by omega) (by omega)]; omega)]
    simp only [MoS_okF M.1, true_and]
    rw [c48 M (show k < 6 by omega)]
    by_cases c : mo_s (pg_m P) k = sd
    rotate_left
    · rw [if_pos (by
        cases u : mo_s (pg_m P) k <;> cases v : sd <;> rw [u, v] at c <;> first | exact absurd rfl c | decide)]
      exact no (by rw [beq_false_of_ne c]; rfl)
    rw [if_neg (by rw [c]; exact fun g => g rfl)]
    simp only [MoS_okF M.1, true_and]
    rw [c49 M (show k < 6 by omega)]
    by_cases c2 : mo_l (pg_m P) k = true
    · rw [if_pos c2, if_pos (by decide)]
      exact no (by rw [c2]; simp)
    rw [if_neg c2, if_neg (by simp)]
    have yes : ((mo_s (pg_m P) k == sd) && !mo_l (pg_m P) k) = true := by rw [c]; simp [c2]
    simp only [AdS_ok A.1, AdS_ok2 A.1, true_and, C.1]
    have hc4 := C.2.1
    by_cases c4 : (thK P sd k).length < 4
    rotate_left
    · rw [if_neg (by rw [show ii 4 = ii ((4 : Nat) : Int) from rfl, ii_lt (by omega) (by omega) (by omega) (by omega)]; omega)]
      refine ⟨by simp, ?_⟩
      rw [rI_s]
      have big : ¬ (thK P sd (ld_q (pg_l P)).length).length ≤ 4 := by
        have := thK_mono (P := P) (sd := sd) (k := k + 1) (ld_q (pg_l P)).length hk
        rw [thK_s, yes, if_pos rfl, List.length_append] at this
        have l1 : [k].length = 1 := rfl
        omega
      have := hK h' F (fun g => absurd g big)
      rw [if_neg big] at this
      exact this
    rw [if_pos (by rw [show ii 4 = ii ((4 : Nat) : Int) from rfl, ii_lt (by omega) (by omega) (by omega) (by omega)]; omega)]
    have Q := hAP.fr F.1
    have r1 := row_ok Q.2.2.1 (show (thK P sd k).length < 4 by omega) (by omega)
    refine ⟨⟨by decide, r1.1⟩, ?_⟩
    have w1 := fun b => sI_row (b := b) (v := ii k) Q.2.2.1 (show (thK P sd k).length < 4 by omega) (by omega)
    have F2 : Fr 128 1 h' (sI h' 128 (ii (thK P sd k).length) (ii k)) := Fr.sI
    generalize sI h' 128 (ii (thK P sd k).length) (ii k) = H2 at *
    have A2 := A.fr F2.1
    have P2 := PgR_adv A P' F2 (by decide) (by decide)
    have S2 := S'.fr F2 (by omega)
    have M2 : MoR H2 106 (pg_m P) := P2.2.2.2.1
    have C2 : fI H2 125 6 = ii (thK P sd k).length := by rw [same_fI (F2.2.2.2 125 (by omega))]; exact C.1
    simp only [AdS_ok A2.1, AdS_ok2 A2.1, true_and, C2, MoS_okF M2.1]
    rw [c46 M2.1 (i := k + 1) (by omega) (by omega)]
    simp only [AdS_ok A2.1, true_and]
    refine c3 A2.1 S2 (M2.1.2.2.2.2.2 (k + 1) (by omega)) (bits := 255) (by decide) ?_
    have m2 : wo H2 (106 + 3 + (k + 1)) = mo_w (pg_m P) (k + 1) := M2.2.2.2.2.2.2 (k + 1) (by omega)
    rw [m2]
    have Q2 := Q.fr F2.1
    have r2 := row_ok Q2.2.2.2.1 (show (thK P sd k).length < 4 by omega) (by omega)
    refine ⟨⟨by decide, r2.1⟩, ?_⟩
    have w2 := fun b => sI_row (b := b) (v := ii (knw S (mo_w (pg_m P) (k + 1)) 255 : Nat)) Q2.2.2.2.1 (show (thK P sd k).length < 4 by omega) (by omega)
    have F3 : Fr 129 1 H2 (sI H2 129 (ii (thK P sd k).length) (ii (knw S (mo_w (pg_m P) (k + 1)) 255 : Nat))) := Fr.sI
    generalize sI H2 129 (ii (thK P sd k).length) (ii (knw S (mo_w (pg_m P) (k + 1)) 255 : Nat)) = H3 at *
    have A3 := A2.fr F3.1
    have C3 : fI H3 125 6 = ii (thK P sd k).length := by rw [same_fI (F3.2.2.2 125 (by omega))]; exact C2
    simp only [AdS_ok2 A3.1, true_and, C3]
    have F4 : Fr 125 1 H3 (sF H3 125 6 (.int (ii (thK P sd k).length + ii 1))) := Fr.sF (AdS_t6 A3.1)
    have g4 : fI (sF H3 125 6 (.int (ii (thK P sd k).length + ii 1))) 125 6 = ii (thK P sd k).length + ii 1 := by rw [fI_sF (AdS_t6 A3.1), if_pos ⟨rfl, rfl⟩]
    generalize sF H3 125 6 (.int (ii (thK P sd k).length + ii 1)) = H4 at *
    rw [b7_105, ek]
    have e1 : thK P sd (k + 1) = thK P sd k ++ [k] := by rw [thK_s, yes, if_pos rfl]
    refine next _ _ ⟨F.tr ((F2.wide (by decide) (by decide)).tr ((F3.wide (by decide) (by decide)).tr (F4.wide (by decide) (by decide)))), ?_, rfl⟩
    rw [e1]
    refine ⟨?_, by rw [List.length_append]; show _ + 1 ≤ 4; omega, fun i hi => ?_⟩
    · rw [g4, ii_add, List.length_append]; rfl
    · rw [same_xA (F4.2.2.2 128 (by omega)), same_xA (F4.2.2.2 129 (by omega)), w2 128, w2 129, if_neg (by decide), if_pos rfl, w1 128, same_xA (F2.2.2.2 129 (by omega)), if_pos rfl]
      rw [List.length_append] at hi
      have hi' : i < (thK P sd k).length + 1 := hi
      rw [getD_app]
      by_cases ci : i = (thK P sd k).length
      · rw [if_pos ci]
        refine ⟨?_, ?_⟩
        · show (if i = (thK P sd k).length then ii (k : Int) else _) = _
          rw [if_pos ci]
        · show (if i = (thK P sd k).length then ii (knw S (mo_w (pg_m P) (k + 1)) 255 : Nat) else _) = _
          rw [if_pos ci]
      · rw [if_neg ci, if_pos (by omega)]
        refine ⟨?_, ?_⟩
        · show (if i = (thK P sd k).length then ii (k : Int) else _) = _
          rw [if_neg ci]
          exact (C.2.2 i (by omega)).1
        · show (if i = (thK P sd k).length then ii (knw S (mo_w (pg_m P) (k + 1)) 255 : Nat) else _) = _
          rw [if_neg ci]
          exact (C.2.2 i (by omega)).2
  · rintro L' h' ⟨F, C, rfl⟩
    have A := hA.fr F.1
    have P' := PgR_adv hA hP F (by decide) (by decide)
    have L := P'.2.1
    have hn := P'.2.2.1.2.2.1
    rw [b7_20]
    simp only [AdS_ok A.1, AdS_ok2 A.1, true_and, PgS_okF P'.1, LaS_ok L.1, L.2.2.2.1]
    rw [if_pos (by rw [ii_le (by omega) (by omega) (by omega) (by omega)]; omega)]
    refine ⟨by simp, ?_⟩
    rw [rI_s]
    have := hK h' F (fun _ => C)
    rw [if_pos C.2.1] at this
    exact this
end Cr
