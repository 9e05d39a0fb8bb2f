/-! SAYINGS: one more -/
section Ad
variable {d b : Nat} {h h1 : mHeap} {S : List Wd}
/-- add -/
theorem c85 {K : Int32 → mHeap → Prop} (hS : SyR h S) (hl : S.length < 24) (hB : WS h b) (hK : ∀ h1, Fr 69 28 h h1 → SyR h1 (S ++ [wo h b]) → K (ii (S.length : Nat)) h1) : GoCi (d + 3) 85 [.ref 69, .ref b] h K := by
  have r := SyS_row hS.1 hl
  have wr := hS.1.2.2.2.1 S.length hl
  rw [e85, b85_0]
  simp only [SyS_ok hS.1, true_and, hS.2.1, r, W_ok wr]
  rw [c117 wr hB]
  have F1 := Fr.pW (w := wo h b) wr
  have v1 : wo (pW h (73 + S.length) (wo h b)) (73 + S.length) = wo h b := by
    funext i
    rw [wo_pW wr i]
    by_cases c : i < 256
    · simp [c]
    · rw [wo_big (by omega)]
      simp
  generalize pW h (73 + S.length) (wo h b) = H1 at *
  have s1 := F1.1.SyS hS.1
  have g1 : fI H1 69 1 = ii (S.length : Nat) := by rw [same_fI (F1.2.2.2 69 (by omega))]; exact hS.2.1
  have ht : tgK (kd H1 69) 1 = some 0 := by rw [s1.1]; rfl
  have F2 := Fr.sF (x := fI H1 69 1 + ii 1) ht
  have g2 : fI (sF H1 69 1 (.int (fI H1 69 1 + ii 1))) 69 1 = ii ((S.length + 1 : Nat) : Int) := by
    rw [fI_sF ht, if_pos ⟨rfl, rfl⟩, g1, ii_add]
    rfl
  have s2 := F2.1.SyS s1
  have FF := (F1.wide (lo' := 69) (n' := 28) (by omega) (by omega)).tr (F2.wide (lo' := 69) (n' := 28) (by omega) (by omega))
  refine ⟨(SyS_ok s1).2.1, (SyS_ok s1).2.2.2.2.2.2.2.2.2.2.2.1, (SyS_ok s2).2.1, ?_⟩
  rw [rI_s, g2, ii_sub, show ((S.length + 1 : Nat) : Int) - 1 = ((S.length : Nat) : Int) by omega]
  refine hK _ FF ⟨s2, ?_, ?_, fun i hi => ?_⟩
  · rw [g2, List.length_append]; rfl
  · rw [List.length_append]; show S.length + 1 ≤ 24; omega
  · rw [List.length_append] at hi
    have hi : i < S.length + 1 := hi
    rw [same_wo (F2.2.2.2 (73 + i) (by omega))]
    unfold sy
    rcases Nat.lt_succ_iff_lt_or_eq.mp hi with c | c
    · rw [same_wo (F1.2.2.2 (73 + i) (by omega)), hS.2.2.2 i c]
      unfold sy
      rw [List.getD_eq_getElem?_getD, List.getD_eq_getElem?_getD, List.getElem?_append_left c]
    · subst c
      rw [v1, List.getD_eq_getElem?_getD, List.getElem?_append_right (Nat.le_refl _), Nat.sub_self]
      rfl
end Ad
