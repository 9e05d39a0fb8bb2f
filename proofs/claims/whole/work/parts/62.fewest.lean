/-! WHY: the fewest sayings from which one follows, as the class finds them -/
section Fw
variable {d : Nat} {h h1 : mHeap} {S : List Wd}
theorem bP_n {p : Prop} : ¬ bP p = ii 0 ↔ p := by
  rw [bP_0]
  exact Classical.not_not
/-- what the loop has found after k parts -/
def FwI (n : Nat) (S : List Wd) (set s k B : Nat) : Prop := (B = set ∧ ∀ j, j < k → flw n S (dep 32 set j) s → bc set ≤ bc (dep 32 set j)) ∨ (∃ i, i < k ∧ B = dep 32 set i ∧ flw n S B s ∧ bc B < bc set ∧ (∀ j, j < k → flw n S (dep 32 set j) s → bc B ≤ bc (dep 32 set j)) ∧ (∀ j, j < i → flw n S (dep 32 set j) s → bc B < bc (dep 32 set j)))
theorem FwI.le {n set s k B : Nat} (a : FwI n S set s k B) : bc B ≤ bc set ∧ ∀ j, j < k → flw n S (dep 32 set j) s → bc B ≤ bc (dep 32 set j) := by
  rcases a with ⟨rfl, a⟩ | ⟨i, i1, i2, i3, i4, i5, i6⟩
  · exact ⟨Nat.le_refl _, a⟩
  · exact ⟨by omega, i5⟩
theorem FwI.skip {n set s k B : Nat} (a : FwI n S set s k B) (e : bc B ≤ bc (dep 32 set k) ∨ ¬ flw n S (dep 32 set k) s) : FwI n S set s (k + 1) B := by
  have key : flw n S (dep 32 set k) s → bc B ≤ bc (dep 32 set k) := fun g => by
    rcases e with e | e
    · exact e
    · exact absurd g e
  rcases a with ⟨rfl, a⟩ | ⟨i, i1, i2, i3, i4, i5, i6⟩
  · refine Or.inl ⟨rfl, fun j hj g => ?_⟩
    rcases Nat.lt_succ_iff_lt_or_eq.mp hj with c | c
    · exact a j c g
    · subst c; exact key g
  · refine Or.inr ⟨i, by omega, i2, i3, i4, fun j hj g => ?_, i6⟩
    rcases Nat.lt_succ_iff_lt_or_eq.mp hj with c | c
    · exact i5 j c g
    · subst c; exact key g
theorem FwI.take {n set s k B : Nat} (a : FwI n S set s k B) (e : bc (dep 32 set k) < bc B) (f : flw n S (dep 32 set k) s) : FwI n S set s (k + 1) (dep 32 set k) := by
  have h := a.le
  refine Or.inr ⟨k, by omega, rfl, f, by omega, fun j hj g => ?_, fun j hj g => ?_⟩
  · rcases Nat.lt_succ_iff_lt_or_eq.mp hj with c | c
    · have := h.2 j c g; omega
    · subst c; exact Nat.le_refl _
  · have := h.2 j hj g; omega
theorem FwI.fin {n set s B : Nat} (hs : set < 2147483648) (f : flw n S set s) (a : FwI n S set s (2 ^ bc set) B) : FewIs n S set s B := by
  have hp := Nat.two_pow_pos (bc set)
  rcases a with ⟨rfl, a⟩ | ⟨i, i1, i2, i3, i4, i5, i6⟩
  · have e := dep_last (i := 2 ^ bc B - 1) hs (by omega)
    refine ⟨2 ^ bc B - 1, by omega, e.symm, f, a, fun j hj g => ?_⟩
    have h1 := a j (by omega) g
    have h2 := bc_dep (i := j) hs (by omega)
    rcases Nat.lt_or_ge (bc B) (bc (dep 32 B j)) with c | c
    · exact c
    · have := h2.2 (by omega)
      omega
  · exact ⟨i, i1, i2, i3, i5, i6⟩
/-- fewestOf -/
theorem c88 {K : Int32 → mHeap → Prop} (hS : SyR h S) (hSt : St h) {n set s : Nat} (hn : n ≤ 8) (hset : set < 2147483648) (hb : bc set ≤ 24) (hs : s < S.length) (hK : ∀ h1 T, Fr 71 1 h h1 → T ≤ set → flw n S set s → FewIs n S set s T → K (ii (T : Nat)) h1) (hK2 : ∀ h1, Fr 71 1 h h1 → ¬ flw n S set s → K (ii (-2)) h1) : GoCi (d + 5) 88 [.ref 69, .int (ii n), .int (ii set), .int (ii s)] h K := by
  rw [e88, b88_0]
  refine ⟨(SyS_ok hS.1).2.2.2.2.2.2.2.2.2.2.1, ?_⟩
  refine c87 hSt hS hn hset hs (fun h1 F1 => ?_)
  by_cases f : flw n S set s
  rotate_left
  · rw [if_neg (fun g => f (bP_n.mp g)), rI_s]
    exact hK2 h1 F1 f
  rw [if_pos (bP_n.mpr f), c317 hset]
  have hp : (2 : Nat) ^ bc set ≤ 2 ^ 24 := Nat.pow_le_pow_right (by decide) hb
  have e1 : shl (ii 1) (ii (bc set : Nat)) = ii ((2 ^ bc set : Nat) : Int) := by
    have := shl_ii 1 (show bc set < 32 by omega)
    rw [this, Int.one_mul]
    rfl
  have hp0 : (2 : Nat) ^ bc set ≤ 16777216 := hp
  rw [e1]
  generalize hG : (2 : Nat) ^ bc set = G at *
  refine Go_loop (fun k L' h' => ∃ B l9, L' = [some (.ref 69), some (.int (ii n)), some (.int (ii set)), some (.int (ii s)), some (.int (ii (B : Nat))), some (.int (ii (bc B : Nat))), some (.int (ii (G : Nat))), some (.int (ii (dep 32 set (if k < G then k else 0) : Nat))), some (.int (ii (k : Nat))), l9] ∧ Fr 71 1 h h' ∧ B ≤ set ∧ FwI n S set s k B) G ?_ ?_ 0 _ _ (Nat.zero_le _) ⟨set, none, ?_, F1, Nat.le_refl _, Or.inl ⟨rfl, fun j hj => absurd hj (Nat.not_lt_zero _)⟩⟩
  · rintro k L' h' hk ⟨B, l9, rfl, hf, hB, hI⟩ next
    have hS' := hS.fr hf (by omega)
    have ek : ii (k : Int) + ii 1 = ii ((k + 1 : Nat) : Int) := by rw [ii_add]; rfl
    have hd := dep_le set k
    have hdb := bc_le (dep 32 set k)
    have hBb := bc_le B
    rw [b88_34, if_neg (by rw [ii_le (by omega) (by omega) (by omega) (by omega)]; omega), if_pos hk, c317 (by omega)]
    have enx : ∀ k', k' = k + 1 → (ii (dep 32 set k : Nat) - ii (set : Nat)) &&& ii (set : Nat) = ii (dep 32 set (if k + 1 < G then k + 1 else 0) : Nat) := by
      intro k' _
      by_cases c : k + 1 < G
      · rw [if_pos c]; exact nx_ii hset (by rw [hG]; exact c)
      · rw [if_neg c, dep_0, dep_last hset (by rw [hG]; omega), Int32.sub_self]
        exact Int32.zero_and
    by_cases c : bc B ≤ bc (dep 32 set k)
    · rw [if_pos (by rw [ii_le (by omega) (by omega) (by omega) (by omega)]; omega), b88_74, ek, enx _ rfl]
      exact next _ _ ⟨B, _, rfl, hf, hB, hI.skip (Or.inl c)⟩
    · rw [if_neg (by rw [ii_le (by omega) (by omega) (by omega) (by omega)]; omega)]
      refine ⟨(SyS_ok hS'.1).2.2.2.2.2.2.2.2.2.2.1, ?_⟩
      refine c87 (hf.St (by omega) hSt) hS' hn (by omega) hs (fun h2 F2 => ?_)
      by_cases g : flw n S (dep 32 set k) s
      · rw [if_neg (fun q => bP_n.mpr g q), b88_74, ek, enx _ rfl]
        exact next _ _ ⟨_, _, rfl, hf.tr F2, hd, hI.take (by omega) g⟩
      · rw [if_pos (bP_0.mpr g), b88_74, ek, enx _ rfl]
        exact next _ _ ⟨B, _, rfl, hf.tr F2, hB, hI.skip (Or.inr g)⟩
  · rintro L' h' ⟨B, l9, rfl, hf, hB, hI⟩
    rw [b88_34, if_pos (by rw [ii_le (by omega) (by omega) (by omega) (by omega)]; omega), rI_s]
    exact hK h' B hf hB f (FwI.fin hset f (by rw [hG]; exact hI))
  · rw [if_pos (by have := Nat.two_pow_pos (bc set); omega), dep_0]
    rfl
end Fw
