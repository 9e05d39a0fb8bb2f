/-! WALKS: the shortest walk through some places -/
theorem foldl_inv {α β : Type} {I : α → Prop} {f : α → β → α} (hf : ∀ a b, I a → I (f a b)) : ∀ (l : List β) (a : α), I a → I (l.foldl f a)
  | [], _, h => h
  | b :: l, a, h => foldl_inv hf l (f a b) (hf a b h)
theorem shorten_le {f : Nat → Nat} {i j v : Nat} (hf : ∀ a, f a ≤ 1000) : ∀ a, shorten f i j v a ≤ 1000 := fun a => by
  unfold shorten
  split
  · unfold upf
    have := hf (6 * i + j)
    split
    · omega
    · exact hf a
  · exact hf a
theorem wy_le (l : Ld) : ∀ i, wy l i ≤ 1000 := by
  have h0 : ∀ i, wy0 i ≤ 1000 := fun i => by unfold wy0; split <;> omega
  have h1 : ∀ i, wyP l i ≤ 1000 := foldl_inv (I := fun (f : Nat → Nat) => ∀ i, f i ≤ 1000) (fun f w hf => shorten_le (shorten_le hf)) _ _ h0
  exact foldl_inv (I := fun (f : Nat → Nat) => ∀ i, f i ≤ 1000) (fun f b hf => foldl_inv (I := fun (f : Nat → Nat) => ∀ i, f i ≤ 1000) (fun f i hf => foldl_inv (I := fun (f : Nat → Nat) => ∀ i, f i ≤ 1000) (fun f j hf => shorten_le hf) _ _ hf) _ _ hf) _ _ h1
def hrT (X : Nat → Nat) : Nat → Nat → Nat → Nat
  | 0, fr, _ => X (6 * fr)
  | k + 1, fr, ot => if ot = 0 then X (6 * fr) else itr (fun m p => if ot.testBit p = true then (if X (6 * fr + p) + hrT X k p (ot - 2 ^ p) < m then X (6 * fr + p) + hrT X k p (ot - 2 ^ p) else m) else m) 1000 6
theorem hrT_s {X : Nat → Nat} {k fr ot : Nat} : hrT X (k + 1) fr ot = if ot = 0 then X (6 * fr) else itr (fun m p => if ot.testBit p = true then (if X (6 * fr + p) + hrT X k p (ot - 2 ^ p) < m then X (6 * fr + p) + hrT X k p (ot - 2 ^ p) else m) else m) 1000 6 := rfl
theorem itr_min_le {g : Nat → Bool} {f : Nat → Nat} {m0 : Nat} : ∀ n, itr (fun m p => if g p = true then (if f p < m then f p else m) else m) m0 n ≤ m0
  | 0 => Nat.le_refl _
  | n + 1 => by
    have ih := itr_min_le (g := g) (f := f) (m0 := m0) n
    rw [itr_s]
    show (if g n = true then (if f n < itr (fun m p => if g p = true then (if f p < m then f p else m) else m) m0 n then f n else itr (fun m p => if g p = true then (if f p < m then f p else m) else m) m0 n) else itr (fun m p => if g p = true then (if f p < m then f p else m) else m) m0 n) ≤ m0
    split
    · split
      · omega
      · exact ih
    · exact ih
theorem hrT_le {X : Nat → Nat} (hX : ∀ i, X i ≤ 1000) : ∀ k fr ot, hrT X k fr ot ≤ 1000
  | 0, fr, _ => hX _
  | k + 1, fr, ot => by
    rw [hrT_s]
    split
    · exact hX _
    · exact itr_min_le 6
theorem clr6 : ∀ p, p < 6 → ∀ N, N < 64 → N.testBit p = true → ii (N : Nat) &&& (ii ((2 ^ p : Nat) : Int) ^^^ ii (-1)) = ii ((N - 2 ^ p : Nat) : Int) := by decide +kernel
theorem clr0 : ∀ N, N < 64 → ii (N : Nat) &&& ii (-2) = ii ((2 * (N / 2) : Nat) : Int) := by decide +kernel
section Wk
variable {d a : Nat} {h h1 : mHeap} {S : List Wd} {P : Pg} {l : Ld}
theorem c41 {K : Int32 → mHeap → Prop} (hL : LaR h a l) (h0 : 0 < ld_n l) {i j : Nat} (hi : i < 6) (hj : j < 6) : GoCi (d + 1) 41 [.ref a, .int (ii i), .int (ii j)] h K ↔ K (ii (wy l (6 * i + j))) h := by
  have e : ii (i : Int) * ii 6 + ii (j : Int) = ii ((6 * i + j : Nat) : Int) := by
    rw [ii_mul, ii_add]
    congr 1
    omega
  have r := row_ok hL.1.2.2.2.2.2.2.1 (show 6 * i + j < 36 by omega) (by omega)
  rw [e41, b41_0, rI_s]
  simp only [LaS_ok hL.1, LaS_fR hL.1, true_and, e, r, hL.2.2.2.2.2.2.2.2.2.2.1 h0 _ (show 6 * i + j < 36 by omega)]
/-- hoursThrough -/
theorem c14 (h0 : 0 < ld_n (pg_l P)) (hA : AdS h) (hP : PgR h 97 P) : ∀ (k : Nat) {K : Int32 → mHeap → Prop} {fr ot dp : Nat}, dp + k = 6 → fr < 6 → ot < 64 → K (ii (hrT (wy (pg_l P)) k fr ot : Nat)) h → GoCi (k + d + 2) 14 [.ref 125, .int (ii fr), .int (ii ot), .int (ii dp)] h K := by
  intro k
  induction k with
  | zero =>
    intro K fr ot dp hk hf ho hK
    have L := hP.2.1
    rw [show 0 + d + 2 = (0 + d + 1) + 1 by omega, e14, b14_0]
    have last : Go (0 + d + 1) 14 10 [some (.ref 125), some (.int (ii fr)), some (.int (ii ot)), some (.int (ii dp)), none, none, none] [] h (rI K) := by
      rw [b14_10]
      simp only [AdS_ok hA, PgS_okF hP.1, LaS_ok L.1, true_and]
      exact (c41 (j := 0) L h0 hf (by decide)).mpr (by rw [rI_s]; exact hK)
    by_cases c : ot = 0
    · rw [if_pos (by rw [c]; rfl)]; exact last
    · rw [if_neg (by rw [show ii 0 = ii ((0 : Nat) : Int) from rfl, ii_eq (by omega) (by omega) (by omega) (by omega)]; omega), if_neg (by rw [show ii 6 = ii ((6 : Nat) : Int) from rfl, ii_lt (by omega) (by omega) (by omega) (by omega)]; omega)]
      exact last
  | succ k ih =>
    intro K fr ot dp hk hf ho hK
    have L := hP.2.1
    have W := wy_le (pg_l P)
    rw [show k + 1 + d + 2 = (k + d + 2) + 1 by omega, e14, b14_0]
    rw [hrT_s] at hK
    by_cases c : ot = 0
    · rw [if_pos c] at hK
      rw [if_pos (by rw [c]; rfl), b14_10]
      simp only [AdS_ok hA, PgS_okF hP.1, LaS_ok L.1, true_and]
      exact (c41 (j := 0) L h0 hf (by decide)).mpr (by rw [rI_s]; exact hK)
    rw [if_neg c] at hK
    rw [if_neg (by rw [show ii 0 = ii ((0 : Nat) : Int) from rfl, ii_eq (by omega) (by omega) (by omega) (by omega)]; omega), if_pos (by rw [show ii 6 = ii ((6 : Nat) : Int) from rfl, ii_lt (by omega) (by omega) (by omega) (by omega)]; omega)]
    refine Go_loop (fun p L' h' => h' = h ∧ ∃ l6, L' = [some (.ref 125), some (.int (ii fr)), some (.int (ii ot)), some (.int (ii dp)), some (.int (ii (itr (fun m p => if ot.testBit p = true then (if wy (pg_l P) (6 * fr + p) + hrT (wy (pg_l P)) k p (ot - 2 ^ p) < m then wy (pg_l P) (6 * fr + p) + hrT (wy (pg_l P)) k p (ot - 2 ^ p) else m) else m) 1000 p : Nat))), some (.int (ii p)), l6]) 6 ?_ ?_ 0 _ _ (Nat.zero_le _) ⟨rfl, none, rfl⟩
    · rintro p L' h' hp ⟨rfl, l6, rfl⟩ next
      have ek : ii (p : Int) + ii 1 = ii ((p + 1 : Nat) : Int) := by rw [ii_add]; rfl
      have ml := itr_min_le (g := ot.testBit) (f := fun p => wy (pg_l P) (6 * fr + p) + hrT (wy (pg_l P)) k p (ot - 2 ^ p)) (m0 := 1000) p
      rw [b14_31, bit_n (by omega) (by omega)]
      rw [if_neg (by rw [show ii 6 = ii ((6 : Nat) : Int) from rfl, ii_le (by omega) (by omega) (by omega) (by omega)]; omega)]
      cases b : ot.testBit p with
      | false =>
        rw [if_pos (by decide), b14_89, ek]
        refine next _ _ ⟨rfl, l6, ?_⟩
        rw [itr_s, if_neg (by rw [b]; decide)]
      | true =>
        rw [if_neg (by decide)]
        simp only [AdS_ok hA, PgS_okF hP.1, LaS_ok L.1, true_and]
        rw [c41 L h0 hf hp]
        have ed : ii (dp : Int) + ii 1 = ii ((dp + 1 : Nat) : Int) := by rw [ii_add]; rfl
        rw [shl1 (by omega), clr6 p hp ot ho b, ed]
        refine ⟨(AdS_ok hA).2.2.2.2.2.2, ?_⟩
        refine ih (by omega) hp (Nat.lt_of_le_of_lt (Nat.sub_le _ _) ho) ?_
        have hl := hrT_le W k p (ot - 2 ^ p)
        have wl := W (6 * fr + p)
        rw [b14_89, ek, ii_add]
        refine next _ _ ⟨rfl, some (.int (ii (((wy (pg_l P) (6 * fr + p) : Nat) : Int) + ((hrT (wy (pg_l P)) k p (ot - 2 ^ p) : Nat) : Int)))), ?_⟩
        rw [itr_s, if_pos b]
        have ec : ((wy (pg_l P) (6 * fr + p) : Nat) : Int) + ((hrT (wy (pg_l P)) k p (ot - 2 ^ p) : Nat) : Int) = ((wy (pg_l P) (6 * fr + p) + hrT (wy (pg_l P)) k p (ot - 2 ^ p) : Nat) : Int) := rfl
        have ml' : itr (fun m p => if ot.testBit p = true then (if wy (pg_l P) (6 * fr + p) + hrT (wy (pg_l P)) k p (ot - 2 ^ p) < m then wy (pg_l P) (6 * fr + p) + hrT (wy (pg_l P)) k p (ot - 2 ^ p) else m) else m) 1000 p ≤ 1000 := ml
        generalize itr (fun m p => if ot.testBit p = true then (if wy (pg_l P) (6 * fr + p) + hrT (wy (pg_l P)) k p (ot - 2 ^ p) < m then wy (pg_l P) (6 * fr + p) + hrT (wy (pg_l P)) k p (ot - 2 ^ p) else m) else m) 1000 p = Mn at *
        rw [ec]
        generalize wy (pg_l P) (6 * fr + p) + hrT (wy (pg_l P)) k p (ot - 2 ^ p) = V at *
        by_cases g : V < Mn
        · rw [if_pos g, if_pos (by rw [ii_lt (by omega) (by omega) (by omega) (by omega)]; omega)]
        · rw [if_neg g, if_neg (by rw [ii_lt (by omega) (by omega) (by omega) (by omega)]; omega)]
    · rintro L' h' ⟨rfl, l6, rfl⟩
      rw [b14_31, if_pos (by decide), rI_s]
      exact hK
end Wk
