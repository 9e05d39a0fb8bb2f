/-! THE REFERENCE: what is asked of the land, the moment, the sayings -/
section Rv
variable {d : Nat} {h h1 : mHeap} {P : Pg} {S : List Wd} {K : Int32 → mHeap → Prop} {y z : Int}
theorem p2i (n : Nat) : ((2 ^ n : Nat) : Int) = (2 : Int) ^ n := by simp
theorem c245 : GoCi (d + 1) 245 [.ref 148, .int (ii z)] h K ↔ K (if ii z = ii (-1) then ii 6 else ii z) h := by
  rw [e245, b245_0]
  by_cases c : ii z = ii (-1)
  · rw [if_neg (fun n => n c), if_pos c, rI_s]
  · rw [if_pos c, if_neg c, rI_s]
theorem c255 (W : Rw h (pg_l P) (pg_m P) S) (hz : i32 z) : GoCi (d + 3) 255 [.ref 148, .int (ii z)] h K ↔ K (ii (vFact P z)) h := by
  have n8 := W.n8
  rw [e255, b255_0]
  simp only [(RS.ok W.1), (RS.fr W.1), true_and, and_true, true_or, or_true]
  rw [c189 W hz]
  unfold vFact
  by_cases c : 0 ≤ z ∧ z < ld_n (pg_l P)
  · obtain ⟨n, rfl⟩ := nat_of c.1
    rw [if_pos c, if_neg (by decide), if_pos c]
    simp only [(RS.ok W.1), (RS.fr W.1), true_and, and_true, true_or, or_true, W.1.l149, W.so, rI_s]
    rw [bit_n (Nat.lt_trans W.f8 (by decide)) (by omega)]
    exact Iff.rfl
  · rw [if_neg c, if_pos rfl, if_neg c, rI_s]
theorem c256 (W : Rw h (pg_l P) (pg_m P) S) (hz : i32 z) : GoCi (d + 3) 256 [.ref 148, .int (ii z)] h K ↔ K (ii (vPlace P z)) h := by
  have n8 := W.p6
  rw [e256, b256_0]
  simp only [(RS.ok W.1), (RS.fr W.1), true_and, and_true, true_or, or_true]
  rw [c188 W hz]
  unfold vPlace
  by_cases c : 0 ≤ z ∧ z < (ld_p (pg_l P)).length
  · obtain ⟨n, rfl⟩ := nat_of c.1
    rw [if_pos c, if_neg (by decide), if_pos c]
    simp only [(RS.ok W.1), (RS.fr W.1), true_and, and_true, true_or, or_true, W.1.x155 (show n < 6 by omega), W.pp (show n < (ld_p (pg_l P)).length by omega), rI_s]
    exact Iff.rfl
  · rw [if_neg c, if_pos rfl, if_neg (show ¬ isPl P z from c), rI_s]
theorem c192w (W : Rw h (pg_l P) (pg_m P) S) (hz : i32 z) : GoCi (d + 2) 192 [.ref 148, .int (ii z)] h K ↔ K (if isWo P z then ii 1 else ii 0) h := by
  rw [c192 W hz]
  by_cases c : isWo P z
  · rw [if_pos c, if_pos (by rw [p2i]; exact c)]
  · rw [if_neg c, if_neg (by rw [p2i]; exact c)]
theorem wo_nat (W : Rw h (pg_l P) (pg_m P) S) (c : isWo P z) : ∃ n : Nat, z = n ∧ n < 2 ^ ld_n (pg_l P) ∧ n < 256 := by
  obtain ⟨n, rfl⟩ := nat_of c.2.1
  have := c.2.2
  rw [← p2i] at this
  have g := W.n256
  exact ⟨n, rfl, by omega, by omega⟩
theorem c260 (W : Rw h (pg_l P) (pg_m P) S) (hy : i32 y) (hz : i32 z) : GoCi (d + 3) 260 [.ref 148, .int (ii y), .int (ii z)] h K ↔ K (ii (vSo P S y z)) h := by
  have s24 := W.s24
  rw [e260, b260_0]
  simp only [(RS.ok W.1), (RS.fr W.1), true_and, and_true, true_or, or_true]
  rw [c190 W hy]
  unfold vSo
  by_cases c : 0 ≤ y ∧ y < S.length
  · rw [if_pos c, if_neg (by decide)]
    simp only [(RS.ok W.1), (RS.fr W.1), true_and, and_true, true_or, or_true]
    rw [c192w W hz]
    by_cases c2 : isWo P z
    · rw [if_pos c2, if_neg (by decide), if_pos ⟨c, c2⟩]
      obtain ⟨n, rfl, hn, hn2⟩ := wo_nat W c2
      obtain ⟨k, rfl⟩ := nat_of c.1
      have hk : k < S.length := by omega
      simp only [(RS.ok W.1), (RS.fr W.1), true_and, and_true, true_or, or_true]
      rw [c250 W.1 (by omega) hn2, W.ss hk]
      show _ ↔ K (ii (bt (sy S k n))) h
      cases sy S k n with
      | true => rw [if_pos rfl, if_neg (by decide), rI_s]; exact Iff.rfl
      | false => rw [if_neg Bool.false_ne_true, if_pos rfl, rI_s]; exact Iff.rfl
    · rw [if_neg c2, if_pos rfl, if_neg (fun g => c2 g.2), rI_s]
  · rw [if_neg c, if_pos rfl, if_neg (fun g => c g.1), rI_s]
theorem c261 (W : Rw h (pg_l P) (pg_m P) S) (hy : i32 y) : GoCi (d + 3) 261 [.ref 148, .int (ii y)] h K ↔ K (ii (vTrue P S y)) h := by
  have s24 := W.s24
  rw [e261, b261_0]
  simp only [(RS.ok W.1), (RS.fr W.1), true_and, and_true, true_or, or_true]
  rw [c190 W hy]
  unfold vTrue
  by_cases c : 0 ≤ y ∧ y < S.length
  · rw [if_pos c, if_neg (by decide)]
    simp only [(RS.ok W.1), (RS.fr W.1), true_and, and_true, true_or, or_true]
    rw [c186 W]
    by_cases c2 : 0 < ld_n (pg_l P)
    · rw [if_pos c2, if_neg (by decide), if_pos ⟨c, c2⟩]
      obtain ⟨k, rfl⟩ := nat_of c.1
      have hk : k < S.length := by omega
      simp only [(RS.ok W.1), (RS.fr W.1), true_and, and_true, true_or, or_true, W.1.l149, W.so]
      rw [c250 W.1 (by omega) W.f8, W.ss hk]
      show _ ↔ K (ii (bt (sy S k (mo_f (pg_m P))))) h
      cases sy S k (mo_f (pg_m P)) with
      | true => rw [if_pos rfl, if_neg (by decide), rI_s]; exact Iff.rfl
      | false => rw [if_neg Bool.false_ne_true, if_pos rfl, rI_s]; exact Iff.rfl
    · rw [if_neg c2, if_pos rfl, if_neg (fun g => c2 g.2), rI_s]
  · rw [if_neg c, if_pos rfl, if_neg (fun g => c g.1), rI_s]
theorem c262 (W : Rw h (pg_l P) (pg_m P) S) (hz : i32 z) : GoCi (d + 3) 262 [.ref 148, .int (ii z)] h K ↔ K (if isHo P z then ii 1 else ii 0) h := by
  rw [e262, b262_0]
  simp only [(RS.ok W.1), (RS.fr W.1), true_and, and_true, true_or, or_true]
  rw [c186 W]
  by_cases c : 0 < ld_n (pg_l P)
  · rw [if_pos c, if_neg (by decide)]
    by_cases c2 : z = -1
    · subst c2
      rw [if_pos rfl, rI_s, if_pos ⟨c, Or.inl rfl⟩]
    · rw [if_neg (by rw [ii_eq hz.1 hz.2 (by decide) (by decide)]; exact c2)]
      simp only [(RS.ok W.1), (RS.fr W.1), true_and, and_true, true_or, or_true]
      rw [c187 W hz]
      by_cases c3 : 0 ≤ z ∧ z < (ld_q (pg_l P)).length
      · rw [if_pos c3, if_neg (by decide), rI_s, if_pos ⟨c, Or.inr c3⟩]
      · rw [if_neg c3, if_pos rfl, rI_s, if_neg (fun g => g.2.elim c2 c3)]
  · rw [if_neg c, if_pos rfl, rI_s, if_neg (fun g => c g.1)]
theorem Rw.ho (W : Rw h (pg_l P) (pg_m P) S) (hz : i32 z) (c : isHo P z) : ∃ i : Nat, i < 7 ∧ (if ii z = ii (-1) then ii 6 else ii z) = ii (i : Nat) ∧ rw8 (xA h 163) i = mo_w (pg_m P) (z + 1).toNat := by
  have q6 := W.q6
  rcases c.2 with c2 | c2
  · subst c2
    exact ⟨6, by decide, if_pos rfl, W.br⟩
  · obtain ⟨n, rfl⟩ := nat_of c2.1
    exact ⟨n, by omega, by rw [if_neg (by rw [ii_eq hz.1 hz.2 (by decide) (by decide)]; omega)], (W.mo (by omega)).2.2.2⟩
theorem c263 (W : Rw h (pg_l P) (pg_m P) S) (hy : i32 y) (hz : i32 z) : GoCi (d + 4) 263 [.ref 148, .int (ii y), .int (ii z)] h K ↔ K (ii (vKnows P S y z)) h := by
  have s24 := W.s24
  rw [e263, b263_0]
  simp only [(RS.ok W.1), (RS.fr W.1), true_and, and_true, true_or, or_true]
  rw [c262 W hy]
  unfold vKnows
  by_cases c : isHo P y
  · rw [if_pos c, if_neg (by decide)]
    simp only [(RS.ok W.1), (RS.fr W.1), true_and, and_true, true_or, or_true]
    rw [c190 W hz]
    by_cases c2 : 0 ≤ z ∧ z < S.length
    · rw [if_pos c2, if_neg (by decide), if_pos ⟨c, c2⟩]
      obtain ⟨i, i1, i2, i3⟩ := W.ho hy c
      obtain ⟨k, rfl⟩ := nat_of c2.1
      have hk : k < S.length := by omega
      simp only [(RS.ok W.1), (RS.fr W.1), true_and, and_true, true_or, or_true]
      rw [c245, i2]
      simp only [(RS.ok W.1), (RS.fr W.1), true_and, and_true, true_or, or_true]
      rw [c247 W.1 i1 (by omega), W.ss hk, i3]
      show _ ↔ K (ii (knI (mo_w (pg_m P) (y + 1).toNat) (sy S k))) h
      unfold knI
      by_cases g : sub (mo_w (pg_m P) (y + 1).toNat) (sy S k)
      · rw [bP_t g, iteP_t g, if_neg (by decide), rI_s]
      · rw [bP_f g, iteP_f g, if_pos rfl, rI_s]
    · rw [if_neg c2, if_pos rfl, if_neg (fun g => c2 g.2), rI_s]
  · rw [if_neg c, if_pos rfl, if_neg (fun g => c g.1), rI_s]
theorem c264 (W : Rw h (pg_l P) (pg_m P) S) (hy : i32 y) (hz : i32 z) : GoCi (d + 4) 264 [.ref 148, .int (ii y), .int (ii z)] h K ↔ K (ii (vPoss P y z)) h := by
  rw [e264, b264_0]
  simp only [(RS.ok W.1), (RS.fr W.1), true_and, and_true, true_or, or_true]
  rw [c262 W hy]
  unfold vPoss
  by_cases c : isHo P y
  · rw [if_pos c, if_neg (by decide)]
    simp only [(RS.ok W.1), (RS.fr W.1), true_and, and_true, true_or, or_true]
    rw [c192w W hz]
    by_cases c2 : isWo P z
    · rw [if_pos c2, if_neg (by decide), if_pos ⟨c, c2⟩]
      obtain ⟨i, i1, i2, i3⟩ := W.ho hy c
      obtain ⟨n, rfl, hn, hn2⟩ := wo_nat W c2
      simp only [(RS.ok W.1), (RS.fr W.1), true_and, and_true, true_or, or_true]
      rw [c245, i2]
      simp only [(RS.ok W.1), (RS.fr W.1), true_and, and_true, true_or, or_true]
      rw [c251 W.1 i1 hn2, i3]
      show _ ↔ K (ii (bt (mo_w (pg_m P) (y + 1).toNat n))) h
      cases mo_w (pg_m P) (y + 1).toNat n with
      | true => rw [if_pos rfl, if_neg (by decide), rI_s]; exact Iff.rfl
      | false => rw [if_neg Bool.false_ne_true, if_pos rfl, rI_s]; exact Iff.rfl
    · rw [if_neg c2, if_pos rfl, if_neg (fun g => c2 g.2), rI_s]
  · rw [if_neg c, if_pos rfl, if_neg (fun g => c g.1), rI_s]
theorem c265 (W : Rw h (pg_l P) (pg_m P) S) (hy : i32 y) : GoCi (d + 3) 265 [.ref 148, .int (ii y)] h K ↔ K (ii (vGain P S y)) h := by
  have s24 := W.s24
  rw [e265, b265_0]
  simp only [(RS.ok W.1), (RS.fr W.1), true_and, and_true, true_or, or_true]
  rw [c190 W hy]
  unfold vGain
  by_cases c : 0 ≤ y ∧ y < S.length
  · rw [if_pos c, if_neg (by decide)]
    simp only [(RS.ok W.1), (RS.fr W.1), true_and, and_true, true_or, or_true]
    rw [c186 W]
    by_cases c2 : 0 < ld_n (pg_l P)
    · rw [if_pos c2, if_neg (by decide), if_pos ⟨c, c2⟩]
      obtain ⟨k, rfl⟩ := nat_of c.1
      have hk : k < S.length := by omega
      simp only [(RS.ok W.1), (RS.fr W.1), true_and, and_true, true_or, or_true]
      rw [c248 W.1 (by omega), W.ss hk, W.br, rI_s]
      exact Iff.rfl
    · rw [if_neg c2, if_pos rfl, if_neg (fun g => c2 g.2), rI_s]
  · rw [if_neg c, if_pos rfl, if_neg (fun g => c g.1), rI_s]
theorem fstW_of {w : Wd} {r : Int} (e : isFst w 256 r) : fstW w = r := isFst_uniq (Classical.choose_spec (isFst_ex w 256)) e
theorem c266 (W : Rw h (pg_l P) (pg_m P) S) (hy : i32 y) : GoCi (d + 3) 266 [.ref 148, .int (ii y)] h K ↔ K (ii (vShown P S y)) h := by
  have s24 := W.s24
  have n256 := W.n256
  rw [e266, b266_0]
  simp only [(RS.ok W.1), (RS.fr W.1), true_and, and_true, true_or, or_true]
  rw [c190 W hy]
  unfold vShown
  by_cases c : 0 ≤ y ∧ y < S.length
  · rw [if_pos c, if_neg (by decide)]
    simp only [(RS.ok W.1), (RS.fr W.1), true_and, and_true, true_or, or_true]
    rw [c186 W]
    by_cases c2 : 0 < ld_n (pg_l P)
    · rw [if_pos c2, if_pos (by decide), if_pos ⟨c, c2⟩]
      obtain ⟨k, rfl⟩ := nat_of c.1
      have hk : k < S.length := by omega
      show _ ↔ K (ii (fstW (fun i => mo_w (pg_m P) 0 i && !sy S k i))) h
      have L := downA (n := 2 ^ ld_n (pg_l P)) (P := fun j => (∀ i, i < j → (mo_w (pg_m P) 0 i && !sy S k i) = false) → (Go (d + 2) 266 19 [some (.ref 148), some (.int (ii k)), some (.int (ii (j : Nat)))] [] h (rI K) ↔ K (ii (fstW (fun i => mo_w (pg_m P) 0 i && !sy S k i))) h)) (fun g => by
        rw [b266_19]
        simp only [(RS.ok W.1), (RS.fr W.1), true_and, and_true, true_or, or_true]
        rw [c191 W, if_pos (Int32.le_refl _), rI_s, fstW_of (r := -2) (Or.inl ⟨rfl, fun i _ => by
          by_cases q : i < 2 ^ ld_n (pg_l P)
          · exact g i q
          · cases e : mo_w (pg_m P) 0 i with
            | false => rfl
            | true => exact absurd (W.mj.2.2.2 0 i (by decide) e) q⟩)]) (fun j hj ih g => by
        rw [b266_19]
        simp only [(RS.ok W.1), (RS.fr W.1), true_and, and_true, true_or, or_true]
        rw [c191 W, if_neg (by rw [ii_le (by omega) (by omega) (by omega) (by omega)]; omega)]
        simp only [(RS.ok W.1), (RS.fr W.1), true_and, and_true, true_or, or_true]
        rw [show ii 6 = ii ((6 : Nat) : Int) from rfl, c251 W.1 (by omega) (by omega), W.br]
        have nx : (mo_w (pg_m P) 0 j && !sy S k j) = false → (Go (d + 2) 266 48 [some (.ref 148), some (.int (ii k)), some (.int (ii (j : Nat)))] [] h (rI K) ↔ K (ii (fstW (fun i => mo_w (pg_m P) 0 i && !sy S k i))) h) := fun e => by
          rw [b266_48, show ii (j : Nat) + ii 1 = ii ((j + 1 : Nat) : Int) from ii_add _ _]
          exact ih (fun i hi => by
            by_cases q : i = j
            · rw [q]; exact e
            · exact g i (by omega))
        cases e1 : mo_w (pg_m P) 0 j with
        | false =>
          rw [if_neg Bool.false_ne_true, if_pos rfl]
          exact nx (by rw [e1]; rfl)
        | true =>
          rw [if_pos rfl, if_neg (by decide)]
          simp only [(RS.ok W.1), (RS.fr W.1), true_and, and_true, true_or, or_true]
          rw [c250 W.1 (by omega) (by omega), W.ss hk]
          cases e2 : sy S k j with
          | true =>
            rw [if_pos rfl, if_pos (by decide)]
            exact nx (by rw [e1, e2]; rfl)
          | false =>
            rw [if_neg Bool.false_ne_true, if_neg (by decide), rI_s, fstW_of (r := (j : Int)) (Or.inr ⟨j, by omega, rfl, by show (mo_w (pg_m P) 0 j && !sy S k j) = true; rw [e1, e2]; rfl, g⟩)]) (Nat.zero_le _) (fun i hi => absurd hi (Nat.not_lt_zero _))
      exact L
    · rw [if_neg c2, if_neg (by decide), if_neg (fun g => c2 g.2), rI_s]
  · rw [if_neg c, if_pos rfl, if_neg (fun g => c g.1), rI_s]
end Rv
