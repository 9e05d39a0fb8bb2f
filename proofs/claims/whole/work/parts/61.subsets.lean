/-! THE PARTS OF A SET OF NUMBERS, one after another -/
theorem and_2 {a b : Nat} (ha : a < 2) (hb : b < 2) (A B : Nat) : (2 * A + a) &&& (2 * B + b) = 2 * (A &&& B) + (a &&& b) := by
  have h1 : a &&& b < 2 ^ 1 := Nat.and_lt_two_pow a hb
  apply Nat.eq_of_testBit_eq
  intro i
  rw [Nat.testBit_and]
  have e1 := Nat.testBit_two_pow_mul_add (i := 1) A ha i
  have e2 := Nat.testBit_two_pow_mul_add (i := 1) B hb i
  have e3 := Nat.testBit_two_pow_mul_add (i := 1) (A &&& B) h1 i
  rw [Nat.pow_one] at e1 e2 e3
  rw [e1, e2, e3]
  split
  · rw [Nat.testBit_and]
  · rw [Nat.testBit_and]
/-- the i-th part of the set s of numbers below N -/
def dep : Nat → Nat → Nat → Nat
  | 0, _, _ => 0
  | N + 1, s, i => if s % 2 = 1 then 2 * dep N (s / 2) (i / 2) + i % 2 else 2 * dep N (s / 2) i
def bcN : Nat → Nat → Nat
  | 0, _ => 0
  | N + 1, s => s % 2 + bcN N (s / 2)
theorem bcN_cB : ∀ N s, bcN N s = cB (fun i => s.testBit i) N
  | 0, _ => rfl
  | N + 1, s => by
    rw [Nat.add_comm N 1, cB_add, Nat.add_comm 1 N]
    show s % 2 + bcN N (s / 2) = _
    rw [bcN_cB N (s / 2)]
    congr 1
    · show s % 2 = 0 + (if s.testBit 0 = true then 1 else 0)
      rw [Nat.testBit_zero]
      by_cases c : s % 2 = 1
      · simp [c]
      · have : s % 2 = 0 := by omega
        simp [this]
    · apply cB_cong
      intro i _
      rw [Nat.testBit_div_two, Nat.add_comm]
theorem bc_N (s : Nat) : bc s = bcN 32 s := (bcN_cB 32 s).symm
theorem and_half {p s : Nat} (h : p &&& s = p) : p / 2 &&& s / 2 = p / 2 ∧ p % 2 ≤ s % 2 := by
  have ep : p = 2 * (p / 2) + p % 2 := by omega
  have es : s = 2 * (s / 2) + s % 2 := by omega
  have hp : p % 2 < 2 := Nat.mod_lt _ (by decide)
  have hs : s % 2 < 2 := Nat.mod_lt _ (by decide)
  have e : p &&& s = 2 * (p / 2 &&& s / 2) + (p % 2 &&& s % 2) := by
    rw [← and_2 hp hs, ← ep, ← es]
  have h1 : p % 2 &&& s % 2 < 2 ^ 1 := Nat.and_lt_two_pow _ hs
  have h2 : p % 2 &&& s % 2 ≤ s % 2 := Nat.and_le_right
  omega
theorem bc_part : ∀ N p s, p < 2 ^ N → s < 2 ^ N → p &&& s = p → bcN N p ≤ bcN N s ∧ (bcN N p = bcN N s → p = s)
  | 0, p, s, hp, hs, _ => by
    have : p = 0 := by simpa using hp
    have : s = 0 := by simpa using hs
    subst p s
    exact ⟨Nat.le_refl _, fun _ => rfl⟩
  | N + 1, p, s, hp, hs, h => by
    obtain ⟨h1, h2⟩ := and_half h
    rw [Nat.pow_succ] at hp hs
    have ih := bc_part N (p / 2) (s / 2) (by omega) (by omega) h1
    show p % 2 + bcN N (p / 2) ≤ s % 2 + bcN N (s / 2) ∧ (p % 2 + bcN N (p / 2) = s % 2 + bcN N (s / 2) → p = s)
    refine ⟨by omega, fun e => ?_⟩
    have := ih.2 (by omega)
    omega
theorem dep_sub : ∀ N s i, dep N s i &&& s = dep N s i
  | 0, s, i => Nat.zero_and s
  | N + 1, s, i => by
    have es : s = 2 * (s / 2) + s % 2 := by omega
    show (if s % 2 = 1 then 2 * dep N (s / 2) (i / 2) + i % 2 else 2 * dep N (s / 2) i) &&& s = (if s % 2 = 1 then 2 * dep N (s / 2) (i / 2) + i % 2 else 2 * dep N (s / 2) i)
    by_cases c : s % 2 = 1
    · rw [if_pos c]
      rw [c] at es
      have hi : i % 2 < 2 := Nat.mod_lt _ (by decide)
      have : (2 * dep N (s / 2) (i / 2) + i % 2) &&& s = (2 * dep N (s / 2) (i / 2) + i % 2) &&& (2 * (s / 2) + 1) := by rw [← es]
      rw [this, and_2 hi (by decide), dep_sub N]
      congr 1
      rcases Nat.mod_two_eq_zero_or_one i with q | q <;> rw [q] <;> rfl
    · rw [if_neg c]
      have c0 : s % 2 = 0 := by omega
      rw [c0] at es
      have : (2 * dep N (s / 2) i) &&& s = (2 * dep N (s / 2) i + 0) &&& (2 * (s / 2) + 0) := by rw [← es]; rfl
      rw [this, and_2 (by decide) (by decide), dep_sub N]
      rfl
theorem dep_lt : ∀ N s i, dep N s i < 2 ^ N
  | 0, s, i => by show 0 < 1; decide
  | N + 1, s, i => by
    have h1 := dep_lt N (s / 2) (i / 2)
    have h2 := dep_lt N (s / 2) i
    rw [Nat.pow_succ]
    unfold dep
    split <;> omega
theorem dep_0 : ∀ N s, dep N s 0 = 0
  | 0, s => rfl
  | N + 1, s => by
    unfold dep
    rw [Nat.zero_div, dep_0 N]
    split <;> rfl
theorem dep_kp : ∀ N s i, s < 2 ^ N → (dep N s i + 2 ^ N - s - 1) &&& s = dep N s i
  | 0, s, i, hs => by
    have : s = 0 := by simpa using hs
    subst s
    exact Nat.and_zero _
  | N + 1, s, i, hs => by
    have hs' : s / 2 < 2 ^ N := by rw [Nat.pow_succ] at hs; omega
    have es : s = 2 * (s / 2) + s % 2 := by omega
    rw [Nat.pow_succ] at hs ⊢
    by_cases c : s % 2 = 1
    · have ih := dep_kp N (s / 2) (i / 2) hs'
      unfold dep
      rw [if_pos c]
      have hi : i % 2 < 2 := Nat.mod_lt _ (by decide)
      have e : 2 * dep N (s / 2) (i / 2) + i % 2 + 2 ^ N * 2 - s - 1 = 2 * (dep N (s / 2) (i / 2) + 2 ^ N - s / 2 - 1) + i % 2 := by omega
      have : (2 * (dep N (s / 2) (i / 2) + 2 ^ N - s / 2 - 1) + i % 2) &&& s = (2 * (dep N (s / 2) (i / 2) + 2 ^ N - s / 2 - 1) + i % 2) &&& (2 * (s / 2) + 1) := by
        rw [c] at es; rw [← es]
      rw [e, this, and_2 hi (by decide), ih]
      congr 1
      rcases Nat.mod_two_eq_zero_or_one i with q | q <;> rw [q] <;> rfl
    · have ih := dep_kp N (s / 2) i hs'
      unfold dep
      rw [if_neg c]
      have c0 : s % 2 = 0 := by omega
      have e : 2 * dep N (s / 2) i + 2 ^ N * 2 - s - 1 = 2 * (dep N (s / 2) i + 2 ^ N - s / 2 - 1) + 1 := by omega
      have : (2 * (dep N (s / 2) i + 2 ^ N - s / 2 - 1) + 1) &&& s = (2 * (dep N (s / 2) i + 2 ^ N - s / 2 - 1) + 1) &&& (2 * (s / 2) + 0) := by
        rw [c0] at es; rw [← es]
      rw [e, this, and_2 (by decide) (by decide), ih]
      rfl
theorem dep_nx : ∀ N s i, s < 2 ^ N → i + 1 < 2 ^ bcN N s → (dep N s i + 2 ^ N - s) &&& s = dep N s (i + 1)
  | 0, s, i, hs, hi => by
    have : i + 1 < 1 := hi
    omega
  | N + 1, s, i, hs, hi => by
    have hs' : s / 2 < 2 ^ N := by rw [Nat.pow_succ] at hs; omega
    have es : s = 2 * (s / 2) + s % 2 := by omega
    rw [Nat.pow_succ] at hs ⊢
    have hb : bcN (N + 1) s = s % 2 + bcN N (s / 2) := rfl
    rw [hb] at hi
    by_cases c : s % 2 = 1
    · rw [c, Nat.add_comm 1, Nat.pow_succ] at hi
      rw [c] at es
      unfold dep
      rw [if_pos c, if_pos c]
      rcases Nat.mod_two_eq_zero_or_one i with q | q
      · have k := dep_kp N (s / 2) (i / 2) hs'
        have e : 2 * dep N (s / 2) (i / 2) + i % 2 + 2 ^ N * 2 - s = 2 * (dep N (s / 2) (i / 2) + 2 ^ N - s / 2 - 1) + 1 := by omega
        have : (2 * (dep N (s / 2) (i / 2) + 2 ^ N - s / 2 - 1) + 1) &&& s = (2 * (dep N (s / 2) (i / 2) + 2 ^ N - s / 2 - 1) + 1) &&& (2 * (s / 2) + 1) := by rw [← es]
        rw [e, this, and_2 (by decide) (by decide), k, show (i + 1) / 2 = i / 2 by omega, show (i + 1) % 2 = 1 by omega]
        rfl
      · have k := dep_nx N (s / 2) (i / 2) hs' (by omega)
        have e : 2 * dep N (s / 2) (i / 2) + i % 2 + 2 ^ N * 2 - s = 2 * (dep N (s / 2) (i / 2) + 2 ^ N - s / 2) + 0 := by omega
        have : (2 * (dep N (s / 2) (i / 2) + 2 ^ N - s / 2) + 0) &&& s = (2 * (dep N (s / 2) (i / 2) + 2 ^ N - s / 2) + 0) &&& (2 * (s / 2) + 1) := by rw [← es]
        rw [e, this, and_2 (by decide) (by decide), k, show (i + 1) / 2 = i / 2 + 1 by omega, show (i + 1) % 2 = 0 by omega]
        rfl
    · have c0 : s % 2 = 0 := by omega
      rw [c0, Nat.zero_add] at hi
      rw [c0] at es
      have k := dep_nx N (s / 2) i hs' hi
      unfold dep
      rw [if_neg c, if_neg c]
      have e : 2 * dep N (s / 2) i + 2 ^ N * 2 - s = 2 * (dep N (s / 2) i + 2 ^ N - s / 2) + 0 := by omega
      have : (2 * (dep N (s / 2) i + 2 ^ N - s / 2) + 0) &&& s = (2 * (dep N (s / 2) i + 2 ^ N - s / 2) + 0) &&& (2 * (s / 2) + 0) := by rw [← es]
      rw [e, this, and_2 (by decide) (by decide), k]
      rfl
/-- the last part of all is the set itself, and no other part is -/
theorem dep_is : ∀ N s i, s < 2 ^ N → i < 2 ^ bcN N s → (dep N s i = s ↔ i + 1 = 2 ^ bcN N s)
  | 0, s, i, hs, hi => by
    have hs : s = 0 := by simpa using hs
    subst s
    have : i < 1 := hi
    show 0 = 0 ↔ i + 1 = 1
    omega
  | N + 1, s, i, hs, hi => by
    have hs' : s / 2 < 2 ^ N := by rw [Nat.pow_succ] at hs; omega
    have hb : bcN (N + 1) s = s % 2 + bcN N (s / 2) := rfl
    rw [hb] at hi ⊢
    unfold dep
    by_cases c : s % 2 = 1
    · rw [c, Nat.add_comm 1, Nat.pow_succ] at hi ⊢
      rw [if_pos rfl]
      have k := dep_is N (s / 2) (i / 2) hs' (by omega)
      constructor
      · intro e
        have := k.mp (by omega)
        omega
      · intro e
        have := k.mpr (by omega)
        omega
    · have c0 : s % 2 = 0 := by omega
      rw [if_neg c]
      rw [c0, Nat.zero_add] at hi ⊢
      have k := dep_is N (s / 2) i hs' hi
      constructor
      · intro e
        exact k.mp (by omega)
      · intro e
        have := k.mpr e
        omega
/-- one step of the two loops -/
theorem nx_ii {s i : Nat} (hs : s < 2147483648) (hi : i + 1 < 2 ^ bc s) : (ii (dep 32 s i : Nat) - ii (s : Nat)) &&& ii (s : Nat) = ii (dep 32 s (i + 1) : Nat) := by
  rw [bc_N] at hi
  have h := dep_nx 32 s i (by omega) hi
  have hl := dep_lt 32 s i
  have e : ii (dep 32 s i : Nat) - ii (s : Nat) = ii ((dep 32 s i + 2 ^ 32 - s : Nat) : Int) := by
    rw [ii_sub]
    have e1 : ((dep 32 s i + 2 ^ 32 - s : Nat) : Int) = ((dep 32 s i : Nat) : Int) - (s : Nat) + 4294967296 := by omega
    rw [e1, ← ii_add, show ii 4294967296 = 0 from by decide, Int32.add_zero]
  rw [e, and_ii, h]
theorem bc_dep {s i : Nat} (hs : s < 2147483648) (hi : i < 2 ^ bc s) : bc (dep 32 s i) ≤ bc s ∧ (bc (dep 32 s i) = bc s → i + 1 = 2 ^ bc s) := by
  have h := bc_part 32 (dep 32 s i) s (dep_lt 32 s i) (by omega) (dep_sub 32 s i)
  rw [bc_N] at hi
  rw [bc_N, bc_N]
  refine ⟨h.1, fun e => ?_⟩
  exact (dep_is 32 s i (by omega) hi).mp (h.2 e)
theorem dep_last {s i : Nat} (hs : s < 2147483648) (hi : i + 1 = 2 ^ bc s) : dep 32 s i = s := by
  rw [bc_N] at hi
  exact (dep_is 32 s i (by omega) (by omega)).mpr hi
theorem dep_end {s i : Nat} (hs : s < 2147483648) (hi : i < 2 ^ bc s) : dep 32 s i = s ↔ i + 1 = 2 ^ bc s := by
  rw [bc_N] at hi ⊢
  exact dep_is 32 s i (by omega) hi
theorem dep_le (s i : Nat) : dep 32 s i ≤ s := by
  have := dep_sub 32 s i
  have h2 : dep 32 s i &&& s ≤ s := Nat.and_le_right
  omega
/-- the answer of WHY: the first part with the fewest sayings of those from which it follows -/
def FewIs (n : Nat) (S : List Wd) (set s T : Nat) : Prop := ∃ k, k < 2 ^ bc set ∧ T = dep 32 set k ∧ flw n S T s ∧ (∀ j, j < 2 ^ bc set → flw n S (dep 32 set j) s → bc T ≤ bc (dep 32 set j)) ∧ (∀ j, j < k → flw n S (dep 32 set j) s → bc T < bc (dep 32 set j))
theorem FewIs.uniq {n set s T U : Nat} {S : List Wd} (a : FewIs n S set s T) (b : FewIs n S set s U) : T = U := by
  obtain ⟨k, k1, k2, k3, k4, k5⟩ := a
  obtain ⟨l, l1, l2, l3, l4, l5⟩ := b
  have a1 := k4 l l1 (l2 ▸ l3)
  have a2 := l4 k k1 (k2 ▸ k3)
  rw [← l2] at a1
  rw [← k2] at a2
  rcases Nat.lt_trichotomy k l with c | c | c
  · have := l5 k c (k2 ▸ k3)
    rw [← k2] at this
    omega
  · rw [k2, l2, c]
  · have := k5 l c (l2 ▸ l3)
    rw [← l2] at this
    omega
theorem mtW_mono {n p q : Nat} {S : List Wd} (e : p &&& q = p) (w : Nat) (h : mtW n S q w = true) : mtW n S p w = true := by
  unfold mtW mtK at h ⊢
  rw [Bool.and_eq_true] at h ⊢
  refine ⟨h.1, ?_⟩
  have h2 := h.2
  rw [List.all_eq_true] at h2 ⊢
  intro i hi
  have := h2 i hi
  have t : p.testBit i = true → q.testBit i = true := fun g => by
    rw [← e, Nat.testBit_and, Bool.and_eq_true] at g
    exact g.2
  cases hp : p.testBit i with
  | false => rfl
  | true =>
    rw [t hp] at this
    exact this
theorem flw_mono {n p q s : Nat} {S : List Wd} (e : p &&& q = p) (h : flw n S p s) : flw n S q s := by
  intro i hi hq
  exact h i hi (mtW_mono e i hq)
