/-! THE ADVISER: bits of sayings, what is known -/
/-- the first k answers of f, as bits -/
def btO (f : Nat → Bool) : Nat → Nat
  | 0 => 0
  | k + 1 => if f k = true then btO f k ||| 2 ^ k else btO f k
theorem btO_lt (f : Nat → Bool) : ∀ k, btO f k < 2 ^ k
  | 0 => Nat.one_pos
  | k + 1 => by
    have ih := btO_lt f k
    have h2 : (2 : Nat) ^ k < 2 ^ (k + 1) := Nat.pow_lt_pow_right (by decide) (Nat.lt_succ_self k)
    unfold btO
    by_cases c : f k = true
    · rw [if_pos c]
      exact Nat.or_lt_two_pow (by omega) h2
    · rw [if_neg c]
      omega
theorem btO_bit (f : Nat → Bool) (i : Nat) : ∀ k, (btO f k).testBit i = (decide (i < k) && f i)
  | 0 => by
    show Nat.testBit 0 i = _
    rw [Nat.zero_testBit]
    simp
  | k + 1 => by
    have ih := btO_bit f i k
    unfold btO
    by_cases c : f k = true
    · rw [if_pos c, Nat.testBit_or, ih, Nat.testBit_two_pow]
      by_cases e : k = i
      · subst e; simp [c]
      · by_cases g : i < k
        · simp [g, e]; intro; omega
        · simp [g, e]; intro; omega
    · rw [if_neg c, ih]
      by_cases e : k = i
      · subst e; simp [c]
      · by_cases g : i < k
        · simp [g]; intro; omega
        · simp [g]; intro; omega
theorem btO_s {f : Nat → Bool} {k : Nat} : btO f (k + 1) = if f k = true then btO f k ||| 2 ^ k else btO f k := rfl
/-- the adviser's own cells -/
def AdS (h : mHeap) : Prop := kd h 125 = (4, 0, [97 + 3, 69 + 3, 126 + 3, 127 + 3, 128 + 3, 129 + 3, 0, 130 + 3])
noncomputable def subB (u v : Wd) : Bool := @decide (sub u v) (Classical.propDecidable _)
section Av
variable {d b : Nat} {h h1 : mHeap} {S : List Wd}
theorem subB_t {u v : Wd} : subB u v = true ↔ sub u v := by
  unfold subB
  exact @decide_eq_true_iff _ (Classical.propDecidable _)
theorem AdS_ok (hA : AdS h) : okF h 125 0 0 2 ∧ okF h 125 0 1 2 ∧ okF h 125 0 2 2 ∧ fR h 125 0 = 97 ∧ fR h 125 1 = 69 ∧ fR h 125 2 = 126 ∧ oC h 125 = 0 := by
  refine ⟨?_, ?_, ?_, ?_, ?_, ?_, oC_kd hA⟩
  · rw [okF_kd, hA]; exact ⟨rfl, rfl, rfl⟩
  · rw [okF_kd, hA]; exact ⟨rfl, rfl, rfl⟩
  · rw [okF_kd, hA]; exact ⟨rfl, rfl, rfl⟩
  · rw [fR_kd, hA]; rfl
  · rw [fR_kd, hA]; rfl
  · rw [fR_kd, hA]; rfl
/-- the known ones of a set of sayings -/
noncomputable def knw (S : List Wd) (v : Wd) (bits : Nat) : Nat := btO (fun i => bits.testBit i && subB v (sy S i)) S.length
/-- known -/
theorem c3 {K : Int32 → mHeap → Prop} (hA : AdS h) (hS : SyR h S) (hB : WS h b) {bits : Nat} (hb : bits < 2147483648) (hK : K (ii (knw S (wo h b) bits : Nat)) h) : GoCi (d + 2) 3 [.ref 125, .ref b, .int (ii bits)] h K := by
  have hlen := hS.2.2.1
  have e0 : ii 0 = ii ((0 : Nat) : Int) := rfl
  rw [e3, b3_0]
  refine Go_loop (fun k L' h' => h' = h ∧ L' = [some (.ref 125), some (.ref b), some (.int (ii bits)), some (.int (ii (btO (fun i => bits.testBit i && subB (wo h b) (sy S i)) k : Nat))), some (.int (ii k))]) S.length ?_ ?_ 0 _ _ (Nat.zero_le _) ⟨rfl, rfl⟩
  · rintro k L' h' hk ⟨rfl, rfl⟩ next
    have ek : ii (k : Int) + ii 1 = ii ((k + 1 : Nat) : Int) := by rw [ii_add]; rfl
    have r := SyS_row hS.1 (show k < 24 by omega)
    have wr := hS.1.2.2.2.1 k (by omega)
    have nx := next
    rw [b3_5]
    simp only [AdS_ok hA, SyS_ok hS.1, true_and, hS.2.1, r, W_ok hB, bit_n hb (show k < 32 by omega)]
    rw [if_neg (by rw [ii_le (by omega) (by omega) (by omega) (by omega)]; omega)]
    cases hq : bits.testBit k with
    | false =>
      rw [if_pos (by decide), b3_50, ek]
      refine next _ _ ⟨rfl, ?_⟩
      rw [btO_s, if_neg (by simp [hq])]
    | true =>
      rw [if_neg (by decide), c128 hB wr, hS.2.2.2 k hk]
      by_cases f : sub (wo h' b) (sy S k)
      · rw [if_neg (fun g => bP_n.mpr f g), b3_50, ek]
        refine next _ _ ⟨rfl, ?_⟩
        rw [btO_s, if_pos (by rw [hq, subB_t.mpr f]; rfl), shl_ii 1 (show k < 32 by omega), Int.one_mul]
        rw [show ((2 : Int) ^ k) = ((2 ^ k : Nat) : Int) from (Int.natCast_pow 2 k).symm, or_ii]
      · rw [if_pos (bP_0.mpr f), b3_50, ek]
        refine next _ _ ⟨rfl, ?_⟩
        rw [btO_s, if_neg (by rw [hq, Bool.true_and]; exact fun g => f (subB_t.mp g))]
  · rintro L' h' ⟨rfl, rfl⟩
    rw [b3_5]
    simp only [AdS_ok hA, SyS_ok hS.1, true_and, hS.2.1]
    rw [if_pos (by rw [ii_le (by omega) (by omega) (by omega) (by omega)]; omega), rI_s]
    exact hK
end Av
