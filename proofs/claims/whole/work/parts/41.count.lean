/-! HOW MANY BITS: the JDK's two countings -/
theorem and_256 {a b : Nat} (ha : a < 256) (hb : b < 256) (A B : Nat) : (a + 256 * A) &&& (b + 256 * B) = (a &&& b) + 256 * (A &&& B) := by
  have h1 : a &&& b < 2 ^ 8 := Nat.and_lt_two_pow a hb
  rw [Nat.add_comm a, Nat.add_comm b, Nat.add_comm (a &&& b)]
  apply Nat.eq_of_testBit_eq
  intro i
  rw [Nat.testBit_and]
  have e1 := Nat.testBit_two_pow_mul_add (i := 8) A ha i
  have e2 := Nat.testBit_two_pow_mul_add (i := 8) B hb i
  have e3 := Nat.testBit_two_pow_mul_add (i := 8) (A &&& B) h1 i
  rw [show (256 : Nat) = 2 ^ 8 from rfl, e1, e2, e3]
  split
  · rw [Nat.testBit_and]
  · rw [Nat.testBit_and]
def g1 (m X : Nat) : Nat := X - (X / 2 &&& m)
def g2 (m Y : Nat) : Nat := (Y &&& m) + (Y / 4 &&& m)
def g3 (m T : Nat) : Nat := (T + T / 16) &&& m
theorem g1_dec : ∀ b, b < 256 → ∀ e, e < 2 → ((b / 2 + 128 * e) &&& 85) = (b / 2 &&& 85) ∧ (b / 2 &&& 85) ≤ b ∧ g1 85 b < 256 ∧ g1 85 b = b - (b / 2 &&& 85) := by decide +kernel
theorem g2_dec : ∀ c, c < 256 → ∀ e, e < 4 → ((c / 4 + 64 * e) &&& 51) = (c / 4 &&& 51) := by decide +kernel
theorem g3_dec : ∀ b, b < 256 → ∀ e, e < 5 → g2 51 (g1 85 b) ≤ 68 ∧ g2 51 (g1 85 b) % 16 ≤ 4 ∧ ((g2 51 (g1 85 b) + g2 51 (g1 85 b) / 16 + 16 * e) &&& 15) = g3 15 (g2 51 (g1 85 b)) := by decide +kernel
theorem g1_st {b : Nat} (hb : b < 256) (X m : Nat) : g1 (85 + 256 * m) (b + 256 * X) = g1 85 b + 256 * g1 m X := by
  obtain ⟨h1, h2, h3, h4⟩ := g1_dec b hb (X % 2) (Nat.mod_lt _ (by decide))
  have e : (b + 256 * X) / 2 = (b / 2 + 128 * (X % 2)) + 256 * (X / 2) := by omega
  have hm : X / 2 &&& m ≤ X := Nat.le_trans Nat.and_le_left (Nat.div_le_self _ _)
  unfold g1
  have hb' : b / 2 + 128 * (X % 2) < 256 := by omega
  rw [Nat.add_comm 85, Nat.add_comm (256 * m), e, and_256 hb' (by decide), h1]
  omega
theorem g2_st {c : Nat} (hc : c < 256) (Y m : Nat) : g2 (51 + 256 * m) (c + 256 * Y) = g2 51 c + 256 * g2 m Y := by
  have h1 := g2_dec c hc (Y % 4) (Nat.mod_lt _ (by decide))
  have e : (c + 256 * Y) / 4 = (c / 4 + 64 * (Y % 4)) + 256 * (Y / 4) := by omega
  have hb' : c / 4 + 64 * (Y % 4) < 256 := by omega
  unfold g2
  rw [e, and_256 hc (by decide), and_256 hb' (by decide), h1]
  omega
theorem g3_st {b : Nat} (hb : b < 256) (T m : Nat) (hT : T % 16 ≤ 4) : g3 (15 + 256 * m) (g2 51 (g1 85 b) + 256 * T) = g3 15 (g2 51 (g1 85 b)) + 256 * g3 m T := by
  obtain ⟨h1, h2, h3⟩ := g3_dec b hb (T % 16) (by omega)
  generalize g2 51 (g1 85 b) = t at h1 h2 h3 ⊢
  have e : t + 256 * T + (t + 256 * T) / 16 = (t + t / 16 + 16 * (T % 16)) + 256 * (T + T / 16) := by omega
  unfold g3 at h3 ⊢
  rw [e, and_256 (by omega) (by decide), h3]
def pb (b : Nat) : Nat := g3 15 (g2 51 (g1 85 b))
def mm (c : Nat) : Nat → Nat
  | 0 => 0
  | n + 1 => c + 256 * mm c n
/-- the three steps, byte by byte -/
theorem g_step {b : Nat} (hb : b < 256) (X n : Nat) (hT : g2 (mm 51 n) (g1 (mm 85 n) X) % 16 ≤ 4) : g3 (mm 15 (n + 1)) (g2 (mm 51 (n + 1)) (g1 (mm 85 (n + 1)) (b + 256 * X))) = pb b + 256 * g3 (mm 15 n) (g2 (mm 51 n) (g1 (mm 85 n) X)) ∧ g2 (mm 51 (n + 1)) (g1 (mm 85 (n + 1)) (b + 256 * X)) % 16 ≤ 4 := by
  have h0 := g1_dec b hb 0 (by decide)
  have h3 := g3_dec b hb 0 (by decide)
  show g3 (15 + 256 * mm 15 n) (g2 (51 + 256 * mm 51 n) (g1 (85 + 256 * mm 85 n) (b + 256 * X))) = _ ∧ g2 (51 + 256 * mm 51 n) (g1 (85 + 256 * mm 85 n) (b + 256 * X)) % 16 ≤ 4
  rw [g1_st hb, g2_st h0.2.2.1, g3_st hb _ _ hT]
  refine ⟨rfl, ?_⟩
  have := h3.2.1
  omega
/-- how many of the first n are so -/
def cB (w : Nat → Bool) : Nat → Nat
  | 0 => 0
  | n + 1 => cB w n + (if w n = true then 1 else 0)
theorem cB_cong {u v : Nat → Bool} : ∀ {n : Nat}, (∀ i, i < n → u i = v i) → cB u n = cB v n
  | 0, _ => rfl
  | n + 1, h => by
    unfold cB
    rw [cB_cong (fun i hi => h i (by omega)), h n (by omega)]
theorem cB_add (w : Nat → Bool) (m : Nat) : ∀ n, cB w (m + n) = cB w m + cB (fun i => w (m + i)) n
  | 0 => rfl
  | n + 1 => by
    show cB w (m + n) + (if w (m + n) = true then 1 else 0) = cB w m + (cB (fun i => w (m + i)) n + (if w (m + n) = true then 1 else 0))
    rw [cB_add w m n]
    omega
theorem cB_le (w : Nat → Bool) : ∀ n, cB w n ≤ n
  | 0 => Nat.le_refl _
  | n + 1 => by
    have := cB_le w n
    unfold cB
    split <;> omega
theorem cB_zero (w : Nat → Bool) : ∀ n, cB w n = 0 ↔ ∀ i, i < n → w i = false
  | 0 => ⟨fun _ _ h => absurd h (Nat.not_lt_zero _), fun _ => rfl⟩
  | n + 1 => by
    have ih := cB_zero w n
    unfold cB
    constructor
    · intro h i hi
      split at h
      · omega
      · rename_i hw
        rcases Nat.lt_succ_iff_lt_or_eq.mp hi with q | q
        · exact ih.mp (by omega) i q
        · subst q
          cases hq : w i with
          | false => rfl
          | true => exact absurd hq hw
    · intro h
      rw [ih.mpr (fun i hi => h i (by omega)), h n (by omega)]
      rfl
theorem pb_dec : ∀ b, b < 256 → pb b = cB (fun i => b.testBit i) 8 := by decide +kernel
theorem cB_byte (X n : Nat) : cB (fun i => X.testBit i) (8 + n) = pb (X % 256) + cB (fun i => (X / 256).testBit i) n := by
  rw [cB_add, pb_dec _ (Nat.mod_lt _ (by decide))]
  congr 1
  · apply cB_cong
    intro i hi
    show X.testBit i = (X % 2 ^ 8).testBit i
    rw [Nat.testBit_mod_two_pow]
    simp [hi]
  · apply cB_cong
    intro i _
    show X.testBit (8 + i) = (X / 2 ^ 8).testBit i
    rw [Nat.testBit_div_two_pow, Nat.add_comm]
theorem pb_le {b : Nat} (hb : b < 256) : pb b ≤ 8 := by
  rw [pb_dec b hb]
  exact cB_le _ _
/-- eight bytes -/
theorem count8 {X : Nat} (hX : X < 2 ^ 64) : ∃ c0 c1 c2 c3 c4 c5 c6 c7 : Nat, (c0 ≤ 8 ∧ c1 ≤ 8 ∧ c2 ≤ 8 ∧ c3 ≤ 8 ∧ c4 ≤ 8 ∧ c5 ≤ 8 ∧ c6 ≤ 8 ∧ c7 ≤ 8) ∧ g3 (mm 15 8) (g2 (mm 51 8) (g1 (mm 85 8) X)) = c0 + 256 * (c1 + 256 * (c2 + 256 * (c3 + 256 * (c4 + 256 * (c5 + 256 * (c6 + 256 * c7)))))) ∧ cB (fun i => X.testBit i) 64 = c0 + (c1 + (c2 + (c3 + (c4 + (c5 + (c6 + c7)))))) := by
  have key : ∀ n Y, Y < 256 ^ n → g2 (mm 51 n) (g1 (mm 85 n) Y) % 16 ≤ 4 := by
    intro n
    induction n with
    | zero => intro Y hY; have : Y = 0 := by simpa using hY
              subst this; decide
    | succ n ih =>
      intro Y hY
      have e : Y = Y % 256 + 256 * (Y / 256) := by omega
      rw [e]
      exact (g_step (Nat.mod_lt _ (by decide)) (Y / 256) n (ih _ (Nat.div_lt_of_lt_mul (by rw [Nat.pow_succ] at hY; omega)))).2
  have st : ∀ n Y, Y < 256 ^ (n + 1) → g3 (mm 15 (n + 1)) (g2 (mm 51 (n + 1)) (g1 (mm 85 (n + 1)) Y)) = pb (Y % 256) + 256 * g3 (mm 15 n) (g2 (mm 51 n) (g1 (mm 85 n) (Y / 256))) ∧ Y / 256 < 256 ^ n := by
    intro n Y hY
    have hd : Y / 256 < 256 ^ n := Nat.div_lt_of_lt_mul (by rw [Nat.pow_succ] at hY; omega)
    have e : Y = Y % 256 + 256 * (Y / 256) := by omega
    refine ⟨?_, hd⟩
    have := (g_step (b := Y % 256) (Nat.mod_lt _ (by decide)) (Y / 256) n (key n _ hd)).1
    rw [← e] at this
    exact this
  have hm : ∀ Y, pb (Y % 256) ≤ 8 := fun Y => pb_le (Nat.mod_lt _ (by decide))
  have s0 := st 7 X hX
  have s1 := st 6 _ s0.2
  have s2 := st 5 _ s1.2
  have s3 := st 4 _ s2.2
  have s4 := st 3 _ s3.2
  have s5 := st 2 _ s4.2
  have s6 := st 1 _ s5.2
  have s7 := st 0 _ s6.2
  have z : g3 (mm 15 0) (g2 (mm 51 0) (g1 (mm 85 0) (X / 256 / 256 / 256 / 256 / 256 / 256 / 256 / 256))) = 0 := by
    show ((_ : Nat) &&& 0) = 0
    exact Nat.and_zero _
  refine ⟨pb (X % 256), pb (X / 256 % 256), pb (X / 256 / 256 % 256), pb (X / 256 / 256 / 256 % 256), pb (X / 256 / 256 / 256 / 256 % 256), pb (X / 256 / 256 / 256 / 256 / 256 % 256), pb (X / 256 / 256 / 256 / 256 / 256 / 256 % 256), pb (X / 256 / 256 / 256 / 256 / 256 / 256 / 256 % 256), ⟨hm _, hm _, hm _, hm _, hm _, hm _, hm _, hm _⟩, ?_, ?_⟩
  · rw [s0.1, s1.1, s2.1, s3.1, s4.1, s5.1, s6.1, s7.1, z, Nat.mul_zero, Nat.add_zero]
  · rw [show (64 : Nat) = 8 + 56 from rfl, cB_byte, show (56 : Nat) = 8 + 48 from rfl, cB_byte, show (48 : Nat) = 8 + 40 from rfl, cB_byte, show (40 : Nat) = 8 + 32 from rfl, cB_byte, show (32 : Nat) = 8 + 24 from rfl, cB_byte, show (24 : Nat) = 8 + 16 from rfl, cB_byte, show (16 : Nat) = 8 + 8 from rfl, cB_byte, show (8 : Nat) = 8 + 0 from rfl, cB_byte]
    rfl
theorem lushr_c : ∀ k, k < 64 → ((ii (k : Nat)).toInt64.toUInt64 &&& Int64.toUInt64 63).toNat % 64 = k := by decide +kernel
def nJ64 (x : Int64) : Nat := x.toBitVec.toNat
theorem nJ_lt (x : Int64) : nJ64 x < 18446744073709551616 := x.toBitVec.isLt
theorem nJ_shr (x : Int64) {k : Nat} (hk : k < 64) : nJ64 (lushr x (ii k)) = nJ64 x / 2 ^ k := by
  show (x.toUInt64 >>> ((ii (k : Nat)).toInt64.toUInt64 &&& Int64.toUInt64 63)).toNat = _
  rw [UInt64.toNat_shiftRight, lushr_c k hk, Nat.shiftRight_eq_div_pow]
  rfl
theorem nJ_and (x y : Int64) : nJ64 (x &&& y) = nJ64 x &&& nJ64 y := by
  unfold nJ64
  rw [Int64.toBitVec_and, BitVec.toNat_and]
theorem nJ_add (x y : Int64) : nJ64 (x + y) = (nJ64 x + nJ64 y) % 18446744073709551616 := by
  unfold nJ64
  rw [Int64.toBitVec_add, BitVec.toNat_add]
theorem nJ_sub {x y : Int64} (h : nJ64 y ≤ nJ64 x) : nJ64 (x - y) = nJ64 x - nJ64 y := by
  unfold nJ64 at h ⊢
  rw [Int64.toBitVec_sub, BitVec.toNat_sub_of_le h]
theorem mm85 : mm 85 8 = 6148914691236517205 := by decide +kernel
theorem mm51 : mm 51 8 = 3689348814741910323 := by decide +kernel
theorem mm15 : mm 15 8 = 1085102592571150095 := by decide +kernel
theorem g2_lt (X : Nat) : g2 3689348814741910323 X ≤ 7378697629483820646 := by
  unfold g2
  have h1 : X &&& 3689348814741910323 ≤ 3689348814741910323 := Nat.and_le_right
  have h2 : X / 4 &&& 3689348814741910323 ≤ 3689348814741910323 := Nat.and_le_right
  omega
theorem bits64 (x : Int64) : (fun i => (nJ64 x).testBit i) = fun i => x.toBitVec.getLsbD i := by
  funext i
  exact BitVec.testBit_toNat x.toBitVec
section BC
variable {d : Nat} {h : mHeap} {K : Int32 → mHeap → Prop} {y : Int64}
theorem bc_core (y : Int64) : ∃ z1 z2 z3 z4 z5 z6 : Int64, z1 = y - ((lushr y (ii 1)) &&& (jj 6148914691236517205)) ∧ z2 = (z1 &&& (jj 3689348814741910323)) + ((lushr z1 (ii 2)) &&& (jj 3689348814741910323)) ∧ z3 = (z2 + (lushr z2 (ii 4))) &&& (jj 1085102592571150095) ∧ z4 = z3 + (lushr z3 (ii 8)) ∧ z5 = z4 + (lushr z4 (ii 16)) ∧ z6 = z5 + (lushr z5 (ii 32)) ∧ z6.toInt32 &&& ii 127 = ii (cB (fun i => y.toBitVec.getLsbD i) 64) := by
  refine ⟨_, _, _, _, _, _, rfl, rfl, rfl, rfl, rfl, rfl, ?_⟩
  generalize e1 : y - ((lushr y (ii 1)) &&& (jj 6148914691236517205)) = z1
  generalize e2 : (z1 &&& (jj 3689348814741910323)) + ((lushr z1 (ii 2)) &&& (jj 3689348814741910323)) = z2
  generalize e3 : (z2 + (lushr z2 (ii 4))) &&& (jj 1085102592571150095) = z3
  generalize e4 : z3 + (lushr z3 (ii 8)) = z4
  generalize e5 : z4 + (lushr z4 (ii 16)) = z5
  generalize e6 : z5 + (lushr z5 (ii 32)) = z6
  have c1 : nJ64 (jj 6148914691236517205) = 6148914691236517205 := by decide
  have c2 : nJ64 (jj 3689348814741910323) = 3689348814741910323 := by decide
  have c3 : nJ64 (jj 1085102592571150095) = 1085102592571150095 := by decide
  have k1 : ii 1 = ii ((1 : Nat) : Int) := rfl
  have k2 : ii 2 = ii ((2 : Nat) : Int) := rfl
  have k4 : ii 4 = ii ((4 : Nat) : Int) := rfl
  have k8 : ii 8 = ii ((8 : Nat) : Int) := rfl
  have k16 : ii 16 = ii ((16 : Nat) : Int) := rfl
  have k32 : ii 32 = ii ((32 : Nat) : Int) := rfl
  have n1 : nJ64 z1 = g1 (mm 85 8) (nJ64 y) := by
    have hs : nJ64 (lushr y (ii 1) &&& jj 6148914691236517205) = nJ64 y / 2 &&& 6148914691236517205 := by rw [nJ_and, k1, nJ_shr y (by decide), c1]
    rw [← e1, nJ_sub (by rw [hs]; exact Nat.le_trans Nat.and_le_left (Nat.div_le_self _ _)), hs, mm85]
    rfl
  have n2 : nJ64 z2 = g2 (mm 51 8) (nJ64 z1) := by
    have hg := g2_lt (nJ64 z1)
    rw [← e2, nJ_add, nJ_and, nJ_and, k2, nJ_shr z1 (by decide), c2, mm51]
    unfold g2 at hg ⊢
    rw [show (2 : Nat) ^ 2 = 4 from rfl]
    exact Nat.mod_eq_of_lt (by omega)
  have l2 : nJ64 z2 ≤ 7378697629483820646 := by rw [n2, mm51]; exact g2_lt _
  have n3 : nJ64 z3 = g3 (mm 15 8) (nJ64 z2) := by
    rw [← e3, nJ_and, nJ_add, k4, nJ_shr z2 (by decide), c3, mm15]
    unfold g3
    rw [Nat.mod_eq_of_lt (by omega)]
  obtain ⟨b0, b1, b2, b3, b4, b5, b6, b7, hb, f1, f2⟩ := count8 (nJ_lt y)
  rw [← n1, ← n2, ← n3] at f1
  rw [← bits64 y, f2]
  have n4 : nJ64 z4 = nJ64 z3 + nJ64 z3 / 256 := by
    rw [← e4, nJ_add, k8, nJ_shr z3 (by decide)]
    exact Nat.mod_eq_of_lt (by omega)
  have n5 : nJ64 z5 = nJ64 z4 + nJ64 z4 / 65536 := by
    rw [← e5, nJ_add, k16, nJ_shr z4 (by decide)]
    exact Nat.mod_eq_of_lt (by omega)
  have n6 : nJ64 z6 = nJ64 z5 + nJ64 z5 / 4294967296 := by
    rw [← e6, nJ_add, k32, nJ_shr z5 (by decide)]
    exact Nat.mod_eq_of_lt (by omega)
  have q3 : nJ64 z3 / 256 = (b1) + 256 * ((b2) + 256 * ((b3) + 256 * ((b4) + 256 * ((b5) + 256 * ((b6) + 256 * ((b7))))))) := by omega
  have q4 : nJ64 z4 = (b0 + b1) + 256 * ((b1 + b2) + 256 * ((b2 + b3) + 256 * ((b3 + b4) + 256 * ((b4 + b5) + 256 * ((b5 + b6) + 256 * ((b6 + b7) + 256 * ((b7)))))))) := by omega
  have q4d : nJ64 z4 / 65536 = (b2 + b3) + 256 * ((b3 + b4) + 256 * ((b4 + b5) + 256 * ((b5 + b6) + 256 * ((b6 + b7) + 256 * ((b7)))))) := by clear q3 n4 f1; omega
  have q5 : nJ64 z5 = (b0 + b1 + b2 + b3) + 256 * ((b1 + b2 + b3 + b4) + 256 * ((b2 + b3 + b4 + b5) + 256 * ((b3 + b4 + b5 + b6) + 256 * ((b4 + b5 + b6 + b7) + 256 * ((b5 + b6 + b7) + 256 * ((b6 + b7) + 256 * ((b7)))))))) := by clear q3 n4 f1; omega
  have q5d : nJ64 z5 / 4294967296 = (b4 + b5 + b6 + b7) + 256 * ((b5 + b6 + b7) + 256 * ((b6 + b7) + 256 * ((b7)))) := by clear q3 n4 f1 q4 q4d n5; omega
  have m6 : nJ64 z6 % 128 = b0 + (b1 + (b2 + (b3 + (b4 + (b5 + (b6 + b7)))))) := by clear q3 n4 f1 q4 q4d n5; omega
  have t6 : z6.toInt32 = ii (nJ64 z6) := by
    apply Int32.toBitVec_inj.mp
    rw [ii_bv]
    apply BitVec.eq_of_toNat_eq
    rw [BitVec.toNat_ofNat]
    show (z6.toBitVec.signExtend 32).toNat = nJ64 z6 % 2 ^ 32
    rw [BitVec.signExtend_eq_setWidth_of_le _ (by decide), BitVec.toNat_setWidth]
    rfl
  rw [t6]
  have := and_ii (nJ64 z6) 127
  rw [show ii 127 = ii ((127 : Nat) : Int) from rfl, this]
  congr 2
  rw [show (127 : Nat) = 2 ^ 7 - 1 from rfl, Nat.and_two_pow_sub_one_eq_mod]
  exact m6
theorem c318 : GoCi (d + 1) 318 [.long y] h K ↔ K (ii (cB (fun i => y.toBitVec.getLsbD i) 64)) h := by
  obtain ⟨z1, z2, z3, z4, z5, z6, e1, e2, e3, e4, e5, e6, e7⟩ := bc_core y
  rw [e318, b318_0, rI_s, ← e1, ← e2, ← e3, ← e4, ← e5, ← e6, e7]
end BC
