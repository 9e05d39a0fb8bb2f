/-! HOW MANY BITS AN INT HAS, and the numbers below a mask one after another -/
theorem count4 {X : Nat} (hX : X < 2 ^ 32) : ∃ c0 c1 c2 c3 : Nat, (c0 ≤ 8 ∧ c1 ≤ 8 ∧ c2 ≤ 8 ∧ c3 ≤ 8) ∧ g3 (mm 15 4) (g2 (mm 51 4) (g1 (mm 85 4) X)) = c0 + 256 * (c1 + 256 * (c2 + 256 * c3)) ∧ cB (fun i => X.testBit i) 32 = c0 + (c1 + (c2 + c3)) := by
  have key : ∀ n Y, Y < 256 ^ n → g2 (mm 51 n) (g1 (mm 85 n) Y) % 16 ≤ 4 := by
    intro n
    induction n with
    | zero => intro Y hY; have : Y = 0 := by simpa using hY
              subst this; decide
    | succ n ih =>
      intro Y hY
      have e : Y = Y % 256 + 256 * (Y / 256) := by omega
      rw [e]
      exact (g_step (Nat.mod_lt _ (by decide)) (Y / 256) n (ih _ (Nat.div_lt_of_lt_mul (by rw [Nat.pow_succ] at hY; omega)))).2
  have st : ∀ n Y, Y < 256 ^ (n + 1) → g3 (mm 15 (n + 1)) (g2 (mm 51 (n + 1)) (g1 (mm 85 (n + 1)) Y)) = pb (Y % 256) + 256 * g3 (mm 15 n) (g2 (mm 51 n) (g1 (mm 85 n) (Y / 256))) ∧ Y / 256 < 256 ^ n := by
    intro n Y hY
    have hd : Y / 256 < 256 ^ n := Nat.div_lt_of_lt_mul (by rw [Nat.pow_succ] at hY; omega)
    have e : Y = Y % 256 + 256 * (Y / 256) := by omega
    refine ⟨?_, hd⟩
    have := (g_step (b := Y % 256) (Nat.mod_lt _ (by decide)) (Y / 256) n (key n _ hd)).1
    rw [← e] at this
    exact this
  have hm : ∀ Y, pb (Y % 256) ≤ 8 := fun Y => pb_le (Nat.mod_lt _ (by decide))
  have s0 := st 3 X hX
  have s1 := st 2 _ s0.2
  have s2 := st 1 _ s1.2
  have s3 := st 0 _ s2.2
  have z : g3 (mm 15 0) (g2 (mm 51 0) (g1 (mm 85 0) (X / 256 / 256 / 256 / 256))) = 0 := by
    show ((_ : Nat) &&& 0) = 0
    exact Nat.and_zero _
  refine ⟨pb (X % 256), pb (X / 256 % 256), pb (X / 256 / 256 % 256), pb (X / 256 / 256 / 256 % 256), ⟨hm _, hm _, hm _, hm _⟩, ?_, ?_⟩
  · rw [s0.1, s1.1, s2.1, s3.1, z, Nat.mul_zero, Nat.add_zero]
  · rw [show (32 : Nat) = 8 + 24 from rfl, cB_byte, show (24 : Nat) = 8 + 16 from rfl, cB_byte, show (16 : Nat) = 8 + 8 from rfl, cB_byte, show (8 : Nat) = 8 + 0 from rfl, cB_byte]
    rfl
theorem ushr_c : ∀ k, k < 32 → ((ii (k : Nat)).toUInt32 &&& Int32.toUInt32 31).toNat % 32 = k := by decide +kernel
def nI32 (x : Int32) : Nat := x.toBitVec.toNat
theorem nI32_lt (x : Int32) : nI32 x < 4294967296 := x.toBitVec.isLt
theorem nI32_shr (x : Int32) {k : Nat} (hk : k < 32) : nI32 (ushr x (ii k)) = nI32 x / 2 ^ k := by
  show (x.toUInt32 >>> ((ii (k : Nat)).toUInt32 &&& Int32.toUInt32 31)).toNat = _
  rw [UInt32.toNat_shiftRight, ushr_c k hk, Nat.shiftRight_eq_div_pow]
  rfl
theorem nI32_and (x y : Int32) : nI32 (x &&& y) = nI32 x &&& nI32 y := by
  unfold nI32
  rw [Int32.toBitVec_and, BitVec.toNat_and]
theorem nI32_add (x y : Int32) : nI32 (x + y) = (nI32 x + nI32 y) % 4294967296 := by
  unfold nI32
  rw [Int32.toBitVec_add, BitVec.toNat_add]
theorem nI32_sub {x y : Int32} (h : nI32 y ≤ nI32 x) : nI32 (x - y) = nI32 x - nI32 y := by
  unfold nI32 at h ⊢
  rw [Int32.toBitVec_sub, BitVec.toNat_sub_of_le h]
theorem mm85i : mm 85 4 = 1431655765 := by decide +kernel
theorem mm51i : mm 51 4 = 858993459 := by decide +kernel
theorem mm15i : mm 15 4 = 252645135 := by decide +kernel
theorem g2i_lt (X : Nat) : g2 858993459 X ≤ 1717986918 := by
  unfold g2
  have h1 : X &&& 858993459 ≤ 858993459 := Nat.and_le_right
  have h2 : X / 4 &&& 858993459 ≤ 858993459 := Nat.and_le_right
  omega
theorem bc_core32 (y : Int32) : ∃ z1 z2 z3 z4 z5 : Int32, z1 = y - ((ushr y (ii 1)) &&& (ii 1431655765)) ∧ z2 = (z1 &&& (ii 858993459)) + ((ushr z1 (ii 2)) &&& (ii 858993459)) ∧ z3 = (z2 + (ushr z2 (ii 4))) &&& (ii 252645135) ∧ z4 = z3 + (ushr z3 (ii 8)) ∧ z5 = z4 + (ushr z4 (ii 16)) ∧ z5 &&& ii 63 = ii (cB (fun i => (nI32 y).testBit i) 32) := by
  refine ⟨_, _, _, _, _, rfl, rfl, rfl, rfl, rfl, ?_⟩
  generalize e1 : y - ((ushr y (ii 1)) &&& (ii 1431655765)) = z1
  generalize e2 : (z1 &&& (ii 858993459)) + ((ushr z1 (ii 2)) &&& (ii 858993459)) = z2
  generalize e3 : (z2 + (ushr z2 (ii 4))) &&& (ii 252645135) = z3
  generalize e4 : z3 + (ushr z3 (ii 8)) = z4
  generalize e5 : z4 + (ushr z4 (ii 16)) = z5
  have c1 : nI32 (ii 1431655765) = 1431655765 := by decide
  have c2 : nI32 (ii 858993459) = 858993459 := by decide
  have c3 : nI32 (ii 252645135) = 252645135 := by decide
  have k1 : ii 1 = ii ((1 : Nat) : Int) := rfl
  have k2 : ii 2 = ii ((2 : Nat) : Int) := rfl
  have k4 : ii 4 = ii ((4 : Nat) : Int) := rfl
  have k8 : ii 8 = ii ((8 : Nat) : Int) := rfl
  have k16 : ii 16 = ii ((16 : Nat) : Int) := rfl
  have n1 : nI32 z1 = g1 (mm 85 4) (nI32 y) := by
    have hs : nI32 (ushr y (ii 1) &&& ii 1431655765) = nI32 y / 2 &&& 1431655765 := by rw [nI32_and, k1, nI32_shr y (by decide), c1]
    rw [← e1, nI32_sub (by rw [hs]; exact Nat.le_trans Nat.and_le_left (Nat.div_le_self _ _)), hs, mm85i]
    rfl
  have n2 : nI32 z2 = g2 (mm 51 4) (nI32 z1) := by
    have hg := g2i_lt (nI32 z1)
    rw [← e2, nI32_add, nI32_and, nI32_and, k2, nI32_shr z1 (by decide), c2, mm51i]
    unfold g2 at hg ⊢
    rw [show (2 : Nat) ^ 2 = 4 from rfl]
    exact Nat.mod_eq_of_lt (by omega)
  have l2 : nI32 z2 ≤ 1717986918 := by rw [n2, mm51i]; exact g2i_lt _
  have n3 : nI32 z3 = g3 (mm 15 4) (nI32 z2) := by
    rw [← e3, nI32_and, nI32_add, k4, nI32_shr z2 (by decide), c3, mm15i]
    unfold g3
    rw [Nat.mod_eq_of_lt (by omega)]
  obtain ⟨b0, b1, b2, b3, hb, f1, f2⟩ := count4 (nI32_lt y)
  rw [← n1, ← n2, ← n3] at f1
  rw [f2]
  have n4 : nI32 z4 = nI32 z3 + nI32 z3 / 256 := by
    rw [← e4, nI32_add, k8, nI32_shr z3 (by decide)]
    exact Nat.mod_eq_of_lt (by omega)
  have n5 : nI32 z5 = nI32 z4 + nI32 z4 / 65536 := by
    rw [← e5, nI32_add, k16, nI32_shr z4 (by decide)]
    exact Nat.mod_eq_of_lt (by omega)
  have q3 : nI32 z3 / 256 = (b1) + 256 * ((b2) + 256 * (b3)) := by omega
  have q4 : nI32 z4 = (b0 + b1) + 256 * ((b1 + b2) + 256 * ((b2 + b3) + 256 * (b3))) := by omega
  have q4d : nI32 z4 / 65536 = (b2 + b3) + 256 * (b3) := by clear q3 n4 f1; omega
  have m5 : nI32 z5 % 64 = b0 + (b1 + (b2 + b3)) := by clear q3 n4 f1; omega
  have t5 : z5 = ii (nI32 z5) := by
    apply Int32.toBitVec_inj.mp
    rw [ii_bv]
    apply BitVec.eq_of_toNat_eq
    rw [BitVec.toNat_ofNat]
    exact (Nat.mod_eq_of_lt (nI32_lt z5)).symm
  rw [t5]
  have := and_ii (nI32 z5) 63
  rw [show ii 63 = ii ((63 : Nat) : Int) from rfl, this]
  congr 2
  rw [show (63 : Nat) = 2 ^ 6 - 1 from rfl, Nat.and_two_pow_sub_one_eq_mod]
  exact m5
theorem nI32_ii {n : Nat} (h : n < 2147483648) : nI32 (ii n) = n := by
  show (ii (n : Nat)).toBitVec.toNat = n
  rw [ii_bv, BitVec.toNat_ofNat]
  exact Nat.mod_eq_of_lt (by omega)
/-- how many numbers a set of numbers below 32 has -/
def bc (n : Nat) : Nat := cB (fun i => n.testBit i) 32
theorem bc_le (n : Nat) : bc n ≤ 32 := cB_le _ _
theorem c317 {d : Nat} {h : mHeap} {K : Int32 → mHeap → Prop} {n : Nat} (hn : n < 2147483648) : GoCi (d + 1) 317 [.int (ii n)] h K ↔ K (ii (bc n)) h := by
  obtain ⟨z1, z2, z3, z4, z5, e1, e2, e3, e4, e5, e7⟩ := bc_core32 (ii n)
  rw [nI32_ii hn] at e7
  rw [e317, b317_0, rI_s, ← e1, ← e2, ← e3, ← e4, ← e5, e7]
  rfl
