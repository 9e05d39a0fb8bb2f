/-! INTS AND LONGS AS INTEGERS -/
theorem ii_add (a b : Int) : ii a + ii b = ii (a + b) := (Int32.ofInt_add a b).symm
theorem ii_sub (a b : Int) : ii a - ii b = ii (a - b) := (Int32.ofInt_sub a b).symm
theorem ii_mul (a b : Int) : ii a * ii b = ii (a * b) := (Int32.ofInt_mul a b).symm
theorem ii_neg (a : Int) : -ii a = ii (-a) := (Int32.ofInt_neg a).symm
theorem jj_add (a b : Int) : jj a + jj b = jj (a + b) := (Int64.ofInt_add a b).symm
theorem jj_sub (a b : Int) : jj a - jj b = jj (a - b) := (Int64.ofInt_sub a b).symm
theorem jj_mul (a b : Int) : jj a * jj b = jj (a * b) := (Int64.ofInt_mul a b).symm
theorem ii_of (x : Int32) : ∃ z : Int, -2147483648 ≤ z ∧ z < 2147483648 ∧ x = ii z := ⟨x.toInt, Int32.le_toInt x, Int32.toInt_lt x, (Int32.ofInt_toInt x).symm⟩
theorem ii_lt {a b : Int} (h1 : -2147483648 ≤ a) (h2 : a < 2147483648) (h3 : -2147483648 ≤ b) (h4 : b < 2147483648) : ii a < ii b ↔ a < b := by
  rw [Int32.lt_iff_toInt_lt, ii_toInt h1 h2, ii_toInt h3 h4]
theorem ii_le {a b : Int} (h1 : -2147483648 ≤ a) (h2 : a < 2147483648) (h3 : -2147483648 ≤ b) (h4 : b < 2147483648) : ii a ≤ ii b ↔ a ≤ b := by
  rw [Int32.le_iff_toInt_le, ii_toInt h1 h2, ii_toInt h3 h4]
theorem ii_eq {a b : Int} (h1 : -2147483648 ≤ a) (h2 : a < 2147483648) (h3 : -2147483648 ≤ b) (h4 : b < 2147483648) : ii a = ii b ↔ a = b := by
  rw [eq_ii h3 h4, ii_toInt h1 h2]
theorem ii_lt0 {a : Int} (h1 : -2147483648 ≤ a) (h2 : a < 2147483648) : ii a < 0 ↔ a < 0 := ii_lt (b := 0) h1 h2 (by decide) (by decide)
theorem ix_ii {z : Int} (h1 : 0 ≤ z) (h2 : z < 2147483648) : (ii z).toNatClampNeg = z.toNat := by
  rw [← Int32.toNat_toInt, ii_toInt (by omega) h2]
theorem ii_div {a b : Int} (h1 : 0 ≤ a) (h2 : a < 2147483648) (h3 : 0 < b) (h4 : b < 2147483648) : ii a / ii b = ii (a / b) := by
  have hd : a / b ≤ a := Int.ediv_le_self _ h1
  have hd0 : 0 ≤ a / b := Int.ediv_nonneg h1 (by omega)
  apply Int32.toInt_inj.mp
  rw [Int32.toInt_div, ii_toInt (by omega) h2, ii_toInt (by omega) h4, ii_toInt (by omega) (by omega), Int.tdiv_eq_ediv_of_nonneg h1]
  exact Int.bmod_eq_of_le (by simp; omega) (by simp; omega)
theorem irm_ii {a b : Int} (h1 : 0 ≤ a) (h2 : a < 2147483648) (h3 : 0 < b) (h4 : b < 2147483648) : irm (ii a) (ii b) = ii (a % b) := by
  unfold irm
  rw [ii_div h1 h2 h3 h4, ii_mul, ii_sub]
  congr 1
  have := Int.mul_ediv_add_emod a b
  rw [Int.mul_comm]
  omega
theorem ii_nat (n : Nat) : ii n = Int32.ofNat n := rfl
theorem ii_bv (n : Nat) : (ii n).toBitVec = BitVec.ofNat 32 n := rfl
theorem and_ii (a b : Nat) : ii a &&& ii b = ii ((a &&& b : Nat) : Int) := by
  apply Int32.toBitVec_inj.mp
  rw [Int32.toBitVec_and, ii_bv, ii_bv, ii_bv, BitVec.ofNat_and]
theorem or_ii (a b : Nat) : ii a ||| ii b = ii ((a ||| b : Nat) : Int) := by
  apply Int32.toBitVec_inj.mp
  rw [Int32.toBitVec_or, ii_bv, ii_bv, ii_bv, BitVec.ofNat_or]
theorem xor_ii (a b : Nat) : ii a ^^^ ii b = ii ((a ^^^ b : Nat) : Int) := by
  apply Int32.toBitVec_inj.mp
  rw [Int32.toBitVec_xor, ii_bv, ii_bv, ii_bv, BitVec.ofNat_xor]
theorem sh_l : ∀ n, n < 32 → (((ii (n : Nat)) &&& 31).toBitVec.smod 32).toNat = n := by decide +kernel
theorem shl_bv {x : Int32} {k : Nat} (hk : k < 32) : (shl x (ii k)).toBitVec = x.toBitVec <<< k := by
  unfold shl
  rw [Int32.toBitVec_shiftLeft]
  show x.toBitVec <<< (((ii (k : Nat)) &&& 31).toBitVec.smod 32).toNat = _
  rw [sh_l k hk]
theorem shr_bv {x : Int32} {k : Nat} (hk : k < 32) : (shr x (ii k)).toBitVec = x.toBitVec.sshiftRight k := by
  unfold shr
  rw [Int32.toBitVec_shiftRight]
  show x.toBitVec.sshiftRight (((ii (k : Nat)) &&& 31).toBitVec.smod 32).toNat = _
  rw [sh_l k hk]
theorem shl_ii (a : Int) {k : Nat} (hk : k < 32) : shl (ii a) (ii k) = ii (a * 2 ^ k) := by
  apply Int32.toBitVec_inj.mp
  rw [shl_bv hk]
  apply BitVec.eq_of_toInt_eq
  rw [BitVec.toInt_shiftLeft]
  show (((BitVec.ofInt 32 a).toNat : Int) <<< k).bmod (2 ^ 32) = (BitVec.ofInt 32 (a * 2 ^ k)).toInt
  rw [BitVec.toInt_ofInt, BitVec.toNat_ofInt, Int.shiftLeft_eq]
  have h0 : 0 ≤ a % ((2 ^ 32 : Nat) : Int) := Int.emod_nonneg _ (by decide)
  rw [Int.toNat_of_nonneg h0]
  exact Int.emod_mul_bmod a (2 ^ 32)
theorem shr_ii {a : Int} (h1 : -2147483648 ≤ a) (h2 : a < 2147483648) {k : Nat} (hk : k < 32) : shr (ii a) (ii k) = ii (a / 2 ^ k) := by
  apply Int32.toBitVec_inj.mp
  rw [shr_bv hk]
  apply BitVec.eq_of_toInt_eq
  have e : (ii a).toBitVec.toInt = a := ii_toInt h1 h2
  rw [BitVec.toInt_sshiftRight, e, Int.shiftRight_eq_div_pow]
  have hp : (0 : Int) < 2 ^ k := Int.pow_pos (by decide)
  have b1 : -2147483648 ≤ a / 2 ^ k := by
    apply (Int.le_ediv_iff_mul_le hp).mpr
    have : (1 : Int) ≤ 2 ^ k := hp
    have : (2147483648 : Int) * 1 ≤ 2147483648 * 2 ^ k := Int.mul_le_mul_of_nonneg_left this (by decide)
    omega
  have b2 : a / 2 ^ k < 2147483648 := by
    apply Int.ediv_lt_of_lt_mul hp
    have : (1 : Int) ≤ 2 ^ k := hp
    have : (2147483648 : Int) * 1 ≤ 2147483648 * 2 ^ k := Int.mul_le_mul_of_nonneg_left this (by decide)
    omega
  have e2 : (ii (a / 2 ^ k)).toBitVec.toInt = a / 2 ^ k := ii_toInt b1 b2
  rw [e2]
  simp
theorem bit_ii {s : Nat} (hs : s < 2147483648) {k : Nat} (hk : k < 32) : shr (ii s) (ii k) &&& ii 1 = ii (if s.testBit k = true then 1 else 0) := by
  rw [shr_ii (by omega) (by omega) hk]
  have : ((s : Int) / 2 ^ k) = ((s / 2 ^ k : Nat) : Int) := by simp
  rw [this]
  have e := and_ii (s / 2 ^ k) 1
  rw [show ii 1 = ii ((1 : Nat) : Int) from rfl, e]
  rw [Nat.and_one_is_mod, Nat.testBit_eq_decide_div_mod_eq]
  by_cases q : s / 2 ^ k % 2 = 1
  · rw [q]; simp [q]
  · have : s / 2 ^ k % 2 = 0 := by omega
    rw [this]; simp [this]
theorem i2l_ii {z : Int} (h1 : -2147483648 ≤ z) (h2 : z < 2147483648) : (ii z).toInt64 = jj z := by
  apply Int64.toInt_inj.mp
  rw [Int32.toInt_toInt64, ii_toInt h1 h2]
  unfold jj
  rw [Int64.toInt_ofInt]
  exact (Int.bmod_eq_of_le (by simp; omega) (by simp; omega)).symm
theorem jj_toInt {z : Int} (h1 : -9223372036854775808 ≤ z) (h2 : z < 9223372036854775808) : (jj z).toInt = z := by
  unfold jj
  rw [Int64.toInt_ofInt]
  exact Int.bmod_eq_of_le (by simp; omega) (by simp; omega)
theorem jj_of (x : Int64) : ∃ z : Int, -9223372036854775808 ≤ z ∧ z < 9223372036854775808 ∧ x = jj z := ⟨x.toInt, Int64.le_toInt x, Int64.toInt_lt x, (Int64.ofInt_toInt x).symm⟩
theorem l2i_jj (z : Int) : (jj z).toInt32 = ii z := by
  unfold jj ii
  exact Int64.toInt32_ofInt
theorem lcmp_eq {x y : Int64} : lg_cmp x y = ii 0 ↔ x = y := by
  unfold lg_cmp
  by_cases h1 : x > y
  · rw [if_pos h1]
    constructor
    · intro e; exact absurd e (by decide)
    · intro e; subst e; exact absurd h1 (Int64.lt_irrefl)
  · rw [if_neg h1]
    by_cases h2 : x = y
    · rw [if_pos h2]; simp [h2]; rfl
    · rw [if_neg h2]
      constructor
      · intro e; exact absurd e (by decide)
      · intro e; exact absurd e h2
theorem ii_bne0 {b : Prop} [Decidable b] : (if b then ii 1 else ii 0) = ii 0 ↔ ¬ b := by
  by_cases h : b
  · rw [if_pos h]; simp [h]; decide
  · rw [if_neg h]; simp [h]
theorem ii01 {b : Prop} [Decidable b] : ((if b then ii 1 else ii 0) = ii 0 ∨ (if b then ii 1 else ii 0) = ii 1) ↔ True := by
  by_cases h : b <;> simp [h]
