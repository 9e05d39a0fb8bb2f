/-! WHAT ONE CALLS: is it one of these -/
def TbS (h : mHeap) : Prop := kd h 64 = (4, 11, [68, 121, 122, 72, 126, 0, 100, 127, 128, 139])
abbrev i32 (z : Int) : Prop := -2147483648 ≤ z ∧ z < 2147483648
abbrev isPe (P : Pg) (z : Int) : Prop := 0 ≤ z ∧ z < (ld_q (pg_l P)).length
abbrev isUpp (P : Pg) (z : Int) : Prop := (0 ≤ z ∧ z < (ld_q (pg_l P)).length) ∧ mo_l (pg_m P) z.toNat = false
abbrev isHo (P : Pg) (z : Int) : Prop := 0 < ld_n (pg_l P) ∧ (z = -1 ∨ (0 ≤ z ∧ z < (ld_q (pg_l P)).length))
abbrev isPl (P : Pg) (z : Int) : Prop := 0 ≤ z ∧ z < (ld_p (pg_l P)).length
abbrev isWo (P : Pg) (z : Int) : Prop := 0 < ld_n (pg_l P) ∧ 0 ≤ z ∧ z < 2 ^ ld_n (pg_l P)
abbrev isSa (S : List Wd) (z : Int) : Prop := 0 ≤ z ∧ z < S.length
abbrev isSe (S : List Wd) (z : Int) : Prop := 0 ≤ z ∧ z < 2 ^ S.length
section Pb
variable {d : Nat} {h : mHeap} {P : Pg} {S : List Wd} {z : Int}
theorem TbS_ok (hT : TbS h) : okF h 64 11 0 2 ∧ okF h 64 11 1 2 ∧ okF h 64 11 2 2 ∧ okF h 64 11 3 2 ∧ okF h 64 11 4 2 ∧ okF h 64 11 5 0 ∧ okF h 64 11 6 2 ∧ okF h 64 11 7 2 ∧ okF h 64 11 8 2 ∧ okF h 64 11 9 2 ∧ fR h 64 0 = 65 ∧ fR h 64 1 = 118 ∧ fR h 64 2 = 119 ∧ fR h 64 3 = 69 ∧ fR h 64 4 = 123 ∧ fR h 64 6 = 97 ∧ fR h 64 7 = 124 ∧ fR h 64 8 = 125 ∧ fR h 64 9 = 136 ∧ oC h 64 = 11 := by
  have k := hT
  unfold TbS at k
  refine ⟨?_, ?_, ?_, ?_, ?_, ?_, ?_, ?_, ?_, ?_, ?_, ?_, ?_, ?_, ?_, ?_, ?_, ?_, ?_, oC_kd k⟩
  · rw [okF_kd, k]; exact ⟨rfl, rfl, rfl⟩
  · rw [okF_kd, k]; exact ⟨rfl, rfl, rfl⟩
  · rw [okF_kd, k]; exact ⟨rfl, rfl, rfl⟩
  · rw [okF_kd, k]; exact ⟨rfl, rfl, rfl⟩
  · rw [okF_kd, k]; exact ⟨rfl, rfl, rfl⟩
  · rw [okF_kd, k]; exact ⟨rfl, rfl, rfl⟩
  · rw [okF_kd, k]; exact ⟨rfl, rfl, rfl⟩
  · rw [okF_kd, k]; exact ⟨rfl, rfl, rfl⟩
  · rw [okF_kd, k]; exact ⟨rfl, rfl, rfl⟩
  · rw [okF_kd, k]; exact ⟨rfl, rfl, rfl⟩
  · rw [fR_kd, k]; rfl
  · rw [fR_kd, k]; rfl
  · rw [fR_kd, k]; rfl
  · rw [fR_kd, k]; rfl
  · rw [fR_kd, k]; rfl
  · rw [fR_kd, k]; rfl
  · rw [fR_kd, k]; rfl
  · rw [fR_kd, k]; rfl
  · rw [fR_kd, k]; rfl
theorem pg_106 (hP : PgR h 97 P) : fR h 97 1 = 106 ∧ MoR h 106 (pg_m P) ∧ LaR h (fR h 97 0) (pg_l P) ∧ LdOk (pg_l P) := ⟨(PgS_okF hP.1).2.2.2.2.2.2.2.2.1, hP.2.2.2.1, hP.2.1, hP.2.2.1⟩
theorem c173 {K : Int32 → mHeap → Prop} (hT : TbS h) (hP : PgR h 97 P) (hz : i32 z) : GoCi (d + 1) 173 [.ref 64, .int (ii z)] h K ↔ K (if isPe P z then ii 1 else ii 0) h := by
  have L := hP.2.1
  have o3 := hP.2.2.1.2.2.1
  rw [e173, b173_0]
  simp only [TbS_ok hT, PgS_okF hP.1, LaS_ok L.1, L.2.2.2.1, true_and, true_or, or_true, rI_s]
  by_cases c : z < 0
  · rw [if_pos (by rw [show ii 0 = ii (0 : Int) from rfl, ii_lt hz.1 hz.2 (by omega) (by omega)]; exact c), if_neg (by omega)]
  · rw [if_neg (by rw [show ii 0 = ii (0 : Int) from rfl, ii_lt hz.1 hz.2 (by omega) (by omega)]; exact c)]
    by_cases c2 : z < (ld_q (pg_l P)).length
    · rw [if_neg (by rw [ii_le (by omega) (by omega) hz.1 hz.2]; omega), if_pos ⟨by omega, c2⟩]
    · rw [if_pos (by rw [ii_le (by omega) (by omega) hz.1 hz.2]; omega), if_neg (by omega)]
theorem c176 {K : Int32 → mHeap → Prop} (hT : TbS h) (hP : PgR h 97 P) (hz : i32 z) : GoCi (d + 1) 176 [.ref 64, .int (ii z)] h K ↔ K (if isPl P z then ii 1 else ii 0) h := by
  have L := hP.2.1
  have o3 := hP.2.2.1.2.2.2.1
  rw [e176, b176_0]
  simp only [TbS_ok hT, PgS_okF hP.1, LaS_ok L.1, L.2.2.2.2.2.1, true_and, true_or, or_true, rI_s]
  by_cases c : z < 0
  · rw [if_pos (by rw [show ii 0 = ii (0 : Int) from rfl, ii_lt hz.1 hz.2 (by omega) (by omega)]; exact c), if_neg (by omega)]
  · rw [if_neg (by rw [show ii 0 = ii (0 : Int) from rfl, ii_lt hz.1 hz.2 (by omega) (by omega)]; exact c)]
    by_cases c2 : z < (ld_p (pg_l P)).length
    · rw [if_neg (by rw [ii_le (by omega) (by omega) hz.1 hz.2]; omega), if_pos ⟨by omega, c2⟩]
    · rw [if_pos (by rw [ii_le (by omega) (by omega) hz.1 hz.2]; omega), if_neg (by omega)]
theorem c178 {K : Int32 → mHeap → Prop} (hT : TbS h) (hS : SyR h S) (hz : i32 z) : GoCi (d + 1) 178 [.ref 64, .int (ii z)] h K ↔ K (if isSa S z then ii 1 else ii 0) h := by
  have o3 := hS.2.2.1
  rw [e178, b178_0]
  simp only [TbS_ok hT, SyS_ok hS.1, hS.2.1, true_and, true_or, or_true, rI_s]
  by_cases c : z < 0
  · rw [if_pos (by rw [show ii 0 = ii (0 : Int) from rfl, ii_lt hz.1 hz.2 (by omega) (by omega)]; exact c), if_neg (by omega)]
  · rw [if_neg (by rw [show ii 0 = ii (0 : Int) from rfl, ii_lt hz.1 hz.2 (by omega) (by omega)]; exact c)]
    by_cases c2 : z < S.length
    · rw [if_neg (by rw [ii_le (by omega) (by omega) hz.1 hz.2]; omega), if_pos ⟨by omega, c2⟩]
    · rw [if_pos (by rw [ii_le (by omega) (by omega) hz.1 hz.2]; omega), if_neg (by omega)]
theorem p2_le {n m : Nat} (h : n ≤ m) : (2 : Int) ^ n ≤ ((2 ^ m : Nat) : Int) := by
  have := Nat.pow_le_pow_right (n := 2) (by decide) h
  rw [show ((2 : Int) ^ n) = ((2 ^ n : Nat) : Int) from (Int.natCast_pow 2 n).symm]
  omega
theorem c179 {K : Int32 → mHeap → Prop} (hT : TbS h) (hS : SyR h S) (hz : i32 z) : GoCi (d + 1) 179 [.ref 64, .int (ii z)] h K ↔ K (if isSe S z then ii 1 else ii 0) h := by
  have o3 := hS.2.2.1
  have e2 : ((2 : Int) ^ S.length) = ((2 ^ S.length : Nat) : Int) := (Int.natCast_pow 2 _).symm
  have p := Nat.pow_le_pow_right (n := 2) (by decide) o3
  have p24 : (2 : Nat) ^ 24 = 16777216 := by decide
  rw [e179, b179_0]
  simp only [TbS_ok hT, SyS_ok hS.1, hS.2.1, true_and, true_or, or_true, rI_s, shl1 (show S.length < 32 by omega), isSe, e2]
  generalize 2 ^ S.length = G at *
  by_cases c : z < 0
  · rw [if_pos (by rw [show ii 0 = ii (0 : Int) from rfl, ii_lt hz.1 hz.2 (by omega) (by omega)]; exact c), if_neg (by omega)]
  · rw [if_neg (by rw [show ii 0 = ii (0 : Int) from rfl, ii_lt hz.1 hz.2 (by omega) (by omega)]; exact c)]
    by_cases c2 : z < (G : Nat)
    · rw [if_neg (by rw [ii_le (by omega) (by omega) hz.1 hz.2]; omega), if_pos ⟨by omega, c2⟩]
    · rw [if_pos (by rw [ii_le (by omega) (by omega) hz.1 hz.2]; omega), if_neg (by omega)]
theorem c180 {K : Int32 → mHeap → Prop} {k : Nat} (hk : k < 1000) (hz : i32 z) : GoCi (d + 1) 180 [.int (ii z), .int (ii k)] h K ↔ K (if 0 ≤ z ∧ z < k then ii 1 else ii 0) h := by
  rw [e180, b180_0]
  simp only [true_and, true_or, or_true, rI_s]
  by_cases c : z < 0
  · rw [if_pos (by rw [show ii 0 = ii (0 : Int) from rfl, ii_lt hz.1 hz.2 (by omega) (by omega)]; exact c), if_neg (by omega)]
  · rw [if_neg (by rw [show ii 0 = ii (0 : Int) from rfl, ii_lt hz.1 hz.2 (by omega) (by omega)]; exact c)]
    by_cases c2 : z < k
    · rw [if_neg (by rw [ii_le (by omega) (by omega) hz.1 hz.2]; omega), if_pos ⟨by omega, c2⟩]
    · rw [if_pos (by rw [ii_le (by omega) (by omega) hz.1 hz.2]; omega), if_neg (by omega)]
theorem c181 {K : Int32 → mHeap → Prop} {p : Prop} [Decidable p] : GoCi (d + 1) 181 [.int (if p then ii 1 else ii 0)] h K ↔ K (ii (if p then 1 else 0)) h := by
  rw [e181, b181_0]
  simp only [rI_s]
  by_cases c : p
  · rw [if_pos c, if_neg (by decide), if_pos c]
  · rw [if_neg c, if_pos rfl, if_neg c]
theorem c181P {K : Int32 → mHeap → Prop} {p : Prop} : GoCi (d + 1) 181 [.int (bP p)] h K ↔ K (ii (@ite _ p (Classical.propDecidable _) 1 0)) h := by
  rw [e181, b181_0]
  simp only [rI_s]
  by_cases c : p
  · rw [if_neg (fun g => bP_n.mpr c g), if_pos c]
  · rw [if_pos (bP_0.mpr c), if_neg c]
theorem c174 {K : Int32 → mHeap → Prop} (hT : TbS h) (hP : PgR h 97 P) (hz : i32 z) : GoCi (d + 2) 174 [.ref 64, .int (ii z)] h K ↔ K (if isUpp P z then ii 1 else ii 0) h := by
  have M := (pg_106 hP).2.1
  have f1 := (pg_106 hP).1
  have o3 := hP.2.2.1.2.2.1
  rw [e174, b174_0, c173 hT hP hz]
  simp only [TbS_ok hT, true_and, true_or, or_true, rI_s, PgS_okF hP.1, f1, MoS_okF M.1]
  by_cases c : isPe P z
  · rw [if_pos c, if_neg (by decide)]
    obtain ⟨n, rfl⟩ : ∃ n : Nat, z = n := ⟨z.toNat, by omega⟩
    rw [c49 M (by omega)]
    by_cases c2 : mo_l (pg_m P) n = true
    · rw [if_pos c2, if_pos (by decide), if_neg (fun g => by have := g.2; rw [Int.toNat_natCast, c2] at this; exact absurd this (by decide))]
    · rw [if_neg c2, if_neg (by simp), if_pos ⟨c, by rw [Int.toNat_natCast]; simpa using c2⟩]
  · rw [if_neg c, if_pos rfl, if_neg (fun g => c g.1)]
theorem c175 {K : Int32 → mHeap → Prop} (hT : TbS h) (hP : PgR h 97 P) (hz : i32 z) : GoCi (d + 2) 175 [.ref 64, .int (ii z)] h K ↔ K (if isHo P z then ii 1 else ii 0) h := by
  have oc : oC h 64 = 11 := oC_kd hT
  rw [e175, b175_0]
  simp only [TbS_ok hT, true_and, true_or, or_true, rI_s, PgS_okF hP.1]
  rw [c54 hP]
  by_cases c0 : 0 < ld_n (pg_l P)
  rotate_left
  · rw [if_neg c0, if_pos rfl, if_neg (fun g => c0 g.1)]
  rw [if_pos c0, if_neg (by decide)]
  by_cases c1 : z = -1
  · rw [if_pos (by rw [c1]), if_pos ⟨c0, Or.inl c1⟩]
  · rw [if_neg (by rw [show ii (-1) = ii (-1 : Int) from rfl, ii_eq hz.1 hz.2 (by omega) (by omega)]; exact c1)]
    rw [c173 hT hP hz]
    by_cases c2 : isPe P z
    · rw [if_pos c2, if_neg (by decide), if_pos ⟨c0, Or.inr c2⟩]
      exact and_iff_right oc
    · rw [if_neg c2, if_pos rfl, if_neg (fun g => by rcases g.2 with q | q; exact c1 q; exact c2 q)]
      exact and_iff_right oc
theorem c177 {K : Int32 → mHeap → Prop} (hT : TbS h) (hP : PgR h 97 P) (hz : i32 z) : GoCi (d + 2) 177 [.ref 64, .int (ii z)] h K ↔ K (if isWo P z then ii 1 else ii 0) h := by
  have L := hP.2.1
  have o3 := hP.2.2.1.1
  have e2 : ((2 : Int) ^ ld_n (pg_l P)) = ((2 ^ ld_n (pg_l P) : Nat) : Int) := (Int.natCast_pow 2 _).symm
  have p := pow_le o3
  rw [e177, b177_0]
  simp only [TbS_ok hT, true_and, true_or, or_true, rI_s, PgS_okF hP.1, isWo, e2]
  rw [c54 hP]
  simp only [TbS_ok hT, PgS_okF hP.1, LaS_ok L.1, L.2.1, true_and, shl1 (show ld_n (pg_l P) < 32 by omega)]
  generalize 2 ^ ld_n (pg_l P) = G at *
  by_cases c0 : 0 < ld_n (pg_l P)
  rotate_left
  · rw [if_neg c0, if_pos rfl, if_neg (fun g => c0 g.1)]
  rw [if_pos c0, if_neg (by decide)]
  by_cases c : z < 0
  · rw [if_pos (by rw [show ii 0 = ii (0 : Int) from rfl, ii_lt hz.1 hz.2 (by omega) (by omega)]; exact c), if_neg (by omega)]
  · rw [if_neg (by rw [show ii 0 = ii (0 : Int) from rfl, ii_lt hz.1 hz.2 (by omega) (by omega)]; exact c)]
    by_cases c2 : z < (G : Nat)
    · rw [if_neg (by rw [ii_le (by omega) (by omega) hz.1 hz.2]; omega), if_pos ⟨c0, by omega, c2⟩]
    · rw [if_pos (by rw [ii_le (by omega) (by omega) hz.1 hz.2]; omega), if_neg (by omega)]
end Pb
