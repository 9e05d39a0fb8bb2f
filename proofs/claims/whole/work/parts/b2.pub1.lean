/-! WHAT ONE CALLS: what is asked -/
def bt (b : Bool) : Int := if b = true then 1 else 0
def vFact (P : Pg) (z : Int) : Int := if 0 ≤ z ∧ z < ld_n (pg_l P) then bt ((mo_f (pg_m P)).testBit z.toNat) else -1
def vPlace (P : Pg) (z : Int) : Int := if isPl P z then ((ld_p (pg_l P)).getD z.toNat 0 : Nat) else -1
def vWay (P : Pg) (y z : Int) : Int := if isPl P y ∧ isPl P z then (if 1000 ≤ wy (pg_l P) (6 * y.toNat + z.toNat) then -2 else (wy (pg_l P) (6 * y.toNat + z.toNat) : Nat)) else -1
def vSo (P : Pg) (S : List Wd) (s w : Int) : Int := if isSa S s ∧ isWo P w then bt (sy S s.toNat w.toNat) else -1
def vTrue (P : Pg) (S : List Wd) (s : Int) : Int := if isSa S s ∧ 0 < ld_n (pg_l P) then bt (sy S s.toNat (mo_f (pg_m P))) else -1
noncomputable def vKnows (P : Pg) (S : List Wd) (q s : Int) : Int := if isHo P q ∧ isSa S s then knI (mo_w (pg_m P) (q + 1).toNat) (sy S s.toNat) else -2
def vPoss (P : Pg) (q w : Int) : Int := if isHo P q ∧ isWo P w then bt (mo_w (pg_m P) (q + 1).toNat w.toNat) else -2
def vGain (P : Pg) (S : List Wd) (s : Int) : Int := if isSa S s ∧ 0 < ld_n (pg_l P) then (gainW (mo_w (pg_m P) 0) (sy S s.toNat) : Nat) else -1
noncomputable def fstW (w : Wd) : Int := Classical.choose (isFst_ex w 256)
noncomputable def vShown (P : Pg) (S : List Wd) (s : Int) : Int := if isSa S s ∧ 0 < ld_n (pg_l P) then fstW (fun i => mo_w (pg_m P) 0 i && !sy S s.toNat i) else -1
section Pb1
variable {d : Nat} {h : mHeap} {P : Pg} {S : List Wd} {y z : Int}
theorem if_bt {b : Bool} {K : Int32 → Prop} : K (ii (if b = true then 1 else 0)) ↔ K (ii (bt b)) := Iff.rfl
/-- fact -/
theorem c141 {K : Int32 → mHeap → Prop} (hT : TbS h) (hP : PgR h 97 P) (hm : mo_f (pg_m P) < 256) (hz : i32 z) : GoCi (d + 1) 141 [.ref 64, .int (ii z)] h K ↔ K (ii (vFact P z)) h := by
  obtain ⟨f1, M, L, ok⟩ := pg_106 hP
  have o1 := ok.1
  rw [e141, b141_0]
  simp only [TbS_ok hT, PgS_okF hP.1, LaS_ok L.1, L.2.1, f1, MoS_okF M.1, M.2.2.1, true_and, rI_s]
  unfold vFact
  by_cases c : z < 0
  · rw [if_pos (by rw [show ii 0 = ii (0 : Int) from rfl, ii_lt hz.1 hz.2 (by omega) (by omega)]; exact c), if_neg (by omega)]
  · rw [if_neg (by rw [show ii 0 = ii (0 : Int) from rfl, ii_lt hz.1 hz.2 (by omega) (by omega)]; exact c)]
    by_cases c2 : z < ld_n (pg_l P)
    · obtain ⟨n, rfl⟩ : ∃ n : Nat, z = n := ⟨z.toNat, by omega⟩
      rw [if_pos (by rw [ii_lt (by omega) (by omega) (by omega) (by omega)]; omega), if_pos ⟨by omega, c2⟩, bit_n (by omega) (by omega), Int.toNat_natCast]
      rfl
    · rw [if_neg (by rw [ii_lt hz.1 hz.2 (by omega) (by omega)]; omega), if_neg (by omega)]
/-- place -/
theorem c142 {K : Int32 → mHeap → Prop} (hT : TbS h) (hP : PgR h 97 P) (hz : i32 z) : GoCi (d + 2) 142 [.ref 64, .int (ii z)] h K ↔ K (ii (vPlace P z)) h := by
  have L := hP.2.1
  have o3 := hP.2.2.1.2.2.2.1
  rw [e142, b142_0, c176 hT hP hz]
  simp only [TbS_ok hT, PgS_okF hP.1, LaS_ok L.1, LaS_fR L.1, true_and, rI_s]
  unfold vPlace
  by_cases c : isPl P z
  · rw [if_pos c, if_neg (by decide), if_pos c]
    obtain ⟨n, rfl⟩ : ∃ n : Nat, z = n := ⟨z.toNat, by omega⟩
    have r := row_ok L.1.2.2.2.2.2.1 (show n < 6 by omega) (by omega)
    simp only [r, true_and, L.2.2.2.2.2.2.2.2.2.1 n (by omega), Int.toNat_natCast]
  · rw [if_neg c, if_pos rfl, if_neg c]
theorem pl_n0 (ok : LdOk (pg_l P)) (c : isPl P z) : 0 < ld_n (pg_l P) := by
  have := (ld_p_lt ok (show z.toNat < (ld_p (pg_l P)).length by omega)).2
  omega
/-- way -/
theorem c143 {K : Int32 → mHeap → Prop} (hT : TbS h) (hP : PgR h 97 P) (hy : i32 y) (hz : i32 z) : GoCi (d + 2) 143 [.ref 64, .int (ii y), .int (ii z)] h K ↔ K (ii (vWay P y z)) h := by
  have L := hP.2.1
  have o3 := hP.2.2.1.2.2.2.1
  have oc : oC h 64 = 11 := oC_kd hT
  rw [e143, b143_0, c176 hT hP hy]
  simp only [TbS_ok hT, PgS_okF hP.1, LaS_ok L.1, true_and, rI_s]
  unfold vWay
  by_cases c : isPl P y
  rotate_left
  · rw [if_neg c, if_pos rfl, if_neg (fun g => c g.1)]
  rw [if_pos c, if_neg (by decide), c176 hT hP hz]
  by_cases c2 : isPl P z
  rotate_left
  · rw [if_neg c2, if_neg (by simp), if_neg (fun g => c2 g.2)]
  rw [if_pos c2, if_pos (by decide), if_pos ⟨c, c2⟩]
  have n0 := pl_n0 hP.2.2.1 c
  obtain ⟨n, rfl⟩ : ∃ n : Nat, y = n := ⟨y.toNat, by omega⟩
  obtain ⟨m, rfl⟩ : ∃ n : Nat, z = n := ⟨z.toNat, by omega⟩
  simp only [TbS_ok hT, PgS_okF hP.1, LaS_ok L.1, true_and]
  rw [c41 L n0 (by omega) (by omega), Int.toNat_natCast, Int.toNat_natCast]
  have w := wy_le (pg_l P) (6 * n + m)
  by_cases g : 1000 ≤ wy (pg_l P) (6 * n + m)
  · rw [if_pos (by rw [show ii 1000 = ii (1000 : Int) from rfl, ii_le (by omega) (by omega) (by omega) (by omega)]; omega), if_pos g]
  · rw [if_neg (by rw [show ii 1000 = ii (1000 : Int) from rfl, ii_le (by omega) (by omega) (by omega) (by omega)]; omega), if_neg g]
theorem wo_lt (ok : LdOk (pg_l P)) (c : isWo P z) : z.toNat < 256 := by
  have p := pow_le ok.1
  have e2 : ((2 : Int) ^ ld_n (pg_l P)) = ((2 ^ ld_n (pg_l P) : Nat) : Int) := (Int.natCast_pow 2 _).symm
  have := c.2.2
  rw [e2] at this
  omega
theorem bP_bt {b : Bool} : (@ite Int (b = true) (Classical.propDecidable _) 1 0) = bt b := by
  unfold bt
  by_cases c : b = true
  · rw [if_pos c, if_pos c]
  · rw [if_neg c, if_neg c]
/-- so -/
theorem c144 {K : Int32 → mHeap → Prop} (hT : TbS h) (hP : PgR h 97 P) (hS : SyR h S) (hy : i32 y) (hz : i32 z) : GoCi (d + 3) 144 [.ref 64, .int (ii y), .int (ii z)] h K ↔ K (ii (vSo P S y z)) h := by
  have o3 := hS.2.2.1
  rw [e144, b144_0, c178 hT hS hy]
  simp only [TbS_ok hT, true_and, rI_s]
  unfold vSo
  by_cases c : isSa S y
  rotate_left
  · rw [if_neg c, if_pos rfl, if_neg (fun g => c g.1)]
  rw [if_pos c, if_neg (by decide), c177 hT hP hz]
  by_cases c2 : isWo P z
  rotate_left
  · rw [if_neg c2, if_neg (by simp), if_neg (fun g => c2 g.2)]
  rw [if_pos c2, if_pos (by decide), if_pos ⟨c, c2⟩]
  have w := wo_lt hP.2.2.1 c2
  obtain ⟨n, rfl⟩ : ∃ n : Nat, y = n := ⟨y.toNat, by omega⟩
  obtain ⟨m, rfl⟩ : ∃ n : Nat, z = n := ⟨z.toNat, by omega⟩
  have r := SyS_row hS.1 (show n < 24 by omega)
  have wr := hS.1.2.2.2.1 n (by omega)
  simp only [TbS_ok hT, SyS_ok hS.1, r, true_and, W_ok wr, Int.toNat_natCast] at w ⊢
  rw [c130 wr w, hS.2.2.2 n (by omega), c181P, bP_bt]
/-- isTrue -/
theorem c145 {K : Int32 → mHeap → Prop} (hT : TbS h) (hP : PgR h 97 P) (hS : SyR h S) (hm : mo_f (pg_m P) < 256) (hy : i32 y) : GoCi (d + 3) 145 [.ref 64, .int (ii y)] h K ↔ K (ii (vTrue P S y)) h := by
  obtain ⟨f1, M, L, ok⟩ := pg_106 hP
  have o3 := hS.2.2.1
  rw [e145, b145_0, c178 hT hS hy]
  simp only [TbS_ok hT, PgS_okF hP.1, true_and, rI_s]
  unfold vTrue
  by_cases c : isSa S y
  rotate_left
  · rw [if_neg c, if_pos rfl, if_neg (fun g => c g.1)]
  rw [if_pos c, if_neg (by decide), c54 hP]
  by_cases c2 : 0 < ld_n (pg_l P)
  rotate_left
  · rw [if_neg c2, if_neg (by simp), if_neg (fun g => c2 g.2)]
  rw [if_pos c2, if_pos (by decide), if_pos ⟨c, c2⟩]
  obtain ⟨n, rfl⟩ : ∃ n : Nat, y = n := ⟨y.toNat, by omega⟩
  have r := SyS_row hS.1 (show n < 24 by omega)
  have wr := hS.1.2.2.2.1 n (by omega)
  simp only [TbS_ok hT, SyS_ok hS.1, PgS_okF hP.1, r, true_and, W_ok wr, f1, MoS_okF M.1, M.2.2.1, Int.toNat_natCast]
  rw [c130 wr hm, hS.2.2.2 n (by omega), c181P, bP_bt]
theorem ho_i (ok : LdOk (pg_l P)) (c : isHo P z) : z + 1 = ((z + 1).toNat : Nat) ∧ (z + 1).toNat < 7 := by
  have := ok.2.2.1
  rcases c.2 with g | g <;> omega
/-- knows -/
theorem c146 {K : Int32 → mHeap → Prop} (hT : TbS h) (hP : PgR h 97 P) (hS : SyR h S) (hy : i32 y) (hz : i32 z) : GoCi (d + 3) 146 [.ref 64, .int (ii y), .int (ii z)] h K ↔ K (ii (vKnows P S y z)) h := by
  obtain ⟨f1, M, L, ok⟩ := pg_106 hP
  have o3 := hS.2.2.1
  rw [e146, b146_0, c175 hT hP hy]
  simp only [TbS_ok hT, true_and, rI_s]
  unfold vKnows
  by_cases c : isHo P y
  rotate_left
  · rw [if_neg c, if_pos rfl, if_neg (fun g => c g.1)]
  rw [if_pos c, if_neg (by decide), c178 hT hS hz]
  by_cases c2 : isSa S z
  rotate_left
  · rw [if_neg c2, if_neg (by simp), if_neg (fun g => c2 g.2)]
  rw [if_pos c2, if_pos (by decide), if_pos ⟨c, c2⟩]
  have hi := ho_i ok c
  obtain ⟨n, rfl⟩ : ∃ n : Nat, z = n := ⟨z.toNat, by omega⟩
  have r := SyS_row hS.1 (show n < 24 by omega)
  have wr := hS.1.2.2.2.1 n (by omega)
  have wh := M.1.2.2.2.2.2 _ hi.2
  simp only [TbS_ok hT, PgS_okF hP.1, f1, MoS_okF M.1, true_and]
  rw [c46 M.1 hi.1 hi.2]
  simp only [TbS_ok hT, SyS_ok hS.1, r, true_and]
  refine (and_iff_right (W_oC wh)).trans ?_
  rw [c128 wh wr, hS.2.2.2 n (by omega), M.2.2.2.2.2.2 _ hi.2, c181P, Int.toNat_natCast]
  rfl
/-- possible -/
theorem c147 {K : Int32 → mHeap → Prop} (hT : TbS h) (hP : PgR h 97 P) (hy : i32 y) (hz : i32 z) : GoCi (d + 3) 147 [.ref 64, .int (ii y), .int (ii z)] h K ↔ K (ii (vPoss P y z)) h := by
  obtain ⟨f1, M, L, ok⟩ := pg_106 hP
  rw [e147, b147_0, c175 hT hP hy]
  simp only [TbS_ok hT, true_and, rI_s]
  unfold vPoss
  by_cases c : isHo P y
  rotate_left
  · rw [if_neg c, if_pos rfl, if_neg (fun g => c g.1)]
  rw [if_pos c, if_neg (by decide), c177 hT hP hz]
  by_cases c2 : isWo P z
  rotate_left
  · rw [if_neg c2, if_neg (by simp), if_neg (fun g => c2 g.2)]
  rw [if_pos c2, if_pos (by decide), if_pos ⟨c, c2⟩]
  have hi := ho_i ok c
  have w := wo_lt ok c2
  obtain ⟨n, rfl⟩ : ∃ n : Nat, z = n := ⟨z.toNat, by omega⟩
  have wh := M.1.2.2.2.2.2 _ hi.2
  simp only [TbS_ok hT, PgS_okF hP.1, f1, MoS_okF M.1, true_and, Int.toNat_natCast] at w ⊢
  rw [c46 M.1 hi.1 hi.2]
  refine (and_iff_right (W_oC wh)).trans ?_
  rw [c130 wh w, M.2.2.2.2.2.2 _ hi.2, c181P, bP_bt]
/-- gain -/
theorem c148 {K : Int32 → mHeap → Prop} (hT : TbS h) (hP : PgR h 97 P) (hS : SyR h S) (hy : i32 y) : GoCi (d + 3) 148 [.ref 64, .int (ii y)] h K ↔ K (ii (vGain P S y)) h := by
  obtain ⟨f1, M, L, ok⟩ := pg_106 hP
  have o3 := hS.2.2.1
  rw [e148, b148_0, c178 hT hS hy]
  simp only [TbS_ok hT, PgS_okF hP.1, true_and, rI_s]
  unfold vGain
  by_cases c : isSa S y
  rotate_left
  · rw [if_neg c, if_pos rfl, if_neg (fun g => c g.1)]
  rw [if_pos c, if_neg (by decide), c54 hP]
  by_cases c2 : 0 < ld_n (pg_l P)
  rotate_left
  · rw [if_neg c2, if_neg (by simp), if_neg (fun g => c2 g.2)]
  rw [if_pos c2, if_pos (by decide), if_pos ⟨c, c2⟩]
  obtain ⟨n, rfl⟩ : ∃ n : Nat, y = n := ⟨y.toNat, by omega⟩
  have r := SyS_row hS.1 (show n < 24 by omega)
  have wr := hS.1.2.2.2.1 n (by omega)
  have wh := M.1.2.2.2.2.2 0 (by decide)
  simp only [TbS_ok hT, PgS_okF hP.1, f1, MoS_okF M.1, true_and]
  rw [c46 M.1 (i := 0) (by decide) (by decide)]
  simp only [TbS_ok hT, SyS_ok hS.1, r, true_and]
  refine (and_iff_right (W_oC wh)).trans ?_
  rw [c127 wh wr, hS.2.2.2 n (by omega), M.2.2.2.2.2.2 0 (by decide), Int.toNat_natCast]
  rfl
/-- shown -/
theorem c149 {K : Int32 → mHeap → Prop} (hT : TbS h) (hP : PgR h 97 P) (hS : SyR h S) (hy : i32 y) : GoCi (d + 4) 149 [.ref 64, .int (ii y)] h K ↔ K (ii (vShown P S y)) h := by
  obtain ⟨f1, M, L, ok⟩ := pg_106 hP
  have o3 := hS.2.2.1
  rw [e149, b149_0, c178 hT hS hy]
  simp only [TbS_ok hT, PgS_okF hP.1, true_and, rI_s]
  unfold vShown
  by_cases c : isSa S y
  rotate_left
  · rw [if_neg c, if_pos rfl, if_neg (fun g => c g.1)]
  rw [if_pos c, if_neg (by decide), c54 hP]
  by_cases c2 : 0 < ld_n (pg_l P)
  rotate_left
  · rw [if_neg c2, if_neg (by simp), if_neg (fun g => c2 g.2)]
  rw [if_pos c2, if_pos (by decide), if_pos ⟨c, c2⟩]
  obtain ⟨n, rfl⟩ : ∃ n : Nat, y = n := ⟨y.toNat, by omega⟩
  have r := SyS_row hS.1 (show n < 24 by omega)
  have wr := hS.1.2.2.2.1 n (by omega)
  have wh := M.1.2.2.2.2.2 0 (by decide)
  simp only [TbS_ok hT, PgS_okF hP.1, f1, MoS_okF M.1, true_and]
  rw [c46 M.1 (i := 0) (by decide) (by decide)]
  simp only [TbS_ok hT, SyS_ok hS.1, r, true_and]
  refine (and_iff_right (W_oC wh)).trans ?_
  rw [Int.toNat_natCast]
  refine c131 wh wr ?_
  rw [hS.2.2.2 n (by omega), M.2.2.2.2.2.2 0 (by decide)]
  exact Classical.choose_spec (isFst_ex _ 256)
end Pb1
