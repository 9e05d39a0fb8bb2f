/-! WHAT ONE CALLS: what is worked out -/
noncomputable def bq (p : Prop) : Int := @ite Int p (Classical.propDecidable _) 1 0
noncomputable def vPerson (P : Pg) (q w : Int) : Int := if isPe P q then (if w = 0 then bt (mo_s (pg_m P) q.toNat) else if w = 1 then ((la_q (pg_l P) q.toNat).2.1 : Int) else if w = 2 then ((la_q (pg_l P) q.toNat).2.2.2 : Int) else if w = 3 then (mo_h (pg_m P) q.toNat : Int) else if w = 4 then bt (mo_l (pg_m P) q.toNat) else if w = 5 then (cB (mo_w (pg_m P) (q.toNat + 1)) 256 : Int) else if w = 6 then (stl (mo_w (pg_m P) (q.toNat + 1)) (ld_n (pg_l P)) : Int) else -1) else -1
noncomputable def vFollows (P : Pg) (S : List Wd) (z s : Int) : Int := if (isSe S z ∧ isSa S s) ∧ 0 < ld_n (pg_l P) then bq (flw (ld_n (pg_l P)) S z.toNat s.toNat) else -1
def vFewest (P : Pg) (S : List Wd) (z s r : Int) : Prop := if ((isSe S z ∧ isSa S s) ∧ 0 < ld_n (pg_l P)) ∧ bc z.toNat ≤ 12 then (flw (ld_n (pg_l P)) S z.toNat s.toNat → ∃ T : Nat, FewIs (ld_n (pg_l P)) S z.toNat s.toNat T ∧ r = T) ∧ (¬ flw (ld_n (pg_l P)) S z.toNat s.toNat → r = -2) else r = -1
noncomputable def vOpp (P : Pg) (S : List Wd) (s t : Int) : Int := if (isSa S s ∧ isSa S t ∧ ¬ s = t) ∧ 0 < ld_n (pg_l P) then bq (dis (fun w => allW (ld_n (pg_l P)) w && sy S s.toNat w) (sy S t.toNat)) else -1
def vWhen (P : Pg) (S : List Wd) (s day : Int) : Int := if (isSa S s ∧ 0 ≤ day ∧ day ≤ 9999) ∧ 0 < ld_n (pg_l P) then whA (pg_l P) (pg_m P) (sy S s.toNat) day.toNat else -1
noncomputable def vLeast (P : Pg) (S : List Wd) (q w : Int) : Int := if isPe P q ∧ 0 ≤ w ∧ w < 2 then lsA S P q.toNat w.toNat else -1
noncomputable def vPlan (P : Pg) (S : List Wd) (sd w : Int) : Int := if ((0 ≤ sd ∧ sd < 2) ∧ 0 ≤ w ∧ w < 9) ∧ 0 < ld_n (pg_l P) then plA S P (decide (sd = 1)) w.toNat else -1
noncomputable def vWalk (P : Pg) (S : List Wd) (q w : Int) : Int := if isPe P q ∧ 0 ≤ w ∧ w < 2 then wkA S P q.toNat w.toNat else -1
noncomputable def vBought (P : Pg) (S : List Wd) (q w : Int) : Int := if isPe P q ∧ 0 ≤ w ∧ w < 2 then bgA S P q.toNat w.toNat else -1
noncomputable def vSets (P : Pg) (S : List Wd) (w : Int) : Int := if (0 ≤ w ∧ w < 3) ∧ 0 < ld_n (pg_l P) then (stA (pgn P) S (pg_t P) w.toNat : Int) else -1
noncomputable def vNext (P : Pg) (S : List Wd) (w : Int) : Int := if (0 ≤ w ∧ w < 2) ∧ 0 < ld_n (pg_l P) then btA (pgn P) S (pg_t P) w.toNat else -1
def vYears (P : Pg) (S : List Wd) (y n w : Int) : Int := if ((1 ≤ y ∧ y ≤ 10) ∧ (1 ≤ n ∧ n ≤ 60) ∧ 0 ≤ w ∧ w < 3) ∧ 0 < ld_n (pg_l P) then (drA (pg_l P) S (pg_m P) (pg_x P) y.toNat n.toNat w.toNat : Int) else -1
def vLand (P : Pg) (w : Int) : Int := if w = 0 then (ld_n (pg_l P) : Int) else if w = 1 then (mo_f (pg_m P) : Int) else if w = 2 then ((ld_q (pg_l P)).length : Int) else if w = 3 then ((ld_p (pg_l P)).length : Int) else if w = 4 then ((ld_w (pg_l P)).length : Int) else if w = 5 then ((ld_t (pg_l P)).length : Int) else -1
def vCount (s : Cs) (w : Int) : Int := if w = 6 then ((cs_S s).length : Int) else if w = 7 then ((cs_C s).length : Int) else if w = 8 then (mo_d (pg_m (cs_P s)) : Int) else if w = 9 then (if 0 < ld_n (pg_l (cs_P s)) then (cB (mo_w (pg_m (cs_P s)) 0) 256 : Int) else -1) else if w = 10 then ((pg_t (cs_P s)).length : Int) else if w = 11 then ((pg_u (cs_P s)).length : Int) else if w = 12 then (pg_x (cs_P s) : Int) else if w = 13 then (cs_n s : Int) else vLand (cs_P s) w
section Pb2
variable {d : Nat} {h : mHeap} {s : Cs} {x y z : Int}
theorem DyQ_ci (hC : CI h s) : DyQ h (fR h 97 0) (pg_l (cs_P s)) := by
  obtain ⟨_, _, ⟨c1, _, _⟩, ⟨_, _, d3, d4, d5⟩, _, _⟩ := hC
  exact ⟨d3, d4, d5.S, c1.1.2.1, c1.2.1, c1.2.2.1⟩
theorem PgLo_ci (hC : CI h s) : PgLo h 97 := by
  obtain ⟨_, _, ⟨_, _, c3⟩, _, _, _⟩ := hC
  exact ⟨Nat.le_refl _, by rcases c3.1 with g | g <;> omega, fun i b hi hb => by have := c3.2 i b hi hb; omega⟩
theorem i32_eq (hx : i32 x) (k : Nat) (hk : k < 2147483648) : (ii x = ii (k : Int)) ↔ x = k := ii_eq hx.1 hx.2 (by omega) (by omega)
theorem ci_S24 (hC : CI h s) : (cs_S s).length ≤ 24 := hC.2.1.1.2.2.1
theorem se_lt {S : List Wd} (e : S.length ≤ 24) (c : isSe S z) : z.toNat < 16777216 ∧ z.toNat < 2 ^ S.length := by
  have p := p2_le e
  have e2 : ((2 : Int) ^ S.length) = ((2 ^ S.length : Nat) : Int) := (Int.natCast_pow 2 _).symm
  have := c.2
  rw [e2] at this p
  have := Nat.pow_le_pow_right (show 0 < 2 by decide) e
  omega
/-- person -/
theorem c140 {K : Int32 → mHeap → Prop} (hC : CI h s) (hx : i32 x) (hy : i32 y) (hK : ∀ h1, Nx h h1 s → K (ii (vPerson (cs_P s) x y)) h1) : GoCi (d + 4) 140 [.ref 64, .int (ii x), .int (ii y)] h K := by
  have r0 := hK h (Nx.rf hC)
  obtain ⟨⟨a1, hT, _⟩, _, ⟨hP, hI, _⟩, _⟩ := id hC
  obtain ⟨f1, M, L, ok⟩ := pg_106 hP
  have o3 := ok.2.2.1
  rw [e140, b140_0, c173 hT hP hx]
  simp only [TbS_ok hT, PgS_okF hP.1, true_and, rI_s]
  by_cases c : isPe (cs_P s) x
  rotate_left
  · rw [if_neg c, if_neg (by simp)]
    rw [show vPerson (cs_P s) x y = -1 from if_neg c] at r0
    exact r0
  rw [if_pos c, if_pos (by decide)]
  obtain ⟨q, rfl⟩ : ∃ n : Nat, x = n := ⟨x.toNat, by omega⟩
  have hq : q < (ld_q (pg_l (cs_P s))).length := by omega
  have ev : ∀ w : Int, vPerson (cs_P s) (q : Nat) w = _ := fun w => if_pos c
  rw [ev, Int.toNat_natCast] at r0
  have E : ∀ k : Nat, k < 2147483648 → ((ii y = ii k) ↔ y = k) := fun k hk => i32_eq hy k hk
  have E0 : (ii y = ii 0) ↔ y = 0 := E 0 (by decide)
  have E1 : (ii y = ii 1) ↔ y = 1 := E 1 (by decide)
  have E2 : (ii y = ii 2) ↔ y = 2 := E 2 (by decide)
  have E3 : (ii y = ii 3) ↔ y = 3 := E 3 (by decide)
  have E4 : (ii y = ii 4) ↔ y = 4 := E 4 (by decide)
  have E5 : (ii y = ii 5) ↔ y = 5 := E 5 (by decide)
  have E6 : (ii y = ii 6) ↔ y = 6 := E 6 (by decide)
  simp only [E0, E1, E2, E3, E4, E5, E6]
  have r1 := row_ok L.1.2.2.2.1 (show q < 6 by omega) (by omega)
  have r2 := row_ok L.1.2.2.2.2.1 (show q < 6 by omega) (by omega)
  have r3 := row_ok M.1.2.2.1 (show q < 6 by omega) (by omega)
  have v1 := L.2.2.2.2.2.2.2.2.1 q hq
  have v3 := M.2.2.2.2.2.1 q (by omega)
  have W := M.1.2.2.2.2.2 (q + 1) (by omega)
  have w1 := M.2.2.2.2.2.2 (q + 1) (by omega)
  by_cases k0 : y = 0
  · rw [if_pos k0] at r0 ⊢
    exact ⟨(MoS_okF M.1).2.2.2.2.2.2.2.2, (c48 (d := d + 2) M (by omega)).2 r0⟩
  rw [if_neg k0] at r0 ⊢
  by_cases k1 : y = 1
  · rw [if_pos k1] at r0 ⊢
    simp only [LaS_ok L.1, LaS_fR L.1, r1, v1, true_and]
    exact r0
  rw [if_neg k1] at r0 ⊢
  by_cases k2 : y = 2
  · rw [if_pos k2] at r0 ⊢
    simp only [LaS_ok L.1, LaS_fR L.1, r2, v1, true_and]
    exact r0
  rw [if_neg k2] at r0 ⊢
  by_cases k3 : y = 3
  · rw [if_pos k3] at r0 ⊢
    simp only [show (97 + 9 : Nat) = 106 from rfl, MoS_okF M.1, r3, v3, true_and]
    exact r0
  rw [if_neg k3] at r0 ⊢
  by_cases k4 : y = 4
  · rw [if_pos k4] at r0 ⊢
    refine ⟨(MoS_okF M.1).2.2.2.2.2.2.2.2, (c49 (d := d + 2) M (by omega)).2 ?_⟩
    rw [c181]
    exact r0
  rw [if_neg k4] at r0 ⊢
  by_cases k5 : y = 5
  · rw [if_pos k5] at r0 ⊢
    refine ⟨(MoS_okF M.1).2.2.2.2.2.2.2.2, (c46 (d := d + 2) M.1 (i := q + 1) (by omega) (by omega)).2 ⟨W_oC W, ?_⟩⟩
    rw [c126 W, w1]
    exact r0
  rw [if_neg k5] at r0 ⊢
  by_cases k6 : y = 6
  · rw [if_pos k6]
    refine ⟨(MoS_okF M.1).2.2.2.2.2.2.2.2, (c46 (d := d + 2) M.1 (i := q + 1) (by omega) (by omega)).2 ?_⟩
    simp only [TbS_ok hT, PgS_okF hP.1, LaS_ok L.1, L.2.1, true_and]
    refine ⟨W_oC W, c133 a1 W ok.1 (fun h1 g1 g2 g3 => ?_)⟩
    have := hK h1 (hC.gr (n := 1) (m := 4) ⟨by omega, by omega, by omega, by omega⟩ g3 (by decide) (by decide))
    rw [ev, k6, Int.toNat_natCast] at this
    rw [w1]
    exact this
  rw [if_neg k6] at r0 ⊢
  exact r0
theorem bP_bq {p : Prop} : (@ite Int p (Classical.propDecidable _) 1 0) = bq p := rfl
/-- follows -/
theorem c156 {K : Int32 → mHeap → Prop} (hC : CI h s) (hx : i32 x) (hy : i32 y) (hK : ∀ h1, Nx h h1 s → K (ii (vFollows (cs_P s) (cs_S s) x y)) h1) : GoCi (d + 5) 156 [.ref 64, .int (ii x), .int (ii y)] h K := by
  have r0 := hK h (Nx.rf hC)
  obtain ⟨⟨a1, hT, _⟩, ⟨hS, _⟩, ⟨hP, hI, _⟩, _⟩ := id hC
  obtain ⟨f1, M, L, ok⟩ := pg_106 hP
  have l24 := ci_S24 hC
  rw [e156, b156_0, c179 hT hS hx]
  simp only [TbS_ok hT, true_and, rI_s]
  unfold vFollows at r0
  by_cases c : isSe (cs_S s) x
  rotate_left
  · rw [if_neg c, if_pos rfl]
    rw [if_neg (fun g => c g.1.1)] at r0
    exact r0
  rw [if_pos c, if_neg (by decide), c178 hT hS hy]
  by_cases c2 : isSa (cs_S s) y
  rotate_left
  · rw [if_neg c2, if_pos rfl]
    rw [if_neg (fun g => c2 g.1.2)] at r0
    exact r0
  rw [if_pos c2, if_neg (by decide)]
  simp only [TbS_ok hT, PgS_okF hP.1, true_and]
  rw [c54 hP]
  by_cases c3 : 0 < ld_n (pg_l (cs_P s))
  rotate_left
  · rw [if_neg c3, if_neg (by simp)]
    rw [if_neg (fun g => c3 g.2)] at r0
    exact r0
  rw [if_pos c3, if_pos (by decide)]
  simp only [TbS_ok hT, PgS_okF hP.1, LaS_ok L.1, L.2.1, SyS_ok hS.1, true_and]
  have := se_lt l24 c
  obtain ⟨a, rfl⟩ : ∃ n : Nat, x = n := ⟨x.toNat, by omega⟩
  obtain ⟨b, rfl⟩ : ∃ n : Nat, y = n := ⟨y.toNat, by omega⟩
  rw [Int.toNat_natCast] at this
  refine c87 a1 hS ok.1 (by omega) (by omega) (fun h1 F => ?_)
  rw [c181P, bP_bq]
  have := hK h1 (hC.wk F (by omega) (hS.fr F (by omega)))
  unfold vFollows at this
  rw [if_pos ⟨⟨c, c2⟩, c3⟩, Int.toNat_natCast, Int.toNat_natCast] at this
  exact this
/-- fewest -/
theorem c157 {K : Int32 → mHeap → Prop} (hC : CI h s) (hx : i32 x) (hy : i32 y) (hK : ∀ h1 r, Nx h h1 s → vFewest (cs_P s) (cs_S s) x y r → K (ii r) h1) : GoCi (d + 6) 157 [.ref 64, .int (ii x), .int (ii y)] h K := by
  have r0 := fun g => hK h (-1) (Nx.rf hC) g
  obtain ⟨⟨a1, hT, _⟩, ⟨hS, _⟩, ⟨hP, hI, _⟩, _⟩ := id hC
  obtain ⟨f1, M, L, ok⟩ := pg_106 hP
  have l24 := ci_S24 hC
  rw [e157, b157_0, c179 hT hS hx]
  simp only [TbS_ok hT, true_and, rI_s]
  unfold vFewest at r0
  by_cases c : isSe (cs_S s) x
  rotate_left
  · rw [if_neg c, if_pos rfl]
    rw [if_neg (fun g => c g.1.1.1)] at r0
    exact r0 rfl
  rw [if_pos c, if_neg (by decide), c178 hT hS hy]
  by_cases c2 : isSa (cs_S s) y
  rotate_left
  · rw [if_neg c2, if_pos rfl]
    rw [if_neg (fun g => c2 g.1.1.2)] at r0
    exact r0 rfl
  rw [if_pos c2, if_neg (by decide)]
  simp only [TbS_ok hT, PgS_okF hP.1, true_and]
  rw [c54 hP]
  by_cases c3 : 0 < ld_n (pg_l (cs_P s))
  rotate_left
  · rw [if_neg c3, if_neg (by simp)]
    rw [if_neg (fun g => c3 g.1.2)] at r0
    exact r0 rfl
  have := se_lt l24 c
  obtain ⟨a, rfl⟩ : ∃ n : Nat, x = n := ⟨x.toNat, by omega⟩
  obtain ⟨b, rfl⟩ : ∃ n : Nat, y = n := ⟨y.toNat, by omega⟩
  rw [Int.toNat_natCast] at this
  have bl := bc_le a
  rw [if_pos c3, if_pos (by decide), c317 (by omega)]
  have le12 : (ii (bc a : Nat) ≤ ii 12) ↔ bc a ≤ 12 := by
    rw [show ii 12 = ii (12 : Int) from rfl, ii_le (by omega) (by omega) (by omega) (by omega)]
    omega
  by_cases c4 : bc a ≤ 12
  rotate_left
  · rw [if_neg (fun g => c4 (le12.1 g))]
    rw [if_neg (fun g => c4 g.2)] at r0
    exact r0 rfl
  rw [if_pos (le12.2 c4)]
  simp only [TbS_ok hT, PgS_okF hP.1, LaS_ok L.1, L.2.1, SyS_ok hS.1, true_and]
  refine c88 hS a1 ok.1 (by omega) (by omega) (by omega) (fun h1 T F g1 g2 g3 => hK h1 T (hC.wk F (by omega) (hS.fr F (by omega))) ?_) (fun h1 F g => hK h1 (-2) (hC.wk F (by omega) (hS.fr F (by omega))) ?_)
  · unfold vFewest
    rw [if_pos ⟨⟨⟨c, c2⟩, c3⟩, c4⟩]
    exact ⟨fun _ => ⟨T, g3, rfl⟩, fun g => absurd g2 g⟩
  · unfold vFewest
    rw [if_pos ⟨⟨⟨c, c2⟩, c3⟩, c4⟩]
    exact ⟨fun g' => absurd g' g, fun _ => rfl⟩
/-- opposite -/
theorem c158 {K : Int32 → mHeap → Prop} (hC : CI h s) (hx : i32 x) (hy : i32 y) (hK : ∀ h1, Nx h h1 s → K (ii (vOpp (cs_P s) (cs_S s) x y)) h1) : GoCi (d + 5) 158 [.ref 64, .int (ii x), .int (ii y)] h K := by
  have r0 := hK h (Nx.rf hC)
  obtain ⟨⟨a1, hT, _⟩, ⟨hS, _⟩, ⟨hP, hI, _⟩, _⟩ := id hC
  obtain ⟨f1, M, L, ok⟩ := pg_106 hP
  have l24 := ci_S24 hC
  rw [e158, b158_0, c178 hT hS hx]
  simp only [TbS_ok hT, true_and, rI_s]
  unfold vOpp at r0
  by_cases c : isSa (cs_S s) x
  rotate_left
  · rw [if_neg c, if_pos rfl]
    rw [if_neg (fun g => c g.1.1)] at r0
    exact r0
  rw [if_pos c, if_neg (by decide), c178 hT hS hy]
  by_cases c2 : isSa (cs_S s) y
  rotate_left
  · rw [if_neg c2, if_pos rfl]
    rw [if_neg (fun g => c2 g.1.2.1)] at r0
    exact r0
  rw [if_pos c2, if_neg (by decide)]
  by_cases c4 : x = y
  · rw [if_pos (by rw [ii_eq hx.1 hx.2 hy.1 hy.2]; exact c4)]
    rw [if_neg (fun g => g.1.2.2 c4)] at r0
    exact r0
  rw [if_neg (by rw [ii_eq hx.1 hx.2 hy.1 hy.2]; exact c4)]
  simp only [TbS_ok hT, PgS_okF hP.1, true_and]
  rw [c54 hP]
  by_cases c3 : 0 < ld_n (pg_l (cs_P s))
  rotate_left
  · rw [if_neg c3, if_neg (by simp)]
    rw [if_neg (fun g => c3 g.2)] at r0
    exact r0
  rw [if_pos c3, if_pos (by decide)]
  simp only [TbS_ok hT, PgS_okF hP.1, LaS_ok L.1, L.2.1, SyS_ok hS.1, true_and]
  have ev : vOpp (cs_P s) (cs_S s) x y = _ := if_pos ⟨⟨c, c2, c4⟩, c3⟩
  obtain ⟨a, rfl⟩ : ∃ n : Nat, x = n := ⟨x.toNat, by omega⟩
  obtain ⟨b, rfl⟩ : ∃ n : Nat, y = n := ⟨y.toNat, by omega⟩
  rw [Int.toNat_natCast, Int.toNat_natCast] at ev
  refine c89 a1 hS ok.1 (by omega) (by omega) (fun h1 F => ?_)
  rw [c181P, bP_bq, ← ev]
  exact hK h1 (hC.wk F (by omega) (hS.fr F (by omega)))
/-- when -/
theorem c159 {K : Int32 → mHeap → Prop} (hC : CI h s) (hx : i32 x) (hy : i32 y) (hK : ∀ h1, Nx h h1 s → K (ii (vWhen (cs_P s) (cs_S s) x y)) h1) : GoCi (d + 3) 159 [.ref 64, .int (ii x), .int (ii y)] h K := by
  have r0 := hK h (Nx.rf hC)
  obtain ⟨⟨a1, hT, _⟩, ⟨hS, _⟩, ⟨hP, hI, _⟩, _⟩ := id hC
  obtain ⟨f1, M, L, ok⟩ := pg_106 hP
  have l24 := ci_S24 hC
  rw [e159, b159_0, c178 hT hS hx]
  simp only [TbS_ok hT, true_and, rI_s]
  unfold vWhen at r0
  by_cases c : isSa (cs_S s) x
  rotate_left
  · rw [if_neg c, if_pos rfl]
    rw [if_neg (fun g => c g.1.1)] at r0
    exact r0
  rw [if_pos c, if_neg (by decide)]
  by_cases c2 : y < 0
  · rw [if_pos (by rw [show ii 0 = ii (0 : Int) from rfl, ii_lt hy.1 hy.2 (by omega) (by omega)]; exact c2)]
    rw [if_neg (fun g => by omega)] at r0
    exact r0
  rw [if_neg (by rw [show ii 0 = ii (0 : Int) from rfl, ii_lt hy.1 hy.2 (by omega) (by omega)]; exact c2)]
  by_cases c4 : 9999 < y
  · rw [if_pos (by rw [show ii 9999 = ii (9999 : Int) from rfl, ii_lt (by omega) (by omega) hy.1 hy.2]; exact c4)]
    rw [if_neg (fun g => by omega)] at r0
    exact r0
  rw [if_neg (by rw [show ii 9999 = ii (9999 : Int) from rfl, ii_lt (by omega) (by omega) hy.1 hy.2]; exact c4)]
  simp only [PgS_okF hP.1, true_and]
  rw [c54 hP]
  by_cases c3 : 0 < ld_n (pg_l (cs_P s))
  rotate_left
  · rw [if_neg c3, if_neg (by simp)]
    rw [if_neg (fun g => c3 g.2)] at r0
    exact r0
  rw [if_pos c3, if_pos (by decide)]
  rw [if_pos ⟨⟨c, by omega, by omega⟩, c3⟩] at r0
  obtain ⟨a, rfl⟩ : ∃ n : Nat, x = n := ⟨x.toNat, by omega⟩
  obtain ⟨b, rfl⟩ : ∃ n : Nat, y = n := ⟨y.toNat, by omega⟩
  rw [Int.toNat_natCast, Int.toNat_natCast] at r0
  have r := SyS_row hS.1 (show a < 24 by omega)
  have W := hS.1.2.2.2.1 a (by omega)
  have sw := hS.2.2.2 a (by omega)
  simp only [TbS_ok hT, SyS_ok hS.1, r, true_and]
  have D := DyQ_ci hC
  refine ⟨oC_kd D.1, c28 D M W (hI.f8 ok) hI.1.2.1 (by omega) ?_⟩
  rw [sw]
  exact r0
end Pb2
