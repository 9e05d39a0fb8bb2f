/-! WHAT ONE CALLS: feed, seed, trial -/
def aFeed (B : Bt) (n : Nat) (a b c d e : Int32) : Int × Bt × Nat := if n ≤ 380 then ((n + 20 : Nat), apB (apB (apB (apB (apB B n a) (n + 4) b) (n + 8) c) (n + 12) d) (n + 16) e, n + 20) else (-1, B, n)
def aSeed (P : Pg) (z : Int) : Int × Pg := if 0 ≤ z then (pg_x P, (pg_l P, pg_m P, pg_u P, pg_t P, z.toNat)) else (-1, P)
def aTri (P : Pg) (S : List Wd) (z : Int) (f : Bool) : Int × Pg := if z = -1 then (0, (pg_l P, pg_m P, pg_u P, [], pg_x P)) else if (isSa S z ∧ 0 < ld_n (pg_l P)) ∧ (pg_t P).length < 10 then (((pg_t P).length + 1 : Nat), (pg_l P, pg_m P, pg_u P, pg_t P ++ [(z.toNat, f)], pg_x P)) else (-2, P)
section Act3
variable {d : Nat} {h h1 h2 : mHeap} {s s1 s2 : Cs} {x y z : Int} {P P' : Pg} {m m' : Mo} {S : List Wd} {l : Ld} {B : Bt} {n : Nat} {T : Nat → Prop}
theorem c98n {K : mHeap → Prop} (hC : CI h s) (hn : cs_n s + 4 ≤ 400) {x : Int32} (hK : ∀ h1, NxG 0 0 h h1 (sTx s (apB (cs_B s) (cs_n s) x) (cs_n s + 4)) → K h1) : GoCv (d + 1) 98 [.ref 65, .int x] h K :=
  c98 hC.1.2.2.1 hC.1.2.2.2.1 hn (fun h1 F b _ => hK h1 (hC.txN F (by decide) b))
/-- feed -/
theorem c135 {K : Int32 → mHeap → Prop} (hC : CI h s) {x1 x2 x3 x4 x5 : Int32} (hK : ∀ h1, Nx h h1 (sTx s (aFeed (cs_B s) (cs_n s) x1 x2 x3 x4 x5).2.1 (aFeed (cs_B s) (cs_n s) x1 x2 x3 x4 x5).2.2) → K (ii (aFeed (cs_B s) (cs_n s) x1 x2 x3 x4 x5).1) h1) : GoCi (d + 2) 135 [.ref 64, .int x1, .int x2, .int x3, .int x4, .int x5] h K := by
  have r0 := hK h
  obtain ⟨⟨a1, hT, a3, a4, _⟩, _⟩ := id hC
  rw [e135, b135_0]
  have oc : oC h 65 = 9 := oC_kd a3.1
  simp only [TbS_ok hT, oc, true_and, rI_s]
  rw [c97 a3 a4]
  by_cases c : cs_n s ≤ 380
  rotate_left
  · rw [if_neg c, if_neg (by simp)]
    rw [show aFeed (cs_B s) (cs_n s) x1 x2 x3 x4 x5 = (-1, cs_B s, cs_n s) from if_neg c] at r0
    exact r0 (Nx.rf hC)
  rw [if_pos c, if_pos (by decide)]
  have ev : aFeed (cs_B s) (cs_n s) x1 x2 x3 x4 x5 = _ := if_pos c
  rw [ev] at hK
  simp only [TbS_ok hT, oc, true_and]
  have st : ∀ {k : mHeap} {s' : Cs}, CI k s' → okF k 64 11 0 2 ∧ fR k 64 0 = 65 ∧ oC k 65 = 9 := fun g => ⟨(TbS_ok g.1.2.1).1, (TbS_ok g.1.2.1).2.2.2.2.2.2.2.2.2.2.1, oC_kd g.1.2.2.1.1⟩
  refine c98n hC (by omega) (fun h2 N2 => ?_)
  have y2 := st N2.1
  simp only [y2.1, y2.2.1, y2.2.2, true_and]
  refine c98n N2.1 (show cs_n s + 4 + 4 ≤ 400 by omega) (fun h3 N3 => ?_)
  have y3 := st N3.1
  simp only [y3.1, y3.2.1, y3.2.2, true_and]
  refine c98n N3.1 (show cs_n s + 4 + 4 + 4 ≤ 400 by omega) (fun h4 N4 => ?_)
  have y4 := st N4.1
  simp only [y4.1, y4.2.1, y4.2.2, true_and]
  refine c98n N4.1 (show cs_n s + 4 + 4 + 4 + 4 ≤ 400 by omega) (fun h5 N5 => ?_)
  have y5 := st N5.1
  simp only [y5.1, y5.2.1, y5.2.2, true_and]
  refine c98n N5.1 (show cs_n s + 4 + 4 + 4 + 4 + 4 ≤ 400 by omega) (fun h6 N6 => ?_)
  have y6 := st N6.1
  have b6 : fI h6 65 1 = ii ((cs_n s + 20 : Nat) : Int) := N6.1.1.2.2.2.1.1
  have t6 := TxS_ok N6.1.1.2.2.1
  simp only [y6.1, y6.2.1, t6, b6, true_and]
  exact hK h6 (((((N2.tr N3).tr N4).tr N5).tr N6).nx (by decide) (by decide))
/-- seed -/
theorem c167 {K : Int32 → mHeap → Prop} (hC : CI h s) (hx : i32 x) (hK : ∀ h1, Nx h h1 (sPg s (aSeed (cs_P s) x).2) → K (ii (aSeed (cs_P s) x).1) h1) : GoCi (d + 1) 167 [.ref 64, .int (ii x)] h K := by
  have r0 := hK h
  obtain ⟨⟨a1, hT, _⟩, ⟨hS, _⟩, ⟨hP, hI, hh⟩, _⟩ := id hC
  obtain ⟨l0, l1, l2, l3, l4, l5, l6, l7, l8, l9, l10, l11⟩ := hP.2
  rw [e167, b167_0]
  simp only [TbS_ok hT, PgS_okF hP.1, true_and, rI_s]
  by_cases c : 0 ≤ x
  rotate_left
  · rw [if_neg (by rw [show ii 0 = ii (0 : Int) from rfl, ii_le (by omega) (by omega) hx.1 hx.2]; exact c)]
    rw [show aSeed (cs_P s) x = (-1, cs_P s) from if_neg c] at r0
    exact r0 (Nx.rf hC)
  rw [if_pos (by rw [show ii 0 = ii (0 : Int) from rfl, ii_le (by omega) (by omega) hx.1 hx.2]; exact c)]
  have ev : aSeed (cs_P s) x = _ := if_pos c
  rw [ev] at hK
  obtain ⟨q, rfl⟩ := nat_of c
  rw [Int.toNat_natCast] at hK
  obtain ⟨S1, F1, g1⟩ := PgS_put hP.1 (k := 7) (by omega) (ii (q : Nat))
  refine ⟨PgS_okP hP.1 (by decide), ?_⟩
  rw [l10]
  have P1 := PgR_fr (u' := pg_u (cs_P s)) (t' := pg_t (cs_P s)) (x' := q) hP F1 (by omega) (Nat.le_refl _) (fun i _ => rfl) (by rw [g1]; exact l3) (by rw [g1]; exact l6) l7 (fun t ht => by rw [same_xA (F1.2.2.2 _ (by omega))]; exact l8 t ht) (by rw [g1]; exact l9) (by rw [g1]; rfl) (by omega)
  refine hK _ ((hC.pgG (FrP_of F1 (by omega)) (PgN_of (F1.1.2 _)) P1 ⟨hI.1, hI.2.1, hI.2.2.1, hI.2.2.2⟩ (by rw [fR_sk F1.1]; exact hh.1)).nx (by decide) (by decide))
/-- trial -/
theorem c164 {K : Int32 → mHeap → Prop} (hC : CI h s) (hx : i32 x) {f : Bool} (hK : ∀ h1, Nx h h1 (sPg s (aTri (cs_P s) (cs_S s) x f).2) → K (ii (aTri (cs_P s) (cs_S s) x f).1) h1) : GoCi (d + 3) 164 [.ref 64, .int (ii x), .int (if f = true then ii 1 else ii 0)] h K := by
  have r0 := hK h
  obtain ⟨⟨a1, hT, _⟩, ⟨hS, _⟩, ⟨hP, hI, hh⟩, _⟩ := id hC
  obtain ⟨l0, l1, l2, l3, l4, l5, l6, l7, l8, l9, l10, l11⟩ := hP.2
  rw [e164, b164_0]
  simp only [TbS_ok hT, PgS_okF hP.1, true_and, rI_s]
  by_cases c : x = -1
  · rw [if_neg (by rw [c]; exact fun g => g rfl)]
    have ev : aTri (cs_P s) (cs_S s) x f = _ := if_pos c
    rw [ev] at hK
    obtain ⟨S1, F1, g1⟩ := PgS_put hP.1 (k := 4) (by omega) (ii ((0 : Nat) : Int))
    refine ⟨PgS_okP hP.1 (by decide), ?_⟩
    obtain ⟨N, n1, n2, n3⟩ := l9
    have P1 := PgR_fr (u' := pg_u (cs_P s)) (t' := []) (x' := pg_x (cs_P s)) hP F1 (by omega) (Nat.le_refl _) (fun i _ => rfl) (by rw [g1]; exact l3) (by rw [g1]; rfl) (by decide) (fun t ht => absurd ht (Nat.not_lt_zero _)) ⟨N, n1, by rw [g1]; exact n2, fun t ht => absurd ht (Nat.not_lt_zero _)⟩ (by rw [g1]; exact l10) l11
    exact hK _ ((hC.pgG (FrP_of F1 (by omega)) (PgN_of (F1.1.2 _)) P1 ⟨hI.1, fun t ht => absurd ht (Nat.not_lt_zero _), hI.2.2.1, hI.2.2.2⟩ (by rw [fR_sk F1.1]; exact hh.1)).nx (by decide) (by decide))
  rw [if_pos (by rw [ii_eq hx.1 hx.2 (by omega) (by omega)]; exact c)]
  have r1 : ¬ ((isSa (cs_S s) x ∧ 0 < ld_n (pg_l (cs_P s))) ∧ (pg_t (cs_P s)).length < 10) → K (ii (-2)) h := fun g => by
    have ev : aTri (cs_P s) (cs_S s) x f = (-2, cs_P s) := by
      unfold aTri
      rw [if_neg c, if_neg g]
    rw [ev] at r0
    exact r0 (Nx.rf hC)
  rw [c178 hT hS hx]
  by_cases c2 : isSa (cs_S s) x
  rotate_left
  · rw [if_neg c2, if_pos rfl]
    exact r1 (fun g => c2 g.1.1)
  rw [if_pos c2, if_neg (by decide)]
  simp only [TbS_ok hT, PgS_okF hP.1, true_and]
  rw [c54 hP]
  by_cases c3 : 0 < ld_n (pg_l (cs_P s))
  rotate_left
  · rw [if_neg c3, if_pos rfl]
    exact r1 (fun g => c3 g.1.2)
  rw [if_pos c3, if_neg (by decide)]
  simp only [TbS_ok hT, PgS_okF hP.1, l6, true_and]
  have lt : ii ((pg_t (cs_P s)).length : Nat) < ii 10 ↔ (pg_t (cs_P s)).length < 10 := by
    rw [show ii 10 = ii ((10 : Nat) : Int) from rfl, ii_lt (by omega) (by omega) (by omega) (by omega)]
    omega
  by_cases c4 : (pg_t (cs_P s)).length < 10
  rotate_left
  · rw [if_neg (fun g => c4 (lt.1 g))]
    exact r1 (fun g => c4 g.2)
  rw [if_pos (lt.2 c4)]
  have ev : aTri (cs_P s) (cs_S s) x f = _ := (if_neg c).trans (if_pos ⟨⟨c2, c3⟩, c4⟩)
  rw [ev] at hK
  obtain ⟨q, rfl⟩ := nat_of c2.1
  rw [Int.toNat_natCast] at hK
  refine c61 hP c4 (fun h1 g1 g2 g3 g4 => ?_)
  have N1 := hC.pgG g2 (PgN_of g3) g1 (by
    refine ⟨hI.1, fun t ht => ?_, hI.2.2.1, hI.2.2.2⟩
    show ((pg_t (cs_P s) ++ [(q, f)]).getD t (0, false)).1 < (cs_S s).length
    have ht : t < (pg_t (cs_P s) ++ [(q, f)]).length := ht
    rw [List.length_append, List.length_singleton] at ht
    by_cases e : t < (pg_t (cs_P s)).length
    · rw [List.getD_eq_getElem?_getD, List.getElem?_append_left e, ← List.getD_eq_getElem?_getD]
      exact hI.2.1 t e
    · rw [List.getD_eq_getElem?_getD, List.getElem?_append_right (by omega), show t - (pg_t (cs_P s)).length = 0 by omega]
      show q < _
      omega) (by rw [g4]; exact hh.1)
  obtain ⟨⟨_, hT1, _⟩, _, ⟨hP1, _, _⟩, _⟩ := id N1.1
  have l61 : fI h1 97 4 = ii ((pg_t (cs_P s) ++ [(q, f)]).length : Nat) := hP1.2.2.2.2.2.2.2.1
  rw [List.length_append, List.length_singleton] at l61
  simp only [TbS_ok hT1, PgS_okF hP1.1, l61, true_and]
  exact hK h1 (N1.nx (by decide) (by decide))
end Act3
