/-! WHAT ONE CALLS: tell, look -/
noncomputable def aTell (P : Pg) (S : List Wd) (q o t : Int) : Int × Pg := @ite (Int × Pg) (((isUpp P q ∧ isUpp P o) ∧ ¬ q = o) ∧ isSa S t ∧ mo_s (pg_m P) q.toNat = mo_s (pg_m P) o.toNat ∧ sub (mo_w (pg_m P) (q.toNat + 1)) (sy S t.toNat)) (Classical.propDecidable _) (((cB (capW (mo_w (pg_m P) (o.toNat + 1)) (sy S t.toNat)) 256 : Nat) : Int), (pg_l P, mo_sw (pg_m P) (o.toNat + 1) (capW (mo_w (pg_m P) (o.toNat + 1)) (sy S t.toNat)), rem (pg_u P) (pg_m P), pg_t P, pg_x P)) (-1, P)
def seeW (w : Wd) (f so : Nat) : Wd := fun j => decide (j < 256) && (w j && (j.testBit f == so.testBit f))
def aLook (P : Pg) (q k : Int) : Int × Pg := if (isUpp P q ∧ isPl P k) ∧ mo_h (pg_m P) q.toNat + 2 * wy (pg_l P) k.toNat ≤ 24 then (bt ((mo_f (pg_m P)).testBit ((ld_p (pg_l P)).getD k.toNat 0)), (pg_l P, mo_sw ((pg_m P).1, (pg_m P).2.1, (pg_m P).2.2.1, (pg_m P).2.2.2.1, upf (mo_h (pg_m P)) q.toNat (mo_h (pg_m P) q.toNat + 2 * wy (pg_l P) k.toNat), (pg_m P).2.2.2.2.2) (q.toNat + 1) (seeW (mo_w (pg_m P) (q.toNat + 1)) ((ld_p (pg_l P)).getD k.toNat 0) (mo_f (pg_m P))), rem (pg_u P) (pg_m P), pg_t P, pg_x P)) else (-1, P)
section Act1
variable {d : Nat} {h h1 h2 : mHeap} {s s1 s2 : Cs} {x y z : Int} {P P' : Pg} {m m' : Mo} {S : List Wd} {l : Ld}
theorem iteP_t {α : Type} {p : Prop} {a b : α} (h : p) : @ite α p (Classical.propDecidable _) a b = a := @if_pos p (Classical.propDecidable _) h α a b
theorem iteP_f {α : Type} {p : Prop} {a b : α} (h : ¬ p) : @ite α p (Classical.propDecidable _) a b = b := @if_neg p (Classical.propDecidable _) h α a b
theorem capW_W2 {v w : Wd} {n : Nat} (e : ∀ x, v x = true → x < 2 ^ n) : ∀ x, capW v w x = true → x < 2 ^ n := fun x hx => by
  unfold capW at hx
  simp only [Bool.and_eq_true] at hx
  exact e x hx.2.1
/-- tell -/
theorem c151 {K : Int32 → mHeap → Prop} (hC : CI h s) (hx : i32 x) (hy : i32 y) (hz : i32 z) (hK : ∀ h1, Nx h h1 (sPg s (aTell (cs_P s) (cs_S s) x y z).2) → K (ii (aTell (cs_P s) (cs_S s) x y z).1) h1) : GoCi (d + 6) 151 [.ref 64, .int (ii x), .int (ii y), .int (ii z)] h K := by
  have r0 : ¬ (((isUpp (cs_P s) x ∧ isUpp (cs_P s) y) ∧ ¬ x = y) ∧ isSa (cs_S s) z ∧ mo_s (pg_m (cs_P s)) x.toNat = mo_s (pg_m (cs_P s)) y.toNat ∧ sub (mo_w (pg_m (cs_P s)) (x.toNat + 1)) (sy (cs_S s) z.toNat)) → K (ii (-1)) h := fun g => by
    have ev : aTell (cs_P s) (cs_S s) x y z = _ := iteP_f g
    rw [ev] at hK
    exact hK h (Nx.rf hC)
  obtain ⟨⟨a1, hT, _⟩, ⟨hS, _⟩, ⟨hP, hI, _⟩, _⟩ := id hC
  obtain ⟨f1, M, L, ok⟩ := pg_106 hP
  have q6 := ok.2.2.1
  have p8 := pow_le ok.1
  have l24 := ci_S24 hC
  rw [e151, b151_0, c174 hT hP hx]
  simp only [TbS_ok hT, true_and, rI_s]
  by_cases c : isUpp (cs_P s) x
  rotate_left
  · rw [if_neg c, if_pos rfl]
    exact r0 (fun g => c g.1.1.1)
  rw [if_pos c, if_neg (by decide), c174 hT hP hy]
  by_cases c1 : isUpp (cs_P s) y
  rotate_left
  · rw [if_neg c1, if_pos rfl]
    exact r0 (fun g => c1 g.1.1.2)
  rw [if_pos c1, if_neg (by decide)]
  by_cases c2 : x = y
  · rw [if_pos (by rw [c2])]
    exact r0 (fun g => g.1.2 c2)
  rw [if_neg (by rw [ii_eq hx.1 hx.2 hy.1 hy.2]; exact c2)]
  refine ⟨oC_kd hT, ?_⟩
  rw [c178 hT hS hz]
  by_cases c3 : isSa (cs_S s) z
  rotate_left
  · rw [if_neg c3, if_neg (by simp)]
    exact r0 (fun g => c3 g.2.1)
  rw [if_pos c3, if_pos (by decide)]
  obtain ⟨q, rfl⟩ := nat_of c.1.1
  obtain ⟨o, rfl⟩ := nat_of c1.1.1
  obtain ⟨t, rfl⟩ := nat_of c3.1
  have rr := SyS_row hS.1 (show t < 24 by omega)
  have wr := hS.1.2.2.2.1 t (by omega)
  have sw := hS.2.2.2 t (by omega)
  have Wq := M.1.2.2.2.2.2 (q + 1) (by omega)
  have wq := M.2.2.2.2.2.2 (q + 1) (by omega)
  simp only [TbS_ok hT, PgS_okF hP.1, SyS_ok hS.1, rr, show (97 + 9 : Nat) = 106 from rfl, MoS_okF M.1, true_and]
  have om := (MoS_okF M.1).2.2.2.2.2.2.2.2
  rw [c48 M (by omega)]
  refine ⟨om, ?_⟩
  rw [c48 M (by omega)]
  by_cases c4 : mo_s (pg_m (cs_P s)) q = mo_s (pg_m (cs_P s)) o
  rotate_left
  · rw [if_pos (by
      cases g1 : mo_s (pg_m (cs_P s)) q <;> cases g2 : mo_s (pg_m (cs_P s)) o
      · exact absurd (g1.trans g2.symm) c4
      · decide
      · decide
      · exact absurd (g1.trans g2.symm) c4)]
    exact r0 (fun g => c4 g.2.2.1)
  rw [c4, if_neg (fun g => g rfl)]
  refine ⟨om, ?_⟩
  rw [c46 M.1 (i := q + 1) (by omega) (by omega)]
  refine ⟨W_oC Wq, ?_⟩
  rw [c128 Wq wr, wq, sw]
  by_cases c5 : sub (mo_w (pg_m (cs_P s)) (q + 1)) (sy (cs_S s) t)
  rotate_left
  · rw [if_neg (by rw [bP_n]; exact c5)]
    exact r0 (fun g => c5 g.2.2.2)
  rw [if_pos (by rw [bP_n]; exact c5)]
  simp only [TbS_ok hT, PgS_okF hP.1, true_and]
  have ev : aTell (cs_P s) (cs_S s) (q : Nat) (o : Nat) (t : Nat) = _ := iteP_t ⟨⟨⟨c, c1⟩, c2⟩, c3, c4, c5⟩
  rw [ev, Int.toNat_natCast, Int.toNat_natCast] at hK
  refine c57n hC (fun h3 N3 => ?_)
  have C3 := N3.1
  obtain ⟨⟨a3, hT3, _⟩, ⟨hS3, _⟩, ⟨hP3, hI3, _⟩, _⟩ := id C3
  have hP3 : PgR h3 97 (pRem (cs_P s)) := hP3
  have hS3 : SyR h3 (cs_S s) := hS3
  obtain ⟨_, M3, _, _⟩ := pg_106 hP3
  have M3 : MoR h3 106 (pg_m (cs_P s)) := M3
  have Wo := M3.1.2.2.2.2.2 (o + 1) (by omega)
  have wo1 := M3.2.2.2.2.2.2 (o + 1) (by omega)
  have wr3 := hS3.1.2.2.2.1 t (by omega)
  have sw3 := hS3.2.2.2 t (by omega)
  refine ⟨(MoS_okF M3.1).2.2.2.2.2.2.2.2, ?_⟩
  rw [c46 M3.1 (i := o + 1) (by omega) (by omega)]
  refine ⟨W_oC Wo, ?_⟩
  rw [c121 Wo wr3, wo1, sw3]
  obtain ⟨M4, F4⟩ := MoR_pW M3 (i := o + 1) (by omega) (fun i => mo_w (pg_m (cs_P s)) (o + 1) i && sy (cs_S s) t i)
  have N4 := C3.mo F4 M4 (MoI_sw hI.1 (capW_W2 (fun x hx => hI.1.2.2.2.1 _ x (by omega) hx)) (by
    have e1 := hI.1.2.2.2.2 (o + 1) (by omega) (hI.n0 (by omega))
    have e2 := c5 _ (Nat.lt_of_lt_of_le hI.1.1 p8) (hI.1.2.2.2.2 (q + 1) (by omega) (hI.n0 (by omega)))
    have := hI.1.1
    show (decide (mo_f (pg_m (cs_P s)) < 256) && (mo_w (pg_m (cs_P s)) (o + 1) (mo_f (pg_m (cs_P s))) && sy (cs_S s) t (mo_f (pg_m (cs_P s))))) = true
    rw [e1, e2]
    simp only [Bool.and_true, decide_eq_true_eq]
    omega))
  have W4 := M4.1.2.2.2.2.2 (o + 1) (by omega)
  have w4 := M4.2.2.2.2.2.2 (o + 1) (by omega)
  refine ⟨(MoS_okF M4.1).2.2.2.2.2.2.2.2, ?_⟩
  rw [c46 M4.1 (i := o + 1) (by omega) (by omega)]
  refine ⟨W_oC W4, ?_⟩
  rw [c126 W4, w4]
  have := hK _ ((N3.tr N4).nx (by decide) (by decide))
  rw [show mo_w (mo_sw (pg_m (cs_P s)) (o + 1) (fun j => decide (j < 256) && (mo_w (pg_m (cs_P s)) (o + 1) j && sy (cs_S s) t j))) (o + 1) = capW (mo_w (pg_m (cs_P s)) (o + 1)) (sy (cs_S s) t) from by
    show upf (mo_w (pg_m (cs_P s))) (o + 1) _ (o + 1) = _
    unfold upf
    rw [if_pos rfl]
    rfl]
  exact this
theorem seeW_W2 {v : Wd} {n f so : Nat} (e : ∀ x, v x = true → x < 2 ^ n) : ∀ x, seeW v f so x = true → x < 2 ^ n := fun x hx => by
  unfold seeW at hx
  simp only [Bool.and_eq_true] at hx
  exact e x hx.2.1
/-- look -/
theorem c152 {K : Int32 → mHeap → Prop} (hC : CI h s) (hx : i32 x) (hy : i32 y) (hK : ∀ h1, Nx h h1 (sPg s (aLook (cs_P s) x y).2) → K (ii (aLook (cs_P s) x y).1) h1) : GoCi (d + 6) 152 [.ref 64, .int (ii x), .int (ii y)] h K := by
  have r0 : ¬ ((isUpp (cs_P s) x ∧ isPl (cs_P s) y) ∧ mo_h (pg_m (cs_P s)) x.toNat + 2 * wy (pg_l (cs_P s)) y.toNat ≤ 24) → K (ii (-1)) h := fun g => by
    have ev : aLook (cs_P s) x y = _ := if_neg g
    rw [ev] at hK
    exact hK h (Nx.rf hC)
  obtain ⟨⟨a1, hT, _⟩, ⟨hS, _⟩, ⟨hP, hI, _⟩, _⟩ := id hC
  obtain ⟨f1, M, L, ok⟩ := pg_106 hP
  have q6 := ok.2.2.1
  have p6 := ok.2.2.2.1
  have n8 := ok.1
  have p8 := pow_le ok.1
  rw [e152, b152_0, c174 hT hP hx]
  simp only [TbS_ok hT, true_and, rI_s]
  by_cases c : isUpp (cs_P s) x
  rotate_left
  · rw [if_neg c, if_pos rfl]
    exact r0 (fun g => c g.1.1)
  rw [if_pos c, if_neg (by decide), c176 hT hP hy]
  by_cases c1 : isPl (cs_P s) y
  rotate_left
  · rw [if_neg c1, if_neg (by simp)]
    exact r0 (fun g => c1 g.1.2)
  rw [if_pos c1, if_pos (by decide)]
  have n0 := pl_n0 ok c1
  obtain ⟨q, rfl⟩ := nat_of c.1.1
  obtain ⟨k, rfl⟩ := nat_of c1.1
  have rq := row_ok M.1.2.2.1 (show q < 6 by omega) (by omega)
  have hq := M.2.2.2.2.2.1 q (by omega)
  have h24 := hI.1.2.2.1 q
  simp only [TbS_ok hT, PgS_okF hP.1, LaS_ok L.1, show (97 + 9 : Nat) = 106 from rfl, MoS_okF M.1, rq, hq, true_and]
  rw [show ii 0 = ii ((0 : Nat) : Int) from rfl, c41 L n0 (by omega) (by omega), show 6 * 0 + k = k by omega]
  have w := wy_le (pg_l (cs_P s)) k
  rw [Int.toNat_natCast, Int.toNat_natCast] at r0
  have le : ii ((mo_h (pg_m (cs_P s)) q : Nat) : Int) + ii 2 * ii ((wy (pg_l (cs_P s)) k : Nat) : Int) = ii ((mo_h (pg_m (cs_P s)) q + 2 * wy (pg_l (cs_P s)) k : Nat) : Int) := by
    rw [ii_mul, ii_add]
    congr 1
  rw [le]
  have le2 : ii ((mo_h (pg_m (cs_P s)) q + 2 * wy (pg_l (cs_P s)) k : Nat) : Int) ≤ ii 24 ↔ mo_h (pg_m (cs_P s)) q + 2 * wy (pg_l (cs_P s)) k ≤ 24 := by
    rw [show ii 24 = ii ((24 : Nat) : Int) from rfl, ii_le (by omega) (by omega) (by omega) (by omega)]
    omega
  by_cases c2 : mo_h (pg_m (cs_P s)) q + 2 * wy (pg_l (cs_P s)) k ≤ 24
  rotate_left
  · rw [if_neg (fun g => c2 (le2.1 g))]
    exact r0 (fun g => c2 g.2)
  rw [if_pos (le2.2 c2)]
  have ev : aLook (cs_P s) (q : Nat) (k : Nat) = _ := if_pos ⟨⟨c, c1⟩, by rw [Int.toNat_natCast, Int.toNat_natCast]; exact c2⟩
  rw [ev, Int.toNat_natCast, Int.toNat_natCast] at hK
  simp only [TbS_ok hT, PgS_okF hP.1, true_and]
  refine c57n hC (fun h3 N3 => ?_)
  have C3 := N3.1
  obtain ⟨⟨a3, hT3, _⟩, ⟨hS3, _⟩, ⟨hP3, hI3, _⟩, _⟩ := id C3
  have hP3 : PgR h3 97 (pRem (cs_P s)) := hP3
  obtain ⟨_, M3, L3, _⟩ := pg_106 hP3
  have M3 : MoR h3 106 (pg_m (cs_P s)) := M3
  have L3 : LaR h3 (fR h3 97 0) (pg_l (cs_P s)) := L3
  have rk := row_ok L3.1.2.2.2.2.2.1 (show k < 6 by omega) (by omega)
  have kk := L3.2.2.2.2.2.2.2.2.2.1 k (by omega)
  have rq3 := row_ok M3.1.2.2.1 (show q < 6 by omega) (by omega)
  have pk := (ld_p_lt ok (show k < (ld_p (pg_l (cs_P s))).length by omega)).2
  simp only [TbS_ok hT3, PgS_okF hP3.1, LaS_ok L3.1, LaS_fR L3.1, rk, kk, show (97 + 9 : Nat) = 106 from rfl, MoS_okF M3.1, show (64 ≤ 106 + 1) = True from by decide, rq3, true_and]
  have x2 := fun b => sI_row (h := h3) (b := b) (v := ii ((mo_h (pg_m (cs_P s)) q + 2 * wy (pg_l (cs_P s)) k : Nat) : Int)) M3.1.2.2.1 (show q < 6 by omega) (by omega)
  obtain ⟨M4, F4⟩ := MoR_h M3 (Fr.sI (h := h3) (a := 106 + 1) (j := ii q) (w := ii ((mo_h (pg_m (cs_P s)) q + 2 * wy (pg_l (cs_P s)) k : Nat) : Int))) (g := upf (mo_h (pg_m (cs_P s))) q (mo_h (pg_m (cs_P s)) q + 2 * wy (pg_l (cs_P s)) k)) (fun p hp => by
    rw [x2, if_pos rfl]
    unfold upf
    by_cases e : p = q
    · rw [if_pos e, if_pos e]
    · rw [if_neg e, if_neg e]; exact M3.2.2.2.2.2.1 p hp)
  have N4 := C3.mo F4 M4 (MoI_h hI.1 (fun p => by
    unfold upf
    by_cases e : p = q
    · rw [if_pos e]; exact c2
    · rw [if_neg e]; exact hI.1.2.2.1 p))
  have N34 := N3.tr N4
  generalize sI h3 (106 + 1) (ii q) (ii ((mo_h (pg_m (cs_P s)) q + 2 * wy (pg_l (cs_P s)) k : Nat) : Int)) = H4 at *
  have C4 := N4.1
  have f8 := hI.f8 ok
  have o4 := (MoS_okF M4.1).2.2.2.2.2.2.2.2
  have W4 := M4.1.2.2.2.2.2 (q + 1) (by omega)
  have w4 := M4.2.2.2.2.2.2 (q + 1) (by omega)
  refine ⟨o4, ?_⟩
  rw [c46 M4.1 (i := q + 1) (by omega) (by omega)]
  refine ⟨o4, ?_⟩
  rw [c47 M4 (by omega) f8]
  refine ⟨W_oC W4, ?_⟩
  rw [c123 C4.1.1 W4 (by omega), w4]
  obtain ⟨M5, F5⟩ := MoR_pW M4 (i := q + 1) (by omega) (fun i => mo_w (pg_m (cs_P s)) (q + 1) i && (i.testBit ((ld_p (pg_l (cs_P s))).getD k 0) == (mo_f (pg_m (cs_P s))).testBit ((ld_p (pg_l (cs_P s))).getD k 0)))
  have N5 := C4.mo F5 M5 (MoI_sw (MoI_h hI.1 (fun p => by
    unfold upf
    by_cases e : p = q
    · rw [if_pos e]; exact c2
    · rw [if_neg e]; exact hI.1.2.2.1 p)) (seeW_W2 (fun x hx => hI.1.2.2.2.1 (q + 1) x (by omega) hx)) (by
    have e1 := hI.1.2.2.2.2 (q + 1) (by omega) n0
    show (decide (mo_f (pg_m (cs_P s)) < 256) && (mo_w (pg_m (cs_P s)) (q + 1) (mo_f (pg_m (cs_P s))) && ((mo_f (pg_m (cs_P s))).testBit _ == (mo_f (pg_m (cs_P s))).testBit _))) = true
    rw [e1]
    simp only [Bool.and_true, Bool.true_and, decide_eq_true_eq, beq_self_eq_true]
    exact f8))
  refine ⟨(MoS_okF M5.1).2.2.2.2.2.2.2.2, ?_⟩
  have e5 := c47 (d := d + 4) (K := fun v8 h8 => GoCi (d + 5) 181 [.int v8] h8 (fun v9 h9 => K v9 h9)) M5 (f := (ld_p (pg_l (cs_P s))).getD k 0) (by omega) f8
  refine e5.2 ?_
  rw [c181]
  exact hK _ ((N34.tr N5).nx (by decide) (by decide))
end Act1
