/-! WHAT ONE CALLS: acts on the page -/
def NxG (n m : Nat) (h h1 : mHeap) (s : Cs) : Prop := CI h1 s ∧ Gr n m h h1 ∧ ∀ a, 148 ≤ a → a < 202 → h1[a]? = h[a]?
def sPg (s : Cs) (P : Pg) : Cs := (s.1, s.2.1, s.2.2.1, P, s.2.2.2.2)
section Act
variable {d : Nat} {h h1 h2 : mHeap} {s s1 s2 : Cs} {x y z : Int} {P P' : Pg} {m m' : Mo} {S : List Wd}
theorem NxG.tr {n k n' k' : Nat} (a : NxG n k h h1 s1) (b : NxG n' k' h1 h2 s2) : NxG (n + n') (k + k') h h2 s2 := ⟨b.1, a.2.1.tr b.2.1, fun c g g' => (b.2.2 c g g').trans (a.2.2 c g g')⟩
theorem NxG.nx {n k : Nat} (a : NxG n k h h1 s) (hn : n ≤ 1000) (hk : k ≤ 12000) : Nx h h1 s := ⟨a.1, a.2.1.wide hn hk, a.2.2⟩
theorem NxG.rf {n k : Nat} (hC : CI h s) : NxG n k h h s := ⟨hC, Gr.rf, fun _ _ _ => rfl⟩
theorem CI.pgG {n k : Nat} (hC : CI h s) (hF : FrP (PgT h 97) n k h h1) (hN : PgN h h1 97) (hP : PgR h1 97 P') (hI : PgI (cs_S s) P') (hf : fR h1 97 0 = 98 ∨ 202 ≤ fR h1 97 0) : NxG n k h h1 (sPg s P') :=
  ⟨hC.pg hF hN hP hI hf, hF.1, fun a g g' => hF.2 a (by have := hC.2.2.2.2.2; omega) (fun ht => by have := hiP_T hC.2.2.1.2.2 ht; omega)⟩
theorem PgR_mo (hP : PgR h 97 P) (x : Fr 106 10 h h1) (hM : MoR h1 106 m') : PgR h1 97 (pg_l P, m', pg_u P, pg_t P, pg_x P) ∧ xR h1 116 = xR h 116 ∧ fR h1 97 0 = fR h 97 0 := by
  obtain ⟨l0, l1, l2, l3, l4, l5, l6, l7, l8, l9, l10, l11⟩ := hP.2
  have e97 : h1[97]? = h[97]? := x.2.2.2 97 (by omega)
  have f0 : fR h1 97 0 = fR h 97 0 := by rw [fR_kd, fR_kd, same_kd e97]
  have x2 : ∀ c, xR h1 c = xR h c := x.1.2
  have ld := MoS_LaS l2.1 l0.1
  have keep : ∀ i b2 m3, i < 20 → xR h (97 + 19) i = some b2 → MoR h b2 m3 → MoR h1 b2 m3 := fun i b2 m3 hi hb2 hm3 => by
    have pd2 := PgS_dis hP.1 hi hb2
    exact hm3.fr x (by omega)
  have S2 : PgS h1 97 := by
    obtain ⟨t0, t1, t2, t3, t4, t5, t6⟩ := hP.1
    refine ⟨t0, by rw [x.1.1, f0]; exact t1, by rw [x.1.1]; exact t2, by rw [x.1.1]; exact t3, x.1.MoS t4, fun i b hi hb => ?_, fun i j b hi hj g g' => ?_⟩
    · rw [x2] at hb
      obtain ⟨⟨m3, hm3⟩, hn⟩ := t5 i b hi hb
      exact ⟨⟨m3, keep i b m3 hi hb hm3⟩, hn⟩
    · rw [x2] at g g'
      exact t6 i j b hi hj g g'
  refine ⟨PgR_up hP S2 f0 (fun c g g' => x.2.2.2 c (by omega)) hM (by rw [same_fI e97]; exact l3) l4 (fun i hi => ?_) (same_fI e97 4) (same_fI e97 6) (same_fI e97 7) (same_xA (x.2.2.2 _ (by omega))), x2 116, f0⟩
  obtain ⟨b2, hb2, hm2⟩ := l5 i hi
  exact ⟨b2, by rw [x2]; exact hb2, keep i b2 _ (by omega) hb2 hm2⟩
/-- the moment changes -/
theorem CI.mo (hC : CI h s) (x : Fr 106 10 h h1) (hM : MoR h1 106 m') (hI : MoI (pg_l (cs_P s)) m') : NxG 0 0 h h1 (sPg s (pg_l (cs_P s), m', pg_u (cs_P s), pg_t (cs_P s), pg_x (cs_P s))) := by
  obtain ⟨c1, c2, c3⟩ := hC.2.2.1
  obtain ⟨p1, p2, p3⟩ := PgR_mo c1 x hM
  exact hC.pgG (FrP_of x (by omega)) (PgN_of p2) p1 ⟨hI, c2.2.1, c2.2.2.1, c2.2.2.2⟩ (by rw [p3]; exact c3.1)
theorem rem_mem {u : List Mo} (hm : m' ∈ rem u m) : m' ∈ u ∨ m' = m := by
  unfold rem at hm
  rw [List.mem_append, List.mem_singleton] at hm
  rcases hm with g | g
  · by_cases c : u.length = 20
    · rw [if_pos c] at g
      exact Or.inl (List.mem_of_mem_tail g)
    · rw [if_neg c] at g
      exact Or.inl g
  · exact Or.inr g
def pRem (P : Pg) : Pg := (pg_l P, pg_m P, rem (pg_u P) (pg_m P), pg_t P, pg_x P)
theorem PgI_rem (hI : PgI S P) : PgI S (pRem P) := ⟨hI.1, hI.2.1, fun m hm => by
  rcases rem_mem hm with g | g
  · exact hI.2.2.1 m g
  · rw [g]; exact hI.1, hI.2.2.2⟩
/-- remember -/
theorem c57n {K : mHeap → Prop} (hC : CI h s) (hK : ∀ h1, NxG 10 47 h h1 (sPg s (pRem (cs_P s))) → K h1) : GoCv (d + 5) 57 [.ref 97] h K := by
  obtain ⟨c1, c2, c3⟩ := hC.2.2.1
  exact c57 hC.1.1 c1 (fun h1 g1 g2 g3 g4 => hK h1 (hC.pgG g2 g3 g1 (PgI_rem c2) (by rw [g4]; exact c3.1)))
noncomputable def aCross (P : Pg) (S : List Wd) (q t : Int) : Int × Pg := if isUpp P q ∧ isSa S t then (((cro (pg_m P) q.toNat (la_q (pg_l P) q.toNat).2.1 (sy S t.toNat)).1 : Int), (pg_l P, (cro (pg_m P) q.toNat (la_q (pg_l P) q.toNat).2.1 (sy S t.toNat)).2, rem (pg_u P) (pg_m P), pg_t P, pg_x P)) else (-1, P)
/-- cross -/
theorem c150 {K : Int32 → mHeap → Prop} (hC : CI h s) (hx : i32 x) (hy : i32 y) (hK : ∀ h1, Nx h h1 (sPg s (aCross (cs_P s) (cs_S s) x y).2) → K (ii (aCross (cs_P s) (cs_S s) x y).1) h1) : GoCi (d + 6) 150 [.ref 64, .int (ii x), .int (ii y)] h K := by
  have r0 := hK h
  obtain ⟨⟨a1, hT, _⟩, ⟨hS, _⟩, ⟨hP, hI, _⟩, _⟩ := id hC
  obtain ⟨f1, M, L, ok⟩ := pg_106 hP
  have q6 := ok.2.2.1
  have l24 := ci_S24 hC
  rw [e150, b150_0, c174 hT hP hx]
  simp only [TbS_ok hT, true_and, rI_s]
  by_cases c : isUpp (cs_P s) x
  rotate_left
  · rw [if_neg c, if_pos rfl]
    rw [show aCross (cs_P s) (cs_S s) x y = (-1, cs_P s) from if_neg (fun g => c g.1)] at r0
    exact r0 (Nx.rf hC)
  rw [if_pos c, if_neg (by decide), c178 hT hS hy]
  by_cases c2 : isSa (cs_S s) y
  rotate_left
  · rw [if_neg c2, if_neg (by simp)]
    rw [show aCross (cs_P s) (cs_S s) x y = (-1, cs_P s) from if_neg (fun g => c2 g.2)] at r0
    exact r0 (Nx.rf hC)
  rw [if_pos c2, if_pos (by decide)]
  have ev : aCross (cs_P s) (cs_S s) x y = _ := if_pos ⟨c, c2⟩
  rw [ev] at hK
  obtain ⟨q, rfl⟩ := nat_of c.1.1
  obtain ⟨t, rfl⟩ := nat_of c2.1
  rw [Int.toNat_natCast, Int.toNat_natCast] at hK
  have hq : q < (ld_q (pg_l (cs_P s))).length := by omega
  simp only [TbS_ok hT, PgS_okF hP.1, true_and]
  refine c57n hC (fun h3 N3 => ?_)
  have C3 := N3.1
  obtain ⟨⟨_, hT3, _⟩, ⟨hS3, _⟩, ⟨hP3, hI3, _⟩, _⟩ := id C3
  have hP3 : PgR h3 97 (pRem (cs_P s)) := hP3
  have hS3 : SyR h3 (cs_S s) := hS3
  obtain ⟨_, M3, L3, _⟩ := pg_106 hP3
  have M3 : MoR h3 106 (pg_m (cs_P s)) := M3
  have L3 : LaR h3 (fR h3 97 0) (pg_l (cs_P s)) := L3
  have r1 := row_ok L3.1.2.2.2.1 (show q < 6 by omega) (by omega)
  have v1 := L3.2.2.2.2.2.2.2.2.1 q hq
  have rr := SyS_row hS3.1 (show t < 24 by omega)
  have wr := hS3.1.2.2.2.1 t (by omega)
  have sw := hS3.2.2.2 t (by omega)
  have w128 := (PgI.w ok) q hq
  simp only [TbS_ok hT3, PgS_okF hP3.1, LaS_ok L3.1, LaS_fR L3.1, r1, v1, SyS_ok hS3.1, rr, show (97 + 9 : Nat) = 106 from rfl, MoS_okF M3.1, true_and]
  refine c50 M3 (hI.f8 ok) (by omega) (by omega) wr (by omega) (fun h4 F4 M4 => ?_)
  rw [sw] at M4 ⊢
  have N4 := C3.mo F4 M4 (MoI_cro ok hI.1 (hI.n0 (by omega)))
  exact hK h4 ((N3.tr N4).nx (by decide) (by decide))
noncomputable def aMid (P : Pg) : Int × Pg := if 0 < ld_n (pg_l P) ∧ mo_d (pg_m P) < 9999 then ((mo_d (pg_m P) + 1 : Nat), (pg_l P, mid (pg_l P) (pg_m P), rem (pg_u P) (pg_m P), pg_t P, pg_x P)) else (-1, P)
/-- midnight -/
theorem c153 {K : Int32 → mHeap → Prop} (hC : CI h s) (hK : ∀ h1, Nx h h1 (sPg s (aMid (cs_P s)).2) → K (ii (aMid (cs_P s)).1) h1) : GoCi (d + 6) 153 [.ref 64] h K := by
  have r0 := hK h
  obtain ⟨⟨a1, hT, _⟩, ⟨hS, _⟩, ⟨hP, hI, _⟩, _⟩ := id hC
  obtain ⟨f1, M, L, ok⟩ := pg_106 hP
  have d9 := hI.1.2.1
  rw [e153, b153_0]
  simp only [TbS_ok hT, PgS_okF hP.1, true_and, rI_s]
  rw [c54 hP]
  by_cases c : 0 < ld_n (pg_l (cs_P s))
  rotate_left
  · rw [if_neg c, if_pos rfl]
    rw [show aMid (cs_P s) = (-1, cs_P s) from if_neg (fun g => c g.1)] at r0
    exact r0 (Nx.rf hC)
  rw [if_pos c, if_neg (by decide)]
  simp only [TbS_ok hT, PgS_okF hP.1, show (97 + 9 : Nat) = 106 from rfl, MoS_okF M.1, M.2.1, true_and]
  have lt : ii (mo_d (pg_m (cs_P s)) : Nat) < ii 9999 ↔ mo_d (pg_m (cs_P s)) < 9999 := by
    rw [show ii 9999 = ii ((9999 : Nat) : Int) from rfl, ii_lt (by omega) (by omega) (by omega) (by omega)]
    omega
  by_cases c2 : mo_d (pg_m (cs_P s)) < 9999
  rotate_left
  · rw [if_neg (fun g => c2 (lt.1 g))]
    rw [show aMid (cs_P s) = (-1, cs_P s) from if_neg (fun g => c2 g.2)] at r0
    exact r0 (Nx.rf hC)
  rw [if_pos (lt.2 c2)]
  have ev : aMid (cs_P s) = _ := if_pos ⟨c, c2⟩
  rw [ev] at hK
  refine c57n hC (fun h3 N3 => ?_)
  have C3 := N3.1
  obtain ⟨⟨a3, hT3, _⟩, ⟨hS3, _⟩, ⟨hP3, hI3, _⟩, _⟩ := id C3
  have hP3 : PgR h3 97 (pRem (cs_P s)) := hP3
  obtain ⟨_, M3, L3, _⟩ := pg_106 hP3
  have M3 : MoR h3 106 (pg_m (cs_P s)) := M3
  have L3 : LaR h3 (fR h3 97 0) (pg_l (cs_P s)) := L3
  simp only [TbS_ok hT3, PgS_okF hP3.1, LaS_ok L3.1, show (97 + 9 : Nat) = 106 from rfl, MoS_okF M3.1, true_and]
  refine c51 a3 M3 L3 ok (by omega) (MoS_LaS M3.1 L3.1) (fun h4 F4 M4 => ?_)
  have N4 := C3.mo F4 M4 (MoI_mid ok hI.1 c2)
  obtain ⟨⟨_, hT4, _⟩, _, ⟨hP4, _, _⟩, _⟩ := id N4.1
  simp only [TbS_ok hT4, PgS_okF hP4.1, show (97 + 9 : Nat) = 106 from rfl, MoS_okF M4.1, M4.2.1, true_and]
  exact hK h4 ((N3.tr N4).nx (by decide) (by decide))
def aUndo (P : Pg) : Int × Pg := if pg_u P = [] then (-2, P) else (((pg_u P).length - 1 : Nat), (pg_l P, (pg_u P).getD ((pg_u P).length - 1) mo0, (pg_u P).take ((pg_u P).length - 1), pg_t P, pg_x P))
/-- undo -/
theorem c154 {K : Int32 → mHeap → Prop} (hC : CI h s) (hK : ∀ h1, Nx h h1 (sPg s (aUndo (cs_P s)).2) → K (ii (aUndo (cs_P s)).1) h1) : GoCi (d + 5) 154 [.ref 64] h K := by
  have r0 := hK h
  obtain ⟨⟨a1, hT, _⟩, ⟨hS, _⟩, ⟨hP, hI, hh⟩, _⟩ := id hC
  rw [e154, b154_0]
  simp only [TbS_ok hT, PgS_okF hP.1, true_and, rI_s]
  refine c60 hP (fun e => ?_) (fun h1 ne g1 g2 g3 g4 => ?_)
  · rw [show aUndo (cs_P s) = (-2, cs_P s) from if_pos e] at r0
    exact r0 (Nx.rf hC)
  · have ev : aUndo (cs_P s) = _ := if_neg ne
    rw [ev] at hK
    have hl : 0 < (pg_u (cs_P s)).length := by
      cases q : pg_u (cs_P s) with
      | nil => exact absurd q ne
      | cons a b => simp
    refine hK h1 ((hC.pgG g2 g3 g1 ⟨?_, hI.2.1, fun m hm => hI.2.2.1 m (List.mem_of_mem_take hm), hI.2.2.2⟩ (by rw [g4]; exact hh.1)).nx (by decide) (by decide))
    refine hI.2.2.1 _ ?_
    show (pg_u (cs_P s)).getD ((pg_u (cs_P s)).length - 1) mo0 ∈ pg_u (cs_P s)
    rw [List.getD_eq_getElem?_getD, List.getElem?_eq_getElem (by omega)]
    exact List.getElem_mem _
end Act
