/-! LANDS read: people and paths -/
def paR (T : List (Nat × Nat)) (i : Nat) (l : Ld) : Nat ⊕ (Nat × Ld) := if nmF T i 0 (((ld_p l).length : Int) - 1) = 0 then (if (tk T (i + 1)).1 = 1001 + nmV T i then .inl (flt T (i + 1) 1) else if nmF T (i + 1) 0 (((ld_p l).length : Int) - 1) = 0 then (if nmF T (i + 1 + 1) 1 9 = 0 then .inr (i + 1 + 1 + 1, (ld_n l, ld_so l, ld_q l, ld_p l, ld_w l ++ [(nmV T i, nmV T (i + 1), nmV T (i + 1 + 1))], ld_t l)) else .inl (nmF T (i + 1 + 1) 1 9)) else .inl (nmF T (i + 1) 0 (((ld_p l).length : Int) - 1))) else .inl (nmF T i 0 (((ld_p l).length : Int) - 1))
section La2
variable {d a i f : Nat} {h h1 h2 : mHeap} {T : List (Nat × Nat)} {l : Ld} {X : Nat → Nat}
/-- readPerson -/
theorem c35 {K : mHeap → Prop} (hE : (tk T (T.length - 1)).1 = 0) (hC : LdC h T i 0) (hL : LaQ h a l (wyP l)) (ok : LdOk l) (hp : (ld_q l).length < 6) (ha : 69 ≤ a) (hK : ∀ h1, laO T a l h h1 i (peR T i l) → K h1) : GoCv (d + 3) 35 [.ref a, .ref 65] h K := by
  have o9 : ∀ {h' : mHeap}, TxS h' → oC h' 65 = 9 := fun t => (TxS_ok t).2.2.2.2.2.2.2.2.2.2
  have n8 := ok.1
  have p0 : 0 < 2 ^ ld_n l := Nat.two_pow_pos _
  have p8 : 2 ^ ld_n l ≤ 256 := Nat.pow_le_pow_right (n := 2) (by decide) n8
  have sh : shl (ii 1) (ii (ld_n l : Nat)) - ii 1 = ii (((2 ^ ld_n l : Nat) : Int) - 1) := by rw [shl1 (by omega), ii_sub]
  rw [e35, b35_0]
  refine ⟨o9 hC.2.1, ?_⟩
  -- the last of it, once it has failed
  have d5 : ∀ f' h4, ¬ f' = 0 → peR T i l = .inl f' → laF a h h4 → LdC h4 T (T.length - 1) f' → LaQ h4 a l (wyP l) → ∀ (Q : mHeap → Prop), GoCi (d + 2) 113 [.ref 65] h4 (fun v5 h5 => (if ¬ v5 = ii 0 then (rV K none h5) else Q h5)) := fun f' h4 nf er F C L Q => by
    refine (c113 (d := d + 1) C.2.1 C.2.2.1 C.2.2.2.1).mpr ?_
    rw [if_neg nf, if_pos (by decide), rV_s]
    exact hK h4 ⟨F, Or.inr ⟨f', nf, er, C, L⟩⟩
  -- a number more is asked, though it has failed
  have dn : ∀ f' h4 (x1 x2 : Int32) (Q : Int32 → mHeap → Prop), ¬ f' = 0 → laF a h h4 → LdC h4 T (T.length - 1) f' → LaQ h4 a l (wyP l) → (∀ v h5, laF a h h5 → LdC h5 T (T.length - 1) f' → LaQ h5 a l (wyP l) → Q v h5) → GoCi (d + 2) 114 [.ref 65, .int x1, .int x2] h4 Q := fun f' h4 x1 x2 Q nf F C L hQ => by
    refine num (d := d + 0) (lo := 0) (hi := 0) hE C (fun g => absurd g nf) (fun g => absurd g nf) (fun f2 v2 nf2 _ e2 h2 G2 C2 => ?_)
    have e2' := e2 nf
    subst e2'
    exact hQ v2 h2 (F.tr (laF.txG G2)) C2 (L.tx G2 (by omega))
  have q1 : peR T i l = (if nmF T i 0 1 = 0 then (if nmF T (i + 1) 1 128 = 0 then (if nmF T (i + 1 + 1) 0 (((2 ^ ld_n l : Nat) : Int) - 1) = 0 then (if nmF T (i + 1 + 1 + 1) 0 99 = 0 then .inr (i + 1 + 1 + 1 + 1, (ld_n l, ld_so l, ld_q l ++ [(nmV T i, nmV T (i + 1), nmV T (i + 1 + 1), nmV T (i + 1 + 1 + 1))], ld_p l, ld_w l, ld_t l)) else .inl (nmF T (i + 1 + 1 + 1) 0 99)) else .inl (nmF T (i + 1 + 1) 0 (((2 ^ ld_n l : Nat) : Int) - 1))) else .inl (nmF T (i + 1) 1 128)) else .inl (nmF T i 0 1)) := rfl
  refine num (d := d + 0) (lo := 0) (hi := 1) hE hC (fun _ => ⟨rfl, rfl, by decide, by decide⟩) (fun _ n1 b1 b2 h1 G1 C1 => ?_) (fun f' v nf e _ h1 G1 C1 => ?_)
  rotate_left
  · have e' := e rfl
    rw [if_neg (nm_bad e' nf), e'] at q1
    refine ⟨o9 C1.2.1, ?_⟩
    refine dn f' h1 _ _ _ nf (laF.txG G1) C1 (hL.tx G1 (by omega)) (fun v2 h2 F2 C2 L2 => ?_)
    simp only [LaS_ok L2.1, true_and]
    refine ⟨o9 C2.2.1, ?_⟩
    refine dn f' h2 _ _ _ nf F2 C2 L2 (fun v3 h3 F3 C3 L3 => ?_)
    refine ⟨o9 C3.2.1, ?_⟩
    refine dn f' h3 _ _ _ nf F3 C3 L3 (fun v4 h4 F4 C4 L4 => ?_)
    refine ⟨o9 C4.2.1, ?_⟩
    exact d5 f' h4 nf q1 F4 C4 L4 _
  rw [if_pos n1] at q1
  have L1 := hL.tx G1 (by omega)
  refine ⟨o9 C1.2.1, ?_⟩
  refine num (d := d + 0) (lo := 1) (hi := 128) hE C1 (fun _ => ⟨rfl, rfl, by decide, by decide⟩) (fun _ n2 b3 b4 h2 G2 C2 => ?_) (fun f' v nf e _ h2 G2 C2 => ?_)
  rotate_left
  · have e' := e rfl
    rw [if_neg (nm_bad e' nf), e'] at q1
    have L2 := L1.tx G2 (by omega)
    simp only [LaS_ok L2.1, true_and]
    refine ⟨o9 C2.2.1, ?_⟩
    refine dn f' h2 _ _ _ nf ((laF.txG G1).tr (laF.txG G2)) C2 L2 (fun v3 h3 F3 C3 L3 => ?_)
    refine ⟨o9 C3.2.1, ?_⟩
    refine dn f' h3 _ _ _ nf F3 C3 L3 (fun v4 h4 F4 C4 L4 => ?_)
    refine ⟨o9 C4.2.1, ?_⟩
    exact d5 f' h4 nf q1 F4 C4 L4 _
  rw [if_pos n2] at q1
  have L2 := L1.tx G2 (by omega)
  simp only [LaS_ok L2.1, L2.2.1, sh, true_and]
  refine ⟨o9 C2.2.1, ?_⟩
  refine num (d := d + 0) (lo := 0) (hi := ((2 ^ ld_n l : Nat) : Int) - 1) hE C2 (fun _ => ⟨rfl, rfl, by decide, by omega⟩) (fun _ n3 b5 b6 h3 G3 C3 => ?_) (fun f' v nf e _ h3 G3 C3 => ?_)
  rotate_left
  · have e' := e rfl
    rw [if_neg (nm_bad e' nf), e'] at q1
    have L3 := L2.tx G3 (by omega)
    refine ⟨o9 C3.2.1, ?_⟩
    refine dn f' h3 _ _ _ nf ((laF.txG G1).tr ((laF.txG G2).tr (laF.txG G3))) C3 L3 (fun v4 h4 F4 C4 L4 => ?_)
    refine ⟨o9 C4.2.1, ?_⟩
    exact d5 f' h4 nf q1 F4 C4 L4 _
  rw [if_pos n3] at q1
  have L3 := L2.tx G3 (by omega)
  refine ⟨o9 C3.2.1, ?_⟩
  refine num (d := d + 0) (lo := 0) (hi := 99) hE C3 (fun _ => ⟨rfl, rfl, by decide, by decide⟩) (fun _ n4 b7 b8 h4 G4 C4 => ?_) (fun f' v nf e _ h4 G4 C4 => ?_)
  rotate_left
  · have e' := e rfl
    rw [if_neg (nm_bad e' nf), e'] at q1
    refine ⟨o9 C4.2.1, ?_⟩
    exact d5 f' h4 nf q1 ((laF.txG G1).tr ((laF.txG G2).tr ((laF.txG G3).tr (laF.txG G4)))) C4 (L3.tx G4 (by omega)) _
  rw [if_pos n4] at q1
  have L4 := L3.tx G4 (by omega)
  have FG : laF a h h4 := (laF.txG G1).tr ((laF.txG G2).tr ((laF.txG G3).tr (laF.txG G4)))
  refine ⟨o9 C4.2.1, ?_⟩
  refine (c113 (d := d + 1) C4.2.1 C4.2.2.1 (by decide)).mpr ?_
  rw [if_pos rfl, if_neg (by simp)]
  have hv1 : nmV T i ≤ 1 := by omega
  clear n1 n2 n3 n4 dn d5
  generalize nmV T i = v1 at *
  generalize nmV T (i + 1) = v2 at *
  generalize nmV T (i + 1 + 1) = v3 at *
  generalize nmV T (i + 1 + 1 + 1) = v4 at *
  simp only [LaS_ok L4.1, L4.2.2.2.1, L4.2.2.2.2.1, true_and]
  have vs : ii (nb (fun q => decide ((la_q l q).1 = 1)) 6 : Nat) ||| shl (ii (v1 : Int)) (ii (ld_q l).length) = ii (nb (fun q => decide ((la_q (ld_n l, ld_so l, ld_q l ++ [(v1, v2, v3, v4)], ld_p l, ld_w l, ld_t l) q).1 = 1)) 6 : Nat) := by
    have el : ∀ q, la_q (ld_n l, ld_so l, ld_q l ++ [(v1, v2, v3, v4)], ld_p l, ld_w l, ld_t l) q = if q = (ld_q l).length then (v1, v2, v3, v4) else if q < (ld_q l).length then la_q l q else (0, 0, 0, 0) := fun q => getD_app
    have e0 : ∀ q, (ld_q l).length ≤ q → la_q l q = (0, 0, 0, 0) := fun q hq => by
      unfold la_q
      rw [List.getD_eq_getElem?_getD, List.getElem?_eq_none hq]; rfl
    have c01 : v1 = 0 ∨ v1 = 1 := by omega
    rcases c01 with c | c
    · subst c
      have s0 : shl (ii ((0 : Nat) : Int)) (ii (ld_q l).length) = ii ((0 : Nat) : Int) := by rw [shl_ii _ (show (ld_q l).length < 32 by omega)]; congr 1; omega
      rw [s0, or_ii, Nat.or_zero]
      congr 2
      refine nb_ext (fun q hq => ?_)
      rw [el]
      by_cases g : q = (ld_q l).length
      · rw [if_pos g, g, e0 _ (Nat.le_refl _)]
      · rw [if_neg g]
        by_cases g2 : q < (ld_q l).length
        · rw [if_pos g2]
        · rw [if_neg g2, e0 q (by omega)]
    · subst c
      rw [show ii ((1 : Nat) : Int) = ii 1 from rfl, shl1 (by omega), or_ii, nb_set hp]
      congr 2
      refine nb_ext (fun q hq => ?_)
      rw [el]
      unfold upf
      by_cases g : q = (ld_q l).length
      · rw [if_pos g, if_pos g]; rfl
      · rw [if_neg g, if_neg g]
        by_cases g2 : q < (ld_q l).length
        · rw [if_pos g2]
        · rw [if_neg g2]
          show decide ((la_q l q).1 = 1) = _
          rw [e0 q (by omega)]
  rw [vs]
  have p3 := putL L4.1 (k := 3) (by omega) (ii (nb (fun q => decide ((la_q (ld_n l, ld_so l, ld_q l ++ [(v1, v2, v3, v4)], ld_p l, ld_w l, ld_t l) q).1 = 1)) 6 : Nat))
  refine ⟨p3.1, ?_⟩
  have F1 := p3.2.1
  have w1 := p3.2.2.1
  have S1 := p3.2.2.2
  generalize sF h4 a 3 (.int (ii (nb (fun q => decide ((la_q (ld_n l, ld_so l, ld_q l ++ [(v1, v2, v3, v4)], ld_p l, ld_w l, ld_t l) q).1 = 1)) 6 : Nat))) = H1 at *
  have f1 : fI H1 a 2 = ii (ld_q l).length := by rw [w1, if_neg (by decide)]; exact L4.2.2.2.1
  have ro1 := row_ok S1.2.2.2.1 hp (by omega)
  simp only [LaS_ok S1, LaS_fR S1, f1, true_and]
  refine ⟨⟨by omega, ro1.1⟩, ?_⟩
  have x1 := fun b => sI_row (b := b) (v := ii (v2 : Int)) S1.2.2.2.1 hp (by omega)
  have F2 : Fr (a + 2) 1 H1 (sI H1 (a + 2) (ii (ld_q l).length) (ii (v2 : Int))) := Fr.sI
  generalize sI H1 (a + 2) (ii (ld_q l).length) (ii (v2 : Int)) = H2 at *
  have S2 := F2.1.LaS S1
  have f2 : ∀ j, fI H2 a j = fI H1 a j := fun j => same_fI (F2.2.2.2 a (by omega)) j
  have ro2 := row_ok S2.2.2.1 hp (by omega)
  simp only [LaS_ok S2, LaS_fR S2, f2, f1, true_and]
  refine ⟨⟨by omega, ro2.1⟩, ?_⟩
  have x2 := fun b => sI_row (b := b) (v := ii (v3 : Int)) S2.2.2.1 hp (by omega)
  have F3 : Fr (a + 1) 1 H2 (sI H2 (a + 1) (ii (ld_q l).length) (ii (v3 : Int))) := Fr.sI
  generalize sI H2 (a + 1) (ii (ld_q l).length) (ii (v3 : Int)) = H3 at *
  have S3 := F3.1.LaS S2
  have f3 : ∀ j, fI H3 a j = fI H1 a j := fun j => by rw [same_fI (F3.2.2.2 a (by omega)) j, f2]
  have ro3 := row_ok S3.2.2.2.2.1 hp (by omega)
  simp only [LaS_ok S3, LaS_fR S3, f3, f1, true_and]
  refine ⟨⟨by omega, ro3.1⟩, ?_⟩
  have x3 := fun b => sI_row (b := b) (v := ii (v4 : Int)) S3.2.2.2.2.1 hp (by omega)
  have F4 : Fr (a + 3) 1 H3 (sI H3 (a + 3) (ii (ld_q l).length) (ii (v4 : Int))) := Fr.sI
  generalize sI H3 (a + 3) (ii (ld_q l).length) (ii (v4 : Int)) = H4 at *
  have S4 := F4.1.LaS S3
  have f4 : ∀ j, fI H4 a j = fI H1 a j := fun j => by rw [same_fI (F4.2.2.2 a (by omega)) j, f3]
  have p5 := putL S4 (k := 2) (by omega) (ii (ld_q l).length + ii 1)
  simp only [LaS_ok S4, f4, f1, true_and]
  refine ⟨p5.1, ?_⟩
  have F5 := p5.2.1
  have w5 := p5.2.2.1
  have S5 := p5.2.2.2
  generalize sF H4 a 2 (.int (ii (ld_q l).length + ii 1)) = H5 at *
  rw [rV_s]
  obtain ⟨s, r1, r2, r3, r4, r5, r6, r7, r8, r9, r10, r11⟩ := L4
  have e : ∀ c, ¬ c = a → ¬ c = a + 1 → ¬ c = a + 2 → ¬ c = a + 3 → H5[c]? = h4[c]? := fun c n0 n1 n2 n3 => by rw [F5.2.2.2 c (by omega), F4.2.2.2 c (by omega), F3.2.2.2 c (by omega), F2.2.2.2 c (by omega), F1.2.2.2 c (by omega)]
  have g : ∀ j, ¬ j = 2 → ¬ j = 3 → fI H5 a j = fI h4 a j := fun j n2 n3 => by rw [w5, if_neg n2, f4, w1, if_neg n3]
  refine hK H5 ⟨FG.tr ((laF.fr F1 (by omega) ha).tr ((laF.fr F2 (by omega) ha).tr ((laF.fr F3 (by omega) ha).tr ((laF.fr F4 (by omega) ha).tr (laF.fr F5 (by omega) ha))))), Or.inl ⟨_, _, q1, by omega, ((((C4.fr F1 (by omega)).fr F2 (by omega)).fr F3 (by omega)).fr F4 (by omega)).fr F5 (by omega), S5, ?_, ?_, ?_, ?_, ?_, ?_, ?_, fun q hq => ?_, ?_, ?_, ?_⟩⟩
  · rw [g 0 (by decide) (by decide)]; exact r1
  · rw [g 1 (by decide) (by decide)]; exact r2
  · rw [w5, if_pos rfl, ii_add]
    show _ = ii (((ld_q l ++ [(v1, v2, v3, v4)]).length : Nat) : Int)
    rw [List.length_append]; rfl
  · rw [w5, if_neg (by decide), f4, w1, if_pos rfl]
  · rw [g 7 (by decide) (by decide)]; exact r5
  · rw [g 9 (by decide) (by decide)]; exact r6
  · rw [g 11 (by decide) (by decide)]; exact r7
  · have hq' : q < (ld_q l ++ [(v1, v2, v3, v4)]).length := hq
    rw [List.length_append] at hq'
    have hq2 : q < (ld_q l).length + 1 := hq'
    have el : la_q (ld_n l, ld_so l, ld_q l ++ [(v1, v2, v3, v4)], ld_p l, ld_w l, ld_t l) q = if q = (ld_q l).length then (v1, v2, v3, v4) else if q < (ld_q l).length then la_q l q else (0, 0, 0, 0) := getD_app
    have y1 : xA H5 (a + 1) = upf (xA h4 (a + 1)) (ld_q l).length (ii (v3 : Int)) := by rw [same_xA (F5.2.2.2 (a + 1) (by omega)), same_xA (F4.2.2.2 (a + 1) (by omega)), x2 (a + 1), if_pos rfl, same_xA (F2.2.2.2 (a + 1) (by omega)), same_xA (F1.2.2.2 (a + 1) (by omega))]
    have y2 : xA H5 (a + 2) = upf (xA h4 (a + 2)) (ld_q l).length (ii (v2 : Int)) := by rw [same_xA (F5.2.2.2 (a + 2) (by omega)), same_xA (F4.2.2.2 (a + 2) (by omega)), same_xA (F3.2.2.2 (a + 2) (by omega)), x1 (a + 2), if_pos rfl, same_xA (F1.2.2.2 (a + 2) (by omega))]
    have y3 : xA H5 (a + 3) = upf (xA h4 (a + 3)) (ld_q l).length (ii (v4 : Int)) := by rw [same_xA (F5.2.2.2 (a + 3) (by omega)), x3 (a + 3), if_pos rfl, same_xA (F3.2.2.2 (a + 3) (by omega)), same_xA (F2.2.2.2 (a + 3) (by omega)), same_xA (F1.2.2.2 (a + 3) (by omega))]
    rw [el, y1, y2, y3]
    unfold upf
    by_cases c : q = (ld_q l).length
    · rw [if_pos c, if_pos c, if_pos c, if_pos c]; exact ⟨rfl, rfl, rfl⟩
    · rw [if_neg c, if_neg c, if_neg c, if_neg c, if_pos (by omega)]; exact r8 q (by omega)
  · rw [same_xA (e (a + 4) (by omega) (by omega) (by omega) (by omega))]; exact r9
  · rw [same_xA (e (a + 5) (by omega) (by omega) (by omega) (by omega))]; exact r10
  · rw [same_xA (e (a + 6) (by omega) (by omega) (by omega) (by omega)), same_xA (e (a + 7) (by omega) (by omega) (by omega) (by omega))]; exact r11
theorem wyP_le (l : Ld) : ∀ i, wyP l i ≤ 1000 := foldl_inv (I := fun (f : Nat → Nat) => ∀ i, f i ≤ 1000) (fun f w hf => shorten_le (shorten_le hf)) _ _ (fun i => by unfold wy0; split <;> omega)
/-- readPath -/
theorem c37 {K : mHeap → Prop} (hE : (tk T (T.length - 1)).1 = 0) (hC : LdC h T i 0) (hL : LaQ h a l (wyP l)) (ok : LdOk l) (ha : 69 ≤ a) (hK : ∀ h1, laO T a l h h1 i (paR T i l) → K h1) : GoCv (d + 3) 37 [.ref a, .ref 65] h K := by
  have o9 : ∀ {h' : mHeap}, TxS h' → oC h' 65 = 9 := fun t => (TxS_ok t).2.2.2.2.2.2.2.2.2.2
  have p6 := ok.2.2.2.1
  have o2 : ∀ {h'}, LaS h' a → oC h' a = 2 := fun s => (LaS_ok s).2.2.2.2.2.2.2.2.2.2.2.2.2.2
  have q1 : paR T i l = (if nmF T i 0 (((ld_p l).length : Int) - 1) = 0 then (if (tk T (i + 1)).1 = 1001 + nmV T i then .inl (flt T (i + 1) 1) else if nmF T (i + 1) 0 (((ld_p l).length : Int) - 1) = 0 then (if nmF T (i + 1 + 1) 1 9 = 0 then .inr (i + 1 + 1 + 1, (ld_n l, ld_so l, ld_q l, ld_p l, ld_w l ++ [(nmV T i, nmV T (i + 1), nmV T (i + 1 + 1))], ld_t l)) else .inl (nmF T (i + 1 + 1) 1 9)) else .inl (nmF T (i + 1) 0 (((ld_p l).length : Int) - 1))) else .inl (nmF T i 0 (((ld_p l).length : Int) - 1))) := rfl
  have dn : ∀ f' h4 (x1 x2 : Int32) (Q : Int32 → mHeap → Prop), ¬ f' = 0 → laF a h h4 → LdC h4 T (T.length - 1) f' → LaQ h4 a l (wyP l) → (∀ v h5, laF a h h5 → LdC h5 T (T.length - 1) f' → LaQ h5 a l (wyP l) → Q v h5) → GoCi (d + 2) 114 [.ref 65, .int x1, .int x2] h4 Q := fun f' h4 x1 x2 Q nf F C L hQ => by
    refine num (d := d + 0) (lo := 0) (hi := 0) hE C (fun g => absurd g nf) (fun g => absurd g nf) (fun f2 v2 nf2 _ e2 h2 G2 C2 => ?_)
    have e2' := e2 nf
    subst e2'
    exact hQ v2 h2 (F.tr (laF.txG G2)) C2 (L.tx G2 (by omega))
  -- the rest, once it has failed
  have dr : ∀ f' h4 (x2 : Int32) (l3 l4 : Option Value), ¬ f' = 0 → paR T i l = .inl f' → laF a h h4 → LdC h4 T (T.length - 1) f' → LaQ h4 a l (wyP l) → Go (d + 2) 37 29 [some (.ref a), some (.ref 65), some (.int x2), l3, l4] [] h4 (rV K) := fun f' h4 x2 l3 l4 nf er F C L => by
    rw [b37_29]
    simp only [LaS_ok L.1, true_and]
    refine ⟨o9 C.2.1, ?_⟩
    refine dn f' h4 _ _ _ nf F C L (fun v1 h5 F5 C5 L5 => ?_)
    refine ⟨o9 C5.2.1, ?_⟩
    refine dn f' h5 _ _ _ nf F5 C5 L5 (fun v2 h6 F6 C6 L6 => ?_)
    refine ⟨o9 C6.2.1, ?_⟩
    refine (c113 (d := d + 1) C6.2.1 C6.2.2.1 C6.2.2.2.1).mpr ?_
    rw [if_neg nf, if_pos (by decide), rV_s]
    exact hK h6 ⟨F6, Or.inr ⟨f', nf, er, C6, L6⟩⟩
  rw [e37, b37_0]
  simp only [LaS_ok hL.1, hL.2.2.2.2.2.1, true_and, ii_sub]
  refine ⟨o9 hC.2.1, ?_⟩
  refine num (d := d + 0) (lo := 0) (hi := ((ld_p l).length : Int) - 1) hE hC (fun _ => ⟨rfl, rfl, by decide, by omega⟩) (fun _ n1 b1 b2 h1 G1 C1 => ?_) (fun f' v nf e _ h1 G1 C1 => ?_)
  rotate_left
  · have e' := e rfl
    rw [if_neg (nm_bad e' nf), e'] at q1
    have L1 := hL.tx G1 (by omega)
    refine ⟨o9 C1.2.1, ?_⟩
    rw [c107 C1.2.1 C1.2.2.1]
    by_cases c : ii (((tk T (T.length - 1)).1 : Int) - 1) = ii 1000 + v
    · rw [if_neg (fun g => g c)]
      refine ⟨o9 C1.2.1, ?_⟩
      refine c112 (d := d + 1) (kind := 1) C1.2.1 C1.2.2.1 C1.2.2.2.1 (fun h2 G2 X2 => ?_)
      have eb : blm T (T.length - 1) f' 1 = f' := by unfold blm; rw [if_neg nf]
      rw [eb] at X2
      exact dr f' h2 _ _ _ nf q1 ((laF.txG G1).tr (laF.txG G2)) (C1.tx G2 X2 C1.2.2.2.1 (Or.inr rfl)) (L1.tx G2 (by omega))
    · rw [if_pos c]
      exact dr f' h1 _ _ _ nf q1 (laF.txG G1) C1 L1
  rw [if_pos n1] at q1
  have L1 := hL.tx G1 (by omega)
  have X1 := C1.2.2.1
  have tb := (X1.2.2.2.2.2 (i + 1) X1.2.2.1).1
  have ev : ii 1000 + ii (nmV T i : Nat) = ii ((1000 + nmV T i : Nat) : Int) := by rw [ii_add]; rfl
  refine ⟨o9 C1.2.1, ?_⟩
  rw [c107 C1.2.1 X1, ev]
  by_cases ce : (tk T (i + 1)).1 = 1001 + nmV T i
  · rw [if_pos ce] at q1
    have e3 : ((1001 + nmV T i : Nat) : Int) - 1 = ((1000 + nmV T i : Nat) : Int) := by omega
    rw [if_neg (fun g => g (by rw [ce, e3]))]
    refine ⟨o9 C1.2.1, ?_⟩
    refine c112 (d := d + 1) (kind := 1) C1.2.1 X1 (by decide) (fun h2 G2 X2 => ?_)
    have fl := flt_lt X1 (kind := 1) (by decide)
    exact dr _ h2 _ _ _ fl.2 q1 ((laF.txG G1).tr (laF.txG G2)) (C1.tx G2 X2 fl.1 (Or.inr rfl)) (L1.tx G2 (by omega))
  rw [if_neg ce] at q1
  rw [if_pos (by rw [ii_eq (by omega) (by omega) (by omega) (by omega)]; omega)]
  rw [b37_29]
  simp only [LaS_ok L1.1, L1.2.2.2.2.2.1, true_and, ii_sub]
  refine ⟨o9 C1.2.1, ?_⟩
  refine num (d := d + 0) (lo := 0) (hi := ((ld_p l).length : Int) - 1) hE C1 (fun _ => ⟨rfl, rfl, by decide, by omega⟩) (fun _ n2 b3 b4 h2 G2 C2 => ?_) (fun f' v nf e _ h2 G2 C2 => ?_)
  rotate_left
  · have e' := e rfl
    rw [if_neg (nm_bad e' nf), e'] at q1
    refine ⟨o9 C2.2.1, ?_⟩
    refine dn f' h2 _ _ _ nf ((laF.txG G1).tr (laF.txG G2)) C2 (L1.tx G2 (by omega)) (fun v2 h6 F6 C6 L6 => ?_)
    refine ⟨o9 C6.2.1, ?_⟩
    refine (c113 (d := d + 1) C6.2.1 C6.2.2.1 C6.2.2.2.1).mpr ?_
    rw [if_neg nf, if_pos (by decide), rV_s]
    exact hK h6 ⟨F6, Or.inr ⟨f', nf, q1, C6, L6⟩⟩
  rw [if_pos n2] at q1
  have L2 := L1.tx G2 (by omega)
  refine ⟨o9 C2.2.1, ?_⟩
  refine num (d := d + 0) (lo := 1) (hi := 9) hE C2 (fun _ => ⟨rfl, rfl, by decide, by decide⟩) (fun _ n3 b5 b6 h3 G3 C3 => ?_) (fun f' v nf e _ h3 G3 C3 => ?_)
  rotate_left
  · have e' := e rfl
    rw [if_neg (nm_bad e' nf), e'] at q1
    refine ⟨o9 C3.2.1, ?_⟩
    refine (c113 (d := d + 1) C3.2.1 C3.2.2.1 C3.2.2.2.1).mpr ?_
    rw [if_neg nf, if_pos (by decide), rV_s]
    exact hK h3 ⟨(laF.txG G1).tr ((laF.txG G2).tr (laF.txG G3)), Or.inr ⟨f', nf, q1, C3, L2.tx G3 (by omega)⟩⟩
  rw [if_pos n3] at q1
  have L3 := L2.tx G3 (by omega)
  refine ⟨o9 C3.2.1, ?_⟩
  refine (c113 (d := d + 1) C3.2.1 C3.2.2.1 (by decide)).mpr ?_
  rw [if_pos rfl, if_neg (by simp)]
  clear n1 n2 n3 dn dr ev ce
  generalize nmV T i = v1 at *
  generalize nmV T (i + 1) = v2 at *
  generalize nmV T (i + 1 + 1) = v3 at *
  refine ⟨o2 L3.1, ?_⟩
  refine c39 (d := d + 1) L3 (wyP_le l) (show v1 < 6 by omega) (show v2 < 6 by omega) (by omega) (fun h4 F4 Q4 => ?_)
  refine ⟨o2 Q4.1, ?_⟩
  refine c39 (d := d + 1) Q4 (shorten_le (wyP_le l)) (show v2 < 6 by omega) (show v1 < 6 by omega) (by omega) (fun h5 F5 Q5 => ?_)
  have p9 := putL Q5.1 (k := 9) (by omega) (ii (ld_w l).length + ii 1)
  simp only [LaS_ok Q5.1, Q5.2.2.2.2.2.2.1, true_and]
  refine ⟨p9.1, ?_⟩
  have F6 := p9.2.1
  have w6 := p9.2.2.1
  have S6 := p9.2.2.2
  generalize sF h5 a 9 (.int (ii (ld_w l).length + ii 1)) = H6 at *
  rw [rV_s]
  obtain ⟨s, r1, r2, r3, r4, r5, r6, r7, r8, r9, r10, r11⟩ := Q5
  have e : ∀ c, ¬ c = a → H6[c]? = h5[c]? := fun c n0 => F6.2.2.2 c (by omega)
  have g : ∀ j, ¬ j = 9 → fI H6 a j = fI h5 a j := fun j n0 => by rw [w6, if_neg n0]
  have ew : wyP (ld_n l, ld_so l, ld_q l, ld_p l, ld_w l ++ [(v1, v2, v3)], ld_t l) = shorten (shorten (wyP l) v1 v2 v3) v2 v1 v3 := by
    unfold wyP
    show (ld_w l ++ [(v1, v2, v3)]).foldl _ wy0 = _
    rw [List.foldl_append]
    rfl
  refine hK H6 ⟨(laF.txG G1).tr ((laF.txG G2).tr ((laF.txG G3).tr ((laF.fr F4 (by omega) ha).tr ((laF.fr F5 (by omega) ha).tr (laF.fr F6 (by omega) ha))))), Or.inl ⟨_, _, q1, by omega, ((C3.fr F4 (by omega)).fr F5 (by omega)).fr F6 (by omega), S6, ?_, ?_, ?_, ?_, ?_, ?_, ?_, ?_, ?_, ?_, ?_⟩⟩
  · rw [g 0 (by decide)]; exact r1
  · rw [g 1 (by decide)]; exact r2
  · rw [g 2 (by decide)]; exact r3
  · rw [g 3 (by decide)]; exact r4
  · rw [g 7 (by decide)]; exact r5
  · rw [w6, if_pos rfl, ii_add]
    show _ = ii (((ld_w l ++ [(v1, v2, v3)]).length : Nat) : Int)
    rw [List.length_append]; rfl
  · rw [g 11 (by decide)]; exact r7
  · rw [same_xA (e (a + 1) (by omega)), same_xA (e (a + 2) (by omega)), same_xA (e (a + 3) (by omega))]; exact r8
  · rw [same_xA (e (a + 4) (by omega))]; exact r9
  · rw [same_xA (e (a + 5) (by omega)), ew]; exact r10
  · rw [same_xA (e (a + 6) (by omega)), same_xA (e (a + 7) (by omega))]; exact r11
end La2
