/-! LANDS read: what each clause says -/
def fcR (T : List (Nat × Nat)) (i : Nat) (l : Ld) : Nat ⊕ (Nat × Ld) := if nmF T i 1 8 = 0 then (if nmF T (i + 1) 0 (((2 ^ nmV T i : Nat) : Int) - 1) = 0 then .inr (i + 1 + 1, (nmV T i, nmV T (i + 1), ld_q l, ld_p l, ld_w l, ld_t l)) else .inl (nmF T (i + 1) 0 (((2 ^ nmV T i : Nat) : Int) - 1))) else .inl (nmF T i 1 8)
def peR (T : List (Nat × Nat)) (i : Nat) (l : Ld) : Nat ⊕ (Nat × Ld) := if nmF T i 0 1 = 0 then (if nmF T (i + 1) 1 128 = 0 then (if nmF T (i + 1 + 1) 0 (((2 ^ ld_n l : Nat) : Int) - 1) = 0 then (if nmF T (i + 1 + 1 + 1) 0 99 = 0 then .inr (i + 1 + 1 + 1 + 1, (ld_n l, ld_so l, ld_q l ++ [(nmV T i, nmV T (i + 1), nmV T (i + 1 + 1), nmV T (i + 1 + 1 + 1))], ld_p l, ld_w l, ld_t l)) else .inl (nmF T (i + 1 + 1 + 1) 0 99)) else .inl (nmF T (i + 1 + 1) 0 (((2 ^ ld_n l : Nat) : Int) - 1))) else .inl (nmF T (i + 1) 1 128)) else .inl (nmF T i 0 1)
def plR (T : List (Nat × Nat)) (i : Nat) (l : Ld) : Nat ⊕ (Nat × Ld) := if nmF T i 0 ((ld_n l : Int) - 1) = 0 then .inr (i + 1, (ld_n l, ld_so l, ld_q l, ld_p l ++ [nmV T i], ld_w l, ld_t l)) else .inl (nmF T i 0 ((ld_n l : Int) - 1))
def tuR (T : List (Nat × Nat)) (i : Nat) (l : Ld) : Nat ⊕ (Nat × Ld) := if nmF T i 0 ((ld_n l : Int) - 1) = 0 then (if nmF T (i + 1) 1 99 = 0 then .inr (i + 1 + 1, (ld_n l, ld_so l, ld_q l, ld_p l, ld_w l, ld_t l ++ [(nmV T i, nmV T (i + 1))])) else .inl (nmF T (i + 1) 1 99)) else .inl (nmF T i 0 ((ld_n l : Int) - 1))
def laF (a : Nat) (h h1 : mHeap) : Prop := FrT (fun c => c = 65 ∨ (a ≤ c ∧ c < a + 8)) h h1 ∧ ∀ j, ¬ j = 2 → ¬ j = 6 → fI h1 65 j = fI h 65 j
def laO (T : List (Nat × Nat)) (a : Nat) (l : Ld) (h h1 : mHeap) (i : Nat) (r : Nat ⊕ (Nat × Ld)) : Prop := laF a h h1 ∧ ((∃ i' l', r = .inr (i', l') ∧ i ≤ i' ∧ LdC h1 T i' 0 ∧ LaQ h1 a l' (wyP l')) ∨ (∃ f', ¬ f' = 0 ∧ r = .inl f' ∧ LdC h1 T (T.length - 1) f' ∧ LaQ h1 a l (wyP l)))
section La1
variable {d a i f : Nat} {h h1 h2 : mHeap} {T : List (Nat × Nat)} {l : Ld} {X : Nat → Nat}
theorem laF.rf : laF a h h := ⟨FrT.rf, fun _ _ _ => rfl⟩
theorem laF.tr (x : laF a h h1) (y : laF a h1 h2) : laF a h h2 := ⟨x.1.tr y.1, fun j p q => (y.2 j p q).trans (x.2 j p q)⟩
theorem laF.txG (G : txG h h1) : laF a h h1 := ⟨G.1.toT (fun c g1 g2 => Or.inl (by omega)), G.2⟩
theorem laF.fr {lo n : Nat} (x : Fr lo n h h1) (e : a ≤ lo ∧ lo + n ≤ a + 8) (ha : 69 ≤ a) : laF a h h1 := ⟨x.toT (fun c g1 g2 => Or.inr (by omega)), fun j _ _ => same_fI (x.2.2.2 65 (by omega)) j⟩
theorem nm_bad {lo hi : Int} {i' : Nat} (e : nmF T i' lo hi = f) (nf : ¬ f = 0) : ¬ nmF T i' lo hi = 0 := by rw [e]; exact nf
/-- readFacts -/
theorem c34 {K : mHeap → Prop} (hE : (tk T (T.length - 1)).1 = 0) (hC : LdC h T i 0) (hL : LaQ h a l (wyP l)) (ha : 69 ≤ a) (hK : ∀ h1, laO T a l h h1 i (fcR T i l) → K h1) : GoCv (d + 3) 34 [.ref a, .ref 65] h K := by
  have o9 : ∀ {h' : mHeap}, TxS h' → oC h' 65 = 9 := fun t => (TxS_ok t).2.2.2.2.2.2.2.2.2.2
  rw [e34, b34_0]
  refine ⟨o9 hC.2.1, ?_⟩
  -- all has failed
  have dead : ∀ f' h4, ¬ f' = 0 → fcR T i l = .inl f' → laF a h h4 → LdC h4 T (T.length - 1) f' → LaQ h4 a l (wyP l) → ∀ v1 v2 : Int32, GoCi (d + 2) 113 [.ref 65] h4 (fun v3 h3 => (if ¬ v3 = ii 0 then (rV K none h3) else (okP h3 a 2 0 ∧ okP (sF h3 a 0 (.int v1)) a 2 1 ∧ rV K none (sF (sF h3 a 0 (.int v1)) a 1 (.int v2))))) := fun f' h4 nf er F C L v1 v2 => by
    refine (c113 (d := d + 1) C.2.1 C.2.2.1 C.2.2.2.1).mpr ?_
    rw [if_neg nf, if_pos (by decide), rV_s]
    exact hK h4 ⟨F, Or.inr ⟨f', nf, er, C, L⟩⟩
  refine num (d := d + 0) (lo := 1) (hi := 8) hE hC (fun _ => ⟨rfl, rfl, by decide, by decide⟩) (fun _ n1 b1 b2 h1 G1 C1 => ?_) (fun f' v nf e _ h1 G1 C1 => ?_)
  · have sh : shl (ii 1) (ii (nmV T i : Nat)) - ii 1 = ii (((2 ^ nmV T i : Nat) : Int) - 1) := by rw [shl1 (by omega), ii_sub]
    have p0 : 0 < 2 ^ nmV T i := Nat.two_pow_pos _
    have p8 : 2 ^ nmV T i ≤ 256 := Nat.pow_le_pow_right (n := 2) (by decide) (show nmV T i ≤ 8 by omega)
    have er : fcR T i l = (if nmF T (i + 1) 0 (((2 ^ nmV T i : Nat) : Int) - 1) = 0 then .inr (i + 1 + 1, (nmV T i, nmV T (i + 1), ld_q l, ld_p l, ld_w l, ld_t l)) else .inl (nmF T (i + 1) 0 (((2 ^ nmV T i : Nat) : Int) - 1))) := by unfold fcR; rw [if_pos n1]
    refine ⟨o9 C1.2.1, ?_⟩
    rw [sh]
    refine num (d := d + 0) (lo := 0) (hi := ((2 ^ nmV T i : Nat) : Int) - 1) hE C1 (fun _ => ⟨rfl, rfl, by decide, by omega⟩) (fun _ n2 b3 b4 h2 G2 C2 => ?_) (fun f' v nf e _ h2 G2 C2 => ?_)
    · rw [if_pos n2] at er
      refine ⟨o9 C2.2.1, ?_⟩
      refine (c113 (d := d + 1) C2.2.1 C2.2.2.1 (by decide)).mpr ?_
      rw [if_pos rfl, if_neg (by simp)]
      have L2 := (hL.tx G1 (by omega)).tx G2 (by omega)
      have p0 := putL L2.1 (k := 0) (Or.inl rfl) (ii (nmV T i : Nat))
      refine ⟨p0.1, ?_⟩
      have F0 := p0.2.1
      have v0 := p0.2.2.1
      have S0 := p0.2.2.2
      generalize sF h2 a 0 (.int (ii (nmV T i : Nat))) = H1 at *
      have p1 := putL S0 (k := 1) (Or.inr (Or.inl rfl)) (ii (nmV T (i + 1) : Nat))
      refine ⟨p1.1, ?_⟩
      have F1 := p1.2.1
      have v1 := p1.2.2.1
      have S1 := p1.2.2.2
      generalize sF H1 a 1 (.int (ii (nmV T (i + 1) : Nat))) = H2 at *
      rw [rV_s]
      have F := F0.tr F1
      obtain ⟨s, r1, r2, r3, r4, r5, r6, r7, r8, r9, r10, r11⟩ := L2
      have e : ∀ c, ¬ c = a → H2[c]? = h2[c]? := fun c hc => F.2.2.2 c (by omega)
      have g : ∀ j, ¬ j = 0 → ¬ j = 1 → fI H2 a j = fI h2 a j := fun j h0 h1 => by rw [v1, if_neg h1, v0, if_neg h0]
      generalize nmV T i = nv1 at *
      generalize nmV T (i + 1) = nv2 at *
      refine hK H2 ⟨(laF.txG G1).tr ((laF.txG G2).tr (laF.fr F (by omega) ha)), Or.inl ⟨_, _, er, by omega, C2.fr F (by omega), S1, ?_, ?_, ?_, ?_, ?_, ?_, ?_, ?_, ?_, ?_, ?_⟩⟩
      · rw [v1, if_neg (by decide), v0, if_pos rfl]; rfl
      · rw [v1, if_pos rfl]; rfl
      · rw [g 2 (by decide) (by decide)]; exact r3
      · rw [g 3 (by decide) (by decide)]; exact r4
      · rw [g 7 (by decide) (by decide)]; exact r5
      · rw [g 9 (by decide) (by decide)]; exact r6
      · rw [g 11 (by decide) (by decide)]; exact r7
      · rw [same_xA (e (a + 1) (by omega)), same_xA (e (a + 2) (by omega)), same_xA (e (a + 3) (by omega))]; exact r8
      · rw [same_xA (e (a + 4) (by omega))]; exact r9
      · rw [same_xA (e (a + 5) (by omega))]; exact r10
      · rw [same_xA (e (a + 6) (by omega)), same_xA (e (a + 7) (by omega))]; exact r11
    · have e' := e rfl
      rw [if_neg (nm_bad e' nf), e'] at er
      refine ⟨o9 C2.2.1, ?_⟩
      exact dead f' h2 nf er ((laF.txG G1).tr (laF.txG G2)) C2 ((hL.tx G1 (by omega)).tx G2 (by omega)) _ _
  · have e' := e rfl
    have er : fcR T i l = .inl f' := by unfold fcR; rw [if_neg (nm_bad e' nf), e']
    refine ⟨o9 C1.2.1, ?_⟩
    refine num (d := d + 0) (lo := 0) (hi := 0) hE C1 (fun g => absurd g nf) (fun g => absurd g nf) (fun f2 v2 nf2 _ e2 h2 G2 C2 => ?_)
    have e2' := e2 nf
    subst e2'
    refine ⟨o9 C2.2.1, ?_⟩
    exact dead _ h2 nf er ((laF.txG G1).tr (laF.txG G2)) C2 ((hL.tx G1 (by omega)).tx G2 (by omega)) _ _
/-- readPlace -/
theorem c36 {K : mHeap → Prop} (hE : (tk T (T.length - 1)).1 = 0) (hC : LdC h T i 0) (hL : LaQ h a l (wyP l)) (ok : LdOk l) (hp : (ld_p l).length < 6) (ha : 69 ≤ a) (hK : ∀ h1, laO T a l h h1 i (plR T i l) → K h1) : GoCv (d + 3) 36 [.ref a, .ref 65] h K := by
  have o9 : ∀ {h' : mHeap}, TxS h' → oC h' 65 = 9 := fun t => (TxS_ok t).2.2.2.2.2.2.2.2.2.2
  have n8 := ok.1
  rw [e36, b36_0]
  simp only [LaS_ok hL.1, hL.2.1, true_and, ii_sub]
  refine ⟨o9 hC.2.1, ?_⟩
  refine num (d := d + 0) (lo := 0) (hi := (ld_n l : Int) - 1) hE hC (fun _ => ⟨rfl, rfl, by decide, by omega⟩) (fun _ n1 b1 b2 h1 G1 C1 => ?_) (fun f' v nf e _ h1 G1 C1 => ?_)
  · have er : plR T i l = .inr (i + 1, (ld_n l, ld_so l, ld_q l, ld_p l ++ [nmV T i], ld_w l, ld_t l)) := by unfold plR; rw [if_pos n1]
    refine ⟨o9 C1.2.1, ?_⟩
    refine (c113 (d := d + 1) C1.2.1 C1.2.2.1 (by decide)).mpr ?_
    rw [if_pos rfl, if_neg (by simp)]
    have L1 := hL.tx G1 (by omega)
    have ro := row_ok L1.1.2.2.2.2.2.1 hp (by omega)
    simp only [LaS_ok L1.1, LaS_fR L1.1, L1.2.2.2.2.2.1, true_and]
    refine ⟨⟨by omega, ro.1⟩, ?_⟩
    have w := fun b => sI_row (b := b) (v := ii (nmV T i : Nat)) L1.1.2.2.2.2.2.1 hp (by omega)
    have F1 : Fr (a + 4) 1 h1 (sI h1 (a + 4) (ii (ld_p l).length) (ii (nmV T i : Nat))) := Fr.sI
    generalize sI h1 (a + 4) (ii (ld_p l).length) (ii (nmV T i : Nat)) = H1 at *
    have S1 := F1.1.LaS L1.1
    have f7 : ∀ j, fI H1 a j = fI h1 a j := fun j => same_fI (F1.2.2.2 a (by omega)) j
    have p7 := putL S1 (k := 7) (by omega) (ii (ld_p l).length + ii 1)
    simp only [LaS_ok S1, f7, L1.2.2.2.2.2.1, true_and]
    refine ⟨p7.1, ?_⟩
    have F2 := p7.2.1
    have v2 := p7.2.2.1
    have S2 := p7.2.2.2
    generalize sF H1 a 7 (.int (ii (ld_p l).length + ii 1)) = H2 at *
    rw [rV_s]
    obtain ⟨s, r1, r2, r3, r4, r5, r6, r7, r8, r9, r10, r11⟩ := L1
    have e : ∀ c, ¬ c = a → ¬ c = a + 4 → H2[c]? = h1[c]? := fun c hc hc2 => by rw [F2.2.2.2 c (by omega), F1.2.2.2 c (by omega)]
    have g : ∀ j, ¬ j = 7 → fI H2 a j = fI h1 a j := fun j h0 => by rw [v2, if_neg h0, f7]
    refine hK H2 ⟨(laF.txG G1).tr ((laF.fr F1 (by omega) ha).tr (laF.fr F2 (by omega) ha)), Or.inl ⟨_, _, er, by omega, (C1.fr F1 (by omega)).fr F2 (by omega), S2, ?_, ?_, ?_, ?_, ?_, ?_, ?_, ?_, fun k hk => ?_, ?_, ?_⟩⟩
    · rw [g 0 (by decide)]; exact r1
    · rw [g 1 (by decide)]; exact r2
    · rw [g 2 (by decide)]; exact r3
    · rw [g 3 (by decide)]; exact r4
    · rw [v2, if_pos rfl, ii_add]
      show _ = ii (((ld_p l ++ [nmV T i]).length : Nat) : Int)
      rw [List.length_append]; rfl
    · rw [g 9 (by decide)]; exact r6
    · rw [g 11 (by decide)]; exact r7
    · rw [same_xA (e (a + 1) (by omega) (by omega)), same_xA (e (a + 2) (by omega) (by omega)), same_xA (e (a + 3) (by omega) (by omega))]; exact r8
    · have hk' : k < (ld_p l ++ [nmV T i]).length := hk
      rw [List.length_append] at hk'
      have hk2 : k < (ld_p l).length + 1 := hk'
      show _ = ii (((ld_p l ++ [nmV T i]).getD k 0 : Nat) : Int)
      rw [same_xA (F2.2.2.2 (a + 4) (by omega)), w (a + 4), if_pos rfl, getD_app]
      unfold upf
      by_cases c : k = (ld_p l).length
      · rw [if_pos c, if_pos c]
      · rw [if_neg c, if_neg c, if_pos (by omega)]; exact r9 k (by omega)
    · rw [same_xA (e (a + 5) (by omega) (by omega))]; exact r10
    · rw [same_xA (e (a + 6) (by omega) (by omega)), same_xA (e (a + 7) (by omega) (by omega))]; exact r11
  · have e' := e rfl
    have er : plR T i l = .inl f' := by unfold plR; rw [if_neg (nm_bad e' nf), e']
    refine ⟨o9 C1.2.1, ?_⟩
    refine (c113 (d := d + 1) C1.2.1 C1.2.2.1 C1.2.2.2.1).mpr ?_
    rw [if_neg nf, if_pos (by decide), rV_s]
    exact hK h1 ⟨laF.txG G1, Or.inr ⟨f', nf, er, C1, hL.tx G1 (by omega)⟩⟩
/-- readTurn -/
theorem c38 {K : mHeap → Prop} (hE : (tk T (T.length - 1)).1 = 0) (hC : LdC h T i 0) (hL : LaQ h a l (wyP l)) (ok : LdOk l) (hp : (ld_t l).length < 8) (ha : 69 ≤ a) (hK : ∀ h1, laO T a l h h1 i (tuR T i l) → K h1) : GoCv (d + 3) 38 [.ref a, .ref 65] h K := by
  have o9 : ∀ {h' : mHeap}, TxS h' → oC h' 65 = 9 := fun t => (TxS_ok t).2.2.2.2.2.2.2.2.2.2
  have n8 := ok.1
  rw [e38, b38_0]
  simp only [LaS_ok hL.1, hL.2.1, true_and, ii_sub]
  refine ⟨o9 hC.2.1, ?_⟩
  refine num (d := d + 0) (lo := 0) (hi := (ld_n l : Int) - 1) hE hC (fun _ => ⟨rfl, rfl, by decide, by omega⟩) (fun _ n1 b1 b2 h1 G1 C1 => ?_) (fun f' v nf e _ h1 G1 C1 => ?_)
  · have er0 : tuR T i l = (if nmF T (i + 1) 1 99 = 0 then .inr (i + 1 + 1, (ld_n l, ld_so l, ld_q l, ld_p l, ld_w l, ld_t l ++ [(nmV T i, nmV T (i + 1))])) else .inl (nmF T (i + 1) 1 99)) := by unfold tuR; rw [if_pos n1]
    refine ⟨o9 C1.2.1, ?_⟩
    refine num (d := d + 0) (lo := 1) (hi := 99) hE C1 (fun _ => ⟨rfl, rfl, by decide, by decide⟩) (fun _ n2 b3 b4 h2 G2 C2 => ?_) (fun f' v nf e _ h2 G2 C2 => ?_)
    · have er : tuR T i l = .inr (i + 1 + 1, (ld_n l, ld_so l, ld_q l, ld_p l, ld_w l, ld_t l ++ [(nmV T i, nmV T (i + 1))])) := by rw [er0, if_pos n2]
      refine ⟨o9 C2.2.1, ?_⟩
      refine (c113 (d := d + 1) C2.2.1 C2.2.2.1 (by decide)).mpr ?_
      rw [if_pos rfl, if_neg (by simp)]
      have L1 := (hL.tx G1 (by omega)).tx G2 (by omega)
      have ro := row_ok L1.1.2.2.2.2.2.2.2.1 hp (by omega)
      simp only [LaS_ok L1.1, LaS_fR L1.1, L1.2.2.2.2.2.2.2.1, true_and]
      refine ⟨⟨by omega, ro.1⟩, ?_⟩
      have w := fun b => sI_row (b := b) (v := ii (nmV T i : Nat)) L1.1.2.2.2.2.2.2.2.1 hp (by omega)
      have F1 : Fr (a + 6) 1 h2 (sI h2 (a + 6) (ii (ld_t l).length) (ii (nmV T i : Nat))) := Fr.sI
      generalize sI h2 (a + 6) (ii (ld_t l).length) (ii (nmV T i : Nat)) = H1 at *
      have S1 := F1.1.LaS L1.1
      have f7 : ∀ j, fI H1 a j = fI h2 a j := fun j => same_fI (F1.2.2.2 a (by omega)) j
      have ro2 := row_ok S1.2.2.2.2.2.2.2.2 hp (by omega)
      simp only [LaS_ok S1, LaS_fR S1, f7, L1.2.2.2.2.2.2.2.1, true_and]
      refine ⟨⟨by omega, ro2.1⟩, ?_⟩
      have w2 := fun b => sI_row (b := b) (v := ii (nmV T (i + 1) : Nat)) S1.2.2.2.2.2.2.2.2 hp (by omega)
      have F12 : Fr (a + 7) 1 H1 (sI H1 (a + 7) (ii (ld_t l).length) (ii (nmV T (i + 1) : Nat))) := Fr.sI
      generalize sI H1 (a + 7) (ii (ld_t l).length) (ii (nmV T (i + 1) : Nat)) = H12 at *
      have S12 := F12.1.LaS S1
      have f12 : ∀ j, fI H12 a j = fI h2 a j := fun j => by rw [same_fI (F12.2.2.2 a (by omega)) j, f7]
      have p7 := putL S12 (k := 11) (by omega) (ii (ld_t l).length + ii 1)
      simp only [LaS_ok S12, f12, L1.2.2.2.2.2.2.2.1, true_and]
      refine ⟨p7.1, ?_⟩
      have F2 := p7.2.1
      have v2 := p7.2.2.1
      have S2 := p7.2.2.2
      generalize sF H12 a 11 (.int (ii (ld_t l).length + ii 1)) = H2 at *
      rw [rV_s]
      obtain ⟨s, r1, r2, r3, r4, r5, r6, r7, r8, r9, r10, r11⟩ := L1
      have e : ∀ c, ¬ c = a → ¬ c = a + 6 → ¬ c = a + 7 → H2[c]? = h2[c]? := fun c hc hc2 hc3 => by rw [F2.2.2.2 c (by omega), F12.2.2.2 c (by omega), F1.2.2.2 c (by omega)]
      have g : ∀ j, ¬ j = 11 → fI H2 a j = fI h2 a j := fun j h0 => by rw [v2, if_neg h0, f12]
      refine hK H2 ⟨(laF.txG G1).tr ((laF.txG G2).tr ((laF.fr F1 (by omega) ha).tr ((laF.fr F12 (by omega) ha).tr (laF.fr F2 (by omega) ha)))), Or.inl ⟨_, _, er, by omega, ((C2.fr F1 (by omega)).fr F12 (by omega)).fr F2 (by omega), S2, ?_, ?_, ?_, ?_, ?_, ?_, ?_, ?_, ?_, ?_, fun k hk => ?_⟩⟩
      · rw [g 0 (by decide)]; exact r1
      · rw [g 1 (by decide)]; exact r2
      · rw [g 2 (by decide)]; exact r3
      · rw [g 3 (by decide)]; exact r4
      · rw [g 7 (by decide)]; exact r5
      · rw [g 9 (by decide)]; exact r6
      · rw [v2, if_pos rfl, ii_add]
        show _ = ii (((ld_t l ++ [(nmV T i, nmV T (i + 1))]).length : Nat) : Int)
        rw [List.length_append]; rfl
      · rw [same_xA (e (a + 1) (by omega) (by omega) (by omega)), same_xA (e (a + 2) (by omega) (by omega) (by omega)), same_xA (e (a + 3) (by omega) (by omega) (by omega))]; exact r8
      · rw [same_xA (e (a + 4) (by omega) (by omega) (by omega))]; exact r9
      · rw [same_xA (e (a + 5) (by omega) (by omega) (by omega))]; exact r10
      · have hk' : k < (ld_t l ++ [(nmV T i, nmV T (i + 1))]).length := hk
        rw [List.length_append] at hk'
        have hk2 : k < (ld_t l).length + 1 := hk'
        have el : la_t (ld_n l, ld_so l, ld_q l, ld_p l, ld_w l, ld_t l ++ [(nmV T i, nmV T (i + 1))]) k = if k = (ld_t l).length then (nmV T i, nmV T (i + 1)) else if k < (ld_t l).length then la_t l k else (0, 0) := getD_app
        rw [el, same_xA (F2.2.2.2 (a + 6) (by omega)), same_xA (F2.2.2.2 (a + 7) (by omega)), w2 (a + 6), if_neg (by omega), w2 (a + 7), if_pos rfl, w (a + 6), if_pos rfl, same_xA (F1.2.2.2 (a + 7) (by omega))]
        unfold upf
        by_cases c : k = (ld_t l).length
        · rw [if_pos c, if_pos c, if_pos c]; exact ⟨rfl, rfl⟩
        · rw [if_neg c, if_neg c, if_neg c, if_pos (by omega)]; exact r11 k (by omega)
    · have e' := e rfl
      rw [if_neg (nm_bad e' nf), e'] at er0
      refine ⟨o9 C2.2.1, ?_⟩
      refine (c113 (d := d + 1) C2.2.1 C2.2.2.1 C2.2.2.2.1).mpr ?_
      rw [if_neg nf, if_pos (by decide), rV_s]
      exact hK h2 ⟨(laF.txG G1).tr (laF.txG G2), Or.inr ⟨f', nf, er0, C2, (hL.tx G1 (by omega)).tx G2 (by omega)⟩⟩
  · have e' := e rfl
    have er : tuR T i l = .inl f' := by unfold tuR; rw [if_neg (nm_bad e' nf), e']
    refine ⟨o9 C1.2.1, ?_⟩
    refine num (d := d + 0) (lo := 0) (hi := 0) hE C1 (fun g => absurd g nf) (fun g => absurd g nf) (fun f2 v2 nf2 _ e2 h2 G2 C2 => ?_)
    have e2' := e2 nf
    subst e2'
    refine ⟨o9 C2.2.1, ?_⟩
    refine (c113 (d := d + 1) C2.2.1 C2.2.2.1 C2.2.2.2.1).mpr ?_
    rw [if_neg nf, if_pos (by decide), rV_s]
    exact hK h2 ⟨(laF.txG G1).tr (laF.txG G2), Or.inr ⟨_, nf, er, C2, (hL.tx G1 (by omega)).tx G2 (by omega)⟩⟩
end La1
