/-! LANDS read: all of it -/
section La4
variable {d a : Nat} {h : mHeap} {T : List (Nat × Nat)}
def lrO (h1 : mHeap) (a : Nat) (r : Nat ⊕ Ld) : Prop := match r with
  | .inl f => ¬ f = 0 ∧ f < 100000 ∧ fI h1 65 2 = ii f
  | .inr l => fI h1 65 2 = ii ((0 : Nat) : Int) ∧ LaR h1 a l ∧ LdOk l ∧ 1 ≤ ld_n l
theorem LaQ.r {l : Ld} (hL : LaQ h a l (wy l)) : LaR h a l := by
  obtain ⟨s, r1, r2, r3, r4, r5, r6, r7, r8, r9, r10, r11⟩ := hL
  exact ⟨s, r1, r2, r3, r4, r5, r6, r7, r8, r9, fun _ => r10, r11⟩
theorem end30 {f i : Nat} {l : Ld} {K : mHeap → Prop} (hE : (tk T (T.length - 1)).1 = 0) (hC : LdC h T i f) (hL : LaQ h a l (wyP l)) (ok : LdOk l) (ha : 69 ≤ a) {l2 : Option Value} (hK : ∀ h1, laF a h h1 → LaQ h1 a l (wy l) → (f = 0 → (tk T i).1 = 0 → fI h1 65 2 = ii ((0 : Nat) : Int)) → (f = 0 → ¬ (tk T i).1 = 0 → fI h1 65 2 = ii (flt T i 0 : Nat)) → (¬ f = 0 → fI h1 65 2 = ii (f : Nat)) → K h1) : Go (d + 3) 30 44 [some (.ref a), some (.ref 65), l2] [] h (rV K) := by
  have o9 := (TxS_ok hC.2.1).2.2.2.2.2.2.2.2.2.2
  have o2 : ∀ {h'}, LaS h' a → oC h' a = 2 := fun s => (LaS_ok s).2.2.2.2.2.2.2.2.2.2.2.2.2.2
  rw [b30_44]
  refine ⟨o9, ?_⟩
  refine c111 (d := d + 1) hC.2.1 hC.2.2.1 hC.2.2.2.1 (fun g => ?_) (fun g h1 G X1 => ?_)
  · refine ⟨o2 hL.1, ?_⟩
    refine c40 (d := d + 1) hL (wyP_le l) ok.2.2.2.1 (fun h2 F2 L2 => ?_)
    rw [rV_s]
    refine hK h2 (laF.fr F2 (by omega) ha) L2 (fun f0 _ => ?_) (fun f0 c => absurd g c) (fun nf => ?_)
    · rw [same_fI (F2.2.2.2 65 (by omega)), hC.2.2.1.2.2.2.2.1, f0]
    · rw [same_fI (F2.2.2.2 65 (by omega))]; exact hC.2.2.1.2.2.2.2.1
  · have f0 : f = 0 := by
      rcases hC.2.2.2.2 with q | q
      · exact q
      · rw [q, hE] at g; exact absurd rfl g
    have L1 := hL.tx G (by omega)
    refine ⟨o2 L1.1, ?_⟩
    refine c40 (d := d + 1) L1 (wyP_le l) ok.2.2.2.1 (fun h2 F2 L2 => ?_)
    rw [rV_s]
    refine hK h2 ((laF.txG G).tr (laF.fr F2 (by omega) ha)) L2 (fun _ c => absurd c g) (fun _ _ => ?_) (fun nf => absurd f0 nf)
    rw [same_fI (F2.2.2.2 65 (by omega)), X1.2.2.2.2.1, f0]
    rfl
theorem loop30 (hE : (tk T (T.length - 1)).1 = 0) (ha : 69 ≤ a) : ∀ g {i x : Nat} {h : mHeap} {l : Ld} {K : mHeap → Prop}, LdC h T i 0 → LaQ h a l (wyP l) → LdOk l → 1 ≤ ld_n l → T.length ≤ g + i → 1 ≤ x → x ≤ i → (∀ h1 r, laF a h h1 → (if (tk T i).1 = 60 then r = laL T g (i + 1) x l else if (tk T i).1 = 0 then r = .inr l else r = .inl (flt T i 0)) → lrO h1 a r → K h1) → Go (d + 5) 30 16 [some (.ref a), some (.ref 65), some (.int (ii (x : Nat)))] [] h (rV K) := by
  intro g
  induction g with
  | zero =>
    intro i x h l K hC _ _ _ hg
    have := hC.2.2.1.2.2.1
    omega
  | succ g ih =>
    intro i x h l K hC hL ok ln hg hx hx2 hK
    have X := hC.2.2.1
    have hi := X.2.2.1
    have hTl := X.2.2.2.1
    have o9 := (TxS_ok hC.2.1).2.2.2.2.2.2.2.2.2.2
    have o2 : ∀ {h'}, LaS h' a → oC h' a = 2 := fun s => (LaS_ok s).2.2.2.2.2.2.2.2.2.2.2.2.2.2
    have ex : ii (x : Int) + ii 1 = ii ((x + 1 : Nat) : Int) := by rw [ii_add]; rfl
    rw [b30_16]
    rw [if_neg (by rw [show ii 400 = ii ((400 : Nat) : Int) from rfl, ii_lt (by omega) (by omega) (by omega) (by omega)]; omega)]
    refine ⟨o9, ?_⟩
    refine c109 (d := d + 3) (t := 59) hC.2.1 X (by decide) (fun gt h1 G X1 => ?_) (fun gt => ?_)
    · rw [if_neg (by decide)]
      have nxi := nx_in hE hi (by omega)
      rw [nxi.2] at X1
      have C1 := hC.tx G X1 (by decide) (Or.inl rfl)
      have L1 := hL.tx G (by omega)
      refine ⟨o2 L1.1, ?_⟩
      refine c32 (d := d + 1) hE C1 L1 ok ha (by omega) (fun h2 o => ?_)
      have es : laL T (g + 1) (i + 1) x l = (match lcS T (i + 1) x l with
        | .inl f => .inl f
        | .inr (i1, l1) => if (tk T i1).1 = 60 then laL T g (i1 + 1) (x + 1) l1 else if (tk T i1).1 = 0 then .inr l1 else .inl (flt T i1 0)) := rfl
      have hK2 : ∀ h1 r, laF a h h1 → r = laL T (g + 1) (i + 1) x l → lrO h1 a r → K h1 := fun h1 r p q w => hK h1 r p (by rw [if_pos (by omega)]; exact q) w
      rw [ex]
      rcases o.2 with ⟨i', l', q1, q2, C2, L2⟩ | ⟨f', nf, q1, C2, L2⟩
      · have lk := lcS_ok ok (fun c => absurd c (by omega)) (fun _ => ln) q1
        rw [q1] at es
        have es' : laL T (g + 1) (i + 1) x l = if (tk T i').1 = 60 then laL T g (i' + 1) (x + 1) l' else if (tk T i').1 = 0 then .inr l' else .inl (flt T i' 0) := es
        refine ih C2 L2 lk.1 lk.2.2 (by omega) (by omega) (by omega) (fun h3 r p q w => ?_)
        refine hK2 h3 r ((laF.txG G).tr (o.1.tr p)) ?_ w
        rw [es']
        by_cases c1 : (tk T i').1 = 60
        · rw [if_pos c1] at q ⊢; exact q
        rw [if_neg c1] at q ⊢
        by_cases c2 : (tk T i').1 = 0
        · rw [if_pos c2] at q ⊢; exact q
        · rw [if_neg c2] at q ⊢; exact q
      · rw [q1] at es
        have es' : laL T (g + 1) (i + 1) x l = .inl f' := es
        have fin : ∀ l2, Go (d + 5) 30 44 [some (.ref a), some (.ref 65), l2] [] h2 (rV K) := fun l2 => by
          refine end30 (d := d + 2) hE C2 L2 ok ha (fun h3 F3 L3 _ _ z => ?_)
          exact hK2 h3 (.inl f') ((laF.txG G).tr (o.1.tr F3)) es'.symm ⟨nf, C2.2.2.2.1, z nf⟩
        rw [b30_16]
        by_cases c : ii 400 < ii ((x + 1 : Nat) : Int)
        · rw [if_pos c]; exact fin _
        rw [if_neg c]
        refine ⟨(TxS_ok C2.2.1).2.2.2.2.2.2.2.2.2.2, ?_⟩
        refine c109 (d := d + 3) (t := 59) C2.2.1 C2.2.2.1 (by decide) (fun gt => by rw [hE] at gt; exact absurd gt (by decide)) (fun _ => ?_)
        rw [if_pos rfl]
        exact fin _
    · rw [if_pos rfl]
      refine end30 (d := d + 2) hE hC hL ok ha (fun h3 F3 L3 z1 z2 _ => ?_)
      by_cases c : (tk T i).1 = 0
      · exact hK h3 (.inr l) F3 (by rw [if_neg (by omega), if_pos c]) ⟨z1 rfl c, L3.r, ok, ln⟩
      · have fl := flt_lt X (kind := 0) (by decide)
        exact hK h3 (.inl (flt T i 0)) F3 (by rw [if_neg (by omega), if_neg c]) ⟨fl.2, fl.1, z2 rfl c⟩
def lrT (a c : Nat) : Prop := c = 65 ∨ c = 67 ∨ c = 68 ∨ (a ≤ c ∧ c < a + 8)
/-- readFrom -/
theorem c30 {n : Nat} {B : Bt} {K : mHeap → Prop} (hSt : St h) (hT : TxS h) (hB : TxB h B n) (hL : LaR h a ld0) (ha : 69 ≤ a) (hK : ∀ h1, FrT (lrT a) h h1 → fI h1 65 1 = fI h 65 1 → lrO h1 a (laL (lex B n) (lex B n).length 0 0 ld0) → K h1) : GoCv (d + 10) 30 [.ref a, .ref 65] h K := by
  have hE : (tk (lex B n) ((lex B n).length - 1)).1 = 0 := congrArg Prod.fst (lxF_last (B := B) (n := n) n 0 0 (by omega))
  have o2 : ∀ {h'}, LaS h' a → oC h' a = 2 := fun s => (LaS_ok s).2.2.2.2.2.2.2.2.2.2.2.2.2.2
  rw [e30, b30_0]
  refine ⟨(TxS_ok hT).2.2.2.2.2.2.2.2.2.2, ?_⟩
  refine c99 (d := d + 0) hSt hT hB (fun h1 F1 s66 s1 X1 => ?_)
  have L1 : LaR h1 a ld0 := LaR_eq hL (fun c g1 g2 => F1.2.2.2 c (by omega))
  have T1 : FrT (lrT a) h h1 := ⟨F1.1, F1.2.1, F1.2.2.1, fun c hc => by
    by_cases g : c = 66
    · rw [g]; exact s66
    · exact F1.2.2.2 c (by unfold lrT at hc; omega)⟩
  refine ⟨o2 L1.1, ?_⟩
  refine c31 (d := d + 7) L1 (fun h2 F2 L2 => ?_)
  have C2 : LdC h2 (lex B n) 0 0 := LdC.fr ⟨F1.St (by decide) hSt, hT.sk F1.1, X1, by decide, Or.inl rfl⟩ F2 (by omega)
  have T2 : FrT (lrT a) h h2 := T1.tr (F2.toT (fun c g1 g2 => Or.inr (Or.inr (Or.inr (by omega)))))
  have s2 : fI h2 65 1 = fI h 65 1 := by rw [same_fI (F2.2.2.2 65 (by omega))]; exact s1
  have hK2 : ∀ h3 r, laF a h2 h3 → r = laL (lex B n) (lex B n).length 0 0 ld0 → lrO h3 a r → K h3 := fun h3 r F e o => by
    refine hK h3 (T2.tr (F.1.wide (fun c g => ?_))) (by rw [F.2 1 (by decide) (by decide)]; exact s2) (by rw [← e]; exact o)
    rcases g with g | g
    · exact Or.inl g
    · exact Or.inr (Or.inr (Or.inr g))
  have lpos := X1.2.2.1
  obtain ⟨g, eg⟩ : ∃ g, (lex B n).length = g + 1 := ⟨(lex B n).length - 1, by omega⟩
  refine ⟨o2 L2.1, ?_⟩
  refine c32 (d := d + 5) (nth := 0) hE C2 L2 LdOk0 ha (by decide) (fun h3 o => ?_)
  have es : laL (lex B n) (lex B n).length 0 0 ld0 = (match lcS (lex B n) 0 0 ld0 with
    | .inl f => .inl f
    | .inr (i1, l1) => if (tk (lex B n) i1).1 = 60 then laL (lex B n) g (i1 + 1) (0 + 1) l1 else if (tk (lex B n) i1).1 = 0 then .inr l1 else .inl (flt (lex B n) i1 0)) := by rw [eg]; rfl
  rcases o.2 with ⟨i', l', q1, q2, C3, L3⟩ | ⟨f', nf, q1, C3, L3⟩
  · have lk := lcS_ok LdOk0 (fun _ => rfl) (fun c => absurd rfl c) q1
    rw [q1] at es
    have es' : laL (lex B n) (lex B n).length 0 0 ld0 = if (tk (lex B n) i').1 = 60 then laL (lex B n) g (i' + 1) (0 + 1) l' else if (tk (lex B n) i').1 = 0 then .inr l' else .inl (flt (lex B n) i' 0) := es
    refine loop30 (d := d + 4) (x := 1) hE ha g C3 L3 lk.1 lk.2.2 (by omega) (by decide) (by omega) (fun h4 r p q w => ?_)
    refine hK2 h4 r (o.1.tr p) ?_ w
    rw [es']
    by_cases c1 : (tk (lex B n) i').1 = 60
    · rw [if_pos c1] at q ⊢; exact q
    rw [if_neg c1] at q ⊢
    by_cases c2 : (tk (lex B n) i').1 = 0
    · rw [if_pos c2] at q ⊢; exact q
    · rw [if_neg c2] at q ⊢; exact q
  · rw [q1] at es
    have es' : laL (lex B n) (lex B n).length 0 0 ld0 = .inl f' := es
    have fin : ∀ l2, Go (d + 9) 30 44 [some (.ref a), some (.ref 65), l2] [] h3 (rV K) := fun l2 => by
      refine end30 (d := d + 6) hE C3 L3 LdOk0 ha (fun h4 F3 L3 _ _ z => ?_)
      exact hK2 h4 (.inl f') (o.1.tr F3) es'.symm ⟨nf, C3.2.2.2.1, z nf⟩
    rw [b30_16, if_neg (by decide)]
    refine ⟨(TxS_ok C3.2.1).2.2.2.2.2.2.2.2.2.2, ?_⟩
    refine c109 (d := d + 7) (t := 59) C3.2.1 C3.2.2.1 (by decide) (fun gt => by rw [hE] at gt; exact absurd gt (by decide)) (fun _ => ?_)
    rw [if_pos rfl]
    exact fin _
end La4
