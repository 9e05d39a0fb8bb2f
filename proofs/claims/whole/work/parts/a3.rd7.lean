/-! RULES read: all the clauses -/
section Rr7
variable {T : List (Nat × Nat)}
theorem wdT_is {B : Bt} {q len : Nat} : ∀ (ws : List (List Int32)) (k : Nat), wdT B q len ws k = 258 ∨ ∃ j, j < ws.length ∧ wdT B q len ws k = k + j ∧ mtc B q len (ws.getD j []) = true
  | [], k => Or.inl rfl
  | w :: ws, k => by
    have e : wdT B q len (w :: ws) k = if mtc B q len w = true then k else wdT B q len ws (k + 1) := rfl
    by_cases c : mtc B q len w = true
    · rw [if_pos c] at e
      exact Or.inr ⟨0, by rw [List.length_cons]; omega, by rw [e]; rfl, c⟩
    · rw [if_neg c] at e
      rcases wdT_is ws (k + 1) with g | ⟨j, h1, h2, h3⟩
      · exact Or.inl (e.trans g)
      · exact Or.inr ⟨j + 1, by rw [List.length_cons]; omega, by rw [e, h2]; omega, h3⟩
theorem wrds_14 : (wrds.getD 14 []).length = 3 := by decide +kernel
theorem tok_not {B : Bt} {n q : Nat} (hq : q < n) (hb : -128 ≤ B q ∧ B q ≤ 127) (e : (tok B n q).1 + 1 = 315) : (tok B n q).2 = q + 3 := by
  unfold tok at e ⊢
  by_cases c1 : isSm (B q) = true
  · rw [if_pos c1] at e ⊢
    have le := rnE_le (p := isSm) (B := B) (n := n) (q + 1) (by omega)
    have sm : 97 ≤ B q ∧ B q ≤ 122 := by
      unfold isSm at c1
      exact of_decide_eq_true c1
    show rnE isSm B n (q + 1) = q + 3
    have e' : (if 1 < rnE isSm B n (q + 1) - q then wdT B q (rnE isSm B n (q + 1) - q) wrds 300 else if B q - 97 < 8 then (260 + (B q - 97)).toNat else 258) + 1 = 315 := e
    by_cases c2 : 1 < rnE isSm B n (q + 1) - q
    · rw [if_pos c2] at e'
      rcases wdT_is (B := B) (q := q) (len := rnE isSm B n (q + 1) - q) wrds 300 with g | ⟨j, h1, h2, h3⟩
      · omega
      · have j14 : j = 14 := by omega
        subst j14
        unfold mtc at h3
        rw [Bool.and_eq_true] at h3
        have := of_decide_eq_true h3.1
        rw [wrds_14] at this
        omega
    · rw [if_neg c2] at e'
      split at e' <;> omega
  rw [if_neg c1] at e ⊢
  by_cases c2 : isDg (B q) = true
  · rw [if_pos c2] at e
    exfalso
    have e' : (if 5 < rnE isDg B n q - q then 101000 else 1000 + nuV B q (rnE isDg B n q - q)) + 1 = 315 := e
    split at e' <;> omega
  rw [if_neg c2] at e
  exfalso
  split at e
  · have e' : (if B q = 60 then 256 else 257) + 1 = 315 := e
    split at e' <;> omega
  · have e' : (B q % 256).toNat + 1 = 315 := e
    omega
theorem plc_cons {x : Nat × Nat} {L : List (Nat × Nat)} (h1 : x.2 ≤ (tk L 0).2) (h2 : x.1 = 315 → x.2 + 3 ≤ (tk L 0).2) (hL : plc L) : plc (x :: L) := by
  intro i hi
  cases i with
  | zero => exact ⟨h1, h2⟩
  | succ i => exact hL i (by rw [List.length_cons] at hi; omega)
theorem plc_lxF {B : Bt} {n : Nat} (hb : ∀ i, i < n → -128 ≤ B i ∧ B i ≤ 127) : ∀ k q b, q + k = n → b ≤ n → (b ≤ (tk (lxF B n k q b) 0).2 ∧ q ≤ (tk (lxF B n k q b) 0).2) ∧ plc (lxF B n k q b)
  | 0, q, b, hk, hbn => by
    refine ⟨⟨hbn, by show q ≤ n; omega⟩, fun i hi => ?_⟩
    have : i + 1 < 1 := hi
    omega
  | k + 1, q, b, hk, hbn => by
    have e : lxF B n (k + 1) q b = if b ≤ q ∧ ¬ B q = 32 then ((tok B n q).1 + 1, q) :: lxF B n k (q + 1) (tok B n q).2 else lxF B n k (q + 1) b := rfl
    rw [e]
    by_cases c : b ≤ q ∧ ¬ B q = 32
    · rw [if_pos c]
      have tl := tok_le (B := B) (n := n) (q := q) (by omega)
      have ih := plc_lxF hb k (q + 1) (tok B n q).2 (by omega) tl.2
      refine ⟨⟨c.1, Nat.le_refl _⟩, plc_cons (by show q ≤ _; omega) (fun g => ?_) ih.2⟩
      have tn := tok_not (B := B) (n := n) (q := q) (by omega) (hb q (by omega)) g
      show q + 3 ≤ _
      omega
    · rw [if_neg c]
      have ih := plc_lxF hb k (q + 1) b (by omega) hbn
      exact ⟨⟨ih.1.1, by omega⟩, ih.2⟩
theorem plc_lex {B : Bt} {n : Nat} (hb : ∀ i, i < n → -128 ≤ B i ∧ B i ≤ 127) : plc (lex B n) := (plc_lxF hb n 0 0 (by omega) (by omega)).2
def ruO (T : List (Nat × Nat)) (h1 : mHeap) (r : Nat ⊕ Ru) : Prop := match r with
  | .inl f => ¬ f = 0 ∧ f < 100000 ∧ fI h1 65 2 = ii f
  | .inr C => fI h1 65 2 = ii ((0 : Nat) : Int) ∧ RrO h1 (flC C) ∧ RrM h1 C
/-- read: the clauses, and the end -/
theorem loop69 {d : Nat} (hE : (tk T (T.length - 1)).1 = 0) (hp : plc T) : ∀ g {i1 n1 x : Nat} {h : mHeap} {C : Ru} {K : mHeap → Prop}, RrC h T i1 n1 0 → RrO h (flC C) → RrM h C → 3 * (flC C).length ≤ 6 * n1 + (tk T i1).2 → T.length ≤ g + i1 → x ≤ C.length → (∀ h1 r, rqF h h1 → (if (tk T i1).1 = 60 then ruL T g (i1 + 1) n1 C r else if (tk T i1).1 = 0 then r = .inr C else r = .inl (flt T i1 0)) → ruO T h1 r → K h1) → Go (d + 41) 69 28 [some (.ref 119), some (.int (ii (x : Nat)))] [] h (rV K) := by
  intro g
  induction g with
  | zero =>
    intro i1 n1 x h C K hC
    intro _ _ _ hg
    have := hC.2.2.1.2.2.1
    omega
  | succ g ih =>
    intro i1 n1 x h C K hC hO hM hroom hg hx hK
    have R := hC.2.2.2.1
    have hX := hC.2.2.1
    have hi := hX.2.2.1
    have o9 := (TxS_ok hC.2.1).2.2.2.2.2.2.2.2.2.2
    have c12 := hM.2.1
    have ex : ii (x : Int) + ii 1 = ii ((x + 1 : Nat) : Int) := by rw [ii_add]; rfl
    rw [b69_28]
    rw [if_neg (by rw [show ii 400 = ii ((400 : Nat) : Int) from rfl, ii_le (by omega) (by omega) (by omega) (by omega)]; omega)]
    simp only [RrS_ok R, true_and]
    refine ⟨o9, ?_⟩
    refine c109 (d := d + 39) (t := 59) hC.2.1 hX (by decide) (fun gt h1 G X1 => ?_) (fun gt => ?_)
    · rw [if_neg (by decide)]
      have nxi := nx_in hE hi (by omega)
      rw [nxi.2] at X1
      have pl := hp i1 nxi.1
      have C1 := hC.tx G X1 (by decide)
      have O1 := hO.tx G
      have M1 := hM.r (rrF.txG G)
      refine ⟨(RrS_ok C1.2.2.2.1).2.2.2.2.2.2.2.2.2.2.2, ?_⟩
      have hK2 : ∀ h1 r, rqF h h1 → ruL T (g + 1) (i1 + 1) n1 C r → ruO T h1 r → K h1 := fun h1 r a b c => hK h1 r a (by rw [if_pos (by omega)]; exact b) c
      refine c71 (d := d + 1) hE hp C1 O1 M1 (by omega) (fun i2 n2 V W h2 cl q2 C2 O2 M2 li bd => ?_) (fun f' n2 O' h2 nf cl q2 C2 O2 => ?_)
      · rw [ex]
        have lx : (C ++ [(V, W)]).length = C.length + 1 := List.length_append
        refine ih C2 O2 M2 bd (by omega) (by omega) (fun h3 r q3 e o => hK2 h3 r ((rrF.txG G).q.tr (q2.tr q3)) ⟨_, cl, ?_⟩ o)
        exact e
      · -- the clause has failed
        have fin : Go (d + 41) 69 57 [some (.ref 119), some (.int (ii ((x + 1 : Nat) : Int)))] [] h2 (rV K) := by
          rw [b69_57]
          simp only [RrS_ok C2.2.2.2.1, true_and]
          refine ⟨(TxS_ok C2.2.1).2.2.2.2.2.2.2.2.2.2, ?_⟩
          refine c111 (d := d + 39) C2.2.1 C2.2.2.1 C2.2.2.2.2.2.2 (fun g0 => ?_) (fun g0 h4 G4 X4 => absurd hE g0)
          rw [rV_s]
          exact hK2 h2 (.inl f') ((rrF.txG G).q.tr q2) ⟨_, cl, rfl⟩ ⟨nf, C2.2.2.2.2.2.2, C2.2.2.1.2.2.2.2.1⟩
        rw [ex, b69_28]
        rw [if_neg (by rw [show ii 400 = ii ((400 : Nat) : Int) from rfl, ii_le (by omega) (by omega) (by omega) (by omega)]; omega)]
        simp only [RrS_ok C2.2.2.2.1, true_and]
        refine ⟨(TxS_ok C2.2.1).2.2.2.2.2.2.2.2.2.2, ?_⟩
        refine c109 (d := d + 39) (t := 59) C2.2.1 C2.2.2.1 (by decide) (fun gt h1 G X1 => by rw [hE] at gt; exact absurd gt (by decide)) (fun gt => ?_)
        rw [if_pos rfl]
        exact fin
    · rw [if_pos rfl, b69_57]
      simp only [RrS_ok R, true_and]
      refine ⟨o9, ?_⟩
      refine c111 (d := d + 39) hC.2.1 hX (by decide) (fun g0 => ?_) (fun g0 h4 G4 X4 => ?_)
      · rw [rV_s]
        exact hK h (.inr C) rqF.rf (by rw [if_neg (by omega), if_pos g0]) ⟨hX.2.2.2.2.1, hO, hM⟩
      · rw [rV_s]
        have fl := flt_lt hX (kind := 0) (by decide)
        exact hK h4 (.inl (flt T i1 0)) (rrF.txG G4).q (by rw [if_neg (by omega), if_neg g0]) ⟨fl.2, fl.1, X4.2.2.2.2.1⟩
def rsT (a : Nat) : Prop := a = 65 ∨ a = 67 ∨ a = 68 ∨ (119 ≤ a ∧ a < 123)
/-- read -/
theorem c69 {d n : Nat} {h : mHeap} {B : Bt} {K : mHeap → Prop} (hSt : St h) (hT : TxS h) (hB : TxB h B n) (hR : RrS h) (h0 : xA h 121 0 = ii ((0 : Nat) : Int)) (hK : ∀ h1 r, FrT rsT h h1 → fI h1 65 1 = fI h 65 1 → xA h1 121 0 = ii ((0 : Nat) : Int) → ruL (lex B n) (lex B n).length 0 0 [] r → ruO (lex B n) h1 r → K h1) : GoCv (d + 42) 69 [.ref 119] h K := by
  have hE : (tk (lex B n) ((lex B n).length - 1)).1 = 0 := congrArg Prod.fst (lxF_last (B := B) (n := n) n 0 0 (by omega))
  have hp := plc_lex (B := B) (n := n) (fun i hi => (hB.2.2 i hi).2)
  rw [e69, b69_0]
  simp only [RrS_ok hR, true_and]
  refine ⟨(TxS_ok hT).2.2.2.2.2.2.2.2.2.2, ?_⟩
  refine c99 (d := d + 32) hSt hT hB (fun h1 F1 s66 s1 X1 => ?_)
  have R1 := hR.sk F1.1
  have p2 := putR R1 (k := 2) (Or.inl rfl) (ii 0)
  refine ⟨p2.1, ?_⟩
  have F2 := p2.2.1
  have v2 := p2.2.2
  generalize sF h1 119 2 (.int (ii 0)) = H2 at *
  have R2 := R1.sk F2.1
  have p3 := putR R2 (k := 3) (Or.inr (Or.inl rfl)) (ii 0)
  refine ⟨p3.1, ?_⟩
  have F3 := p3.2.1
  have v3 := p3.2.2
  generalize sF H2 119 3 (.int (ii 0)) = H3 at *
  have R3 := R2.sk F3.1
  have p4 := putR R3 (k := 4) (Or.inr (Or.inr rfl)) (ii 0)
  refine ⟨p4.1, ?_⟩
  have F4 := p4.2.1
  have v4 := p4.2.2
  generalize sF H3 119 4 (.int (ii 0)) = H4 at *
  have R4 := R3.sk F4.1
  have F : Fr 119 1 h1 H4 := F2.tr (F3.tr F4)
  have u2 : fI H4 119 2 = ii ((0 : Nat) : Int) := by rw [v4, if_neg (by decide), v3, if_neg (by decide), v2, if_pos rfl]; rfl
  have u3 : fI H4 119 3 = ii ((0 : Nat) : Int) := by rw [v4, if_neg (by decide), v3, if_pos rfl]; rfl
  have u4 : fI H4 119 4 = ii ((0 : Nat) : Int) := by rw [v4, if_pos rfl]; rfl
  have C4 : RrC H4 (lex B n) 0 0 0 := ⟨F.St (by decide) (F1.St (by decide) hSt), (hT.sk F1.1).sk F.1, X1.fr F (by decide), R4, u3, by decide, by decide⟩
  have O4 : RrO H4 (flC []) := ⟨u2, by decide, fun k hk => absurd hk (Nat.not_lt_zero k)⟩
  have z0 : xA H4 121 0 = ii ((0 : Nat) : Int) := by rw [same_xA (F.2.2.2 121 (by omega)), same_xA (F1.2.2.2 121 (by omega))]; exact h0
  have M4 : RrM H4 [] := ⟨u4, by decide, fun c hc => by
    have : c = 0 := Nat.le_zero.mp hc
    subst this
    exact z0, fun c hc => absurd hc (Nat.not_lt_zero c)⟩
  have T4 : FrT rsT h H4 := by
    have a : FrT rsT h h1 := ⟨F1.1, F1.2.1, F1.2.2.1, fun a ha => by
      by_cases c : a = 66
      · rw [c]; exact s66
      · exact F1.2.2.2 a (by unfold rsT at ha; omega)⟩
    exact a.tr (F.toT (fun a g1 g2 => by unfold rsT; omega))
  have s4 : fI H4 65 1 = fI h 65 1 := by rw [same_fI (F.2.2.2 65 (by omega))]; exact s1
  have hK2 : ∀ h5 r, rqF H4 h5 → ruL (lex B n) (lex B n).length 0 0 [] r → ruO (lex B n) h5 r → K h5 := fun h5 r q e o => hK h5 r (T4.tr (q.1.wide (fun a t => by unfold rsT; omega))) (by rw [q.2.1 1 (by decide) (by decide)]; exact s4) (by rw [q.2.2]; exact z0) e o
  have lpos := X1.2.2.1
  obtain ⟨g, eg⟩ : ∃ g, (lex B n).length = g + 1 := ⟨(lex B n).length - 1, by omega⟩
  refine ⟨(RrS_ok R4).2.2.2.2.2.2.2.2.2.2.2, ?_⟩
  refine c71 (d := d + 1) hE hp C4 O4 M4 (by show 3 * 0 ≤ _; omega) (fun i2 n2 V W h5 cl q5 C5 O5 M5 li bd => ?_) (fun f' n2 O' h5 nf cl q5 C5 O5 => ?_)
  · refine loop69 hE hp g (x := 0) C5 O5 M5 bd (by omega) (Nat.zero_le _) (fun h6 r q6 e o => hK2 h6 r (q5.tr q6) ?_ o)
    rw [eg]
    exact ⟨_, cl, e⟩
  · have er : ruL (lex B n) (lex B n).length 0 0 [] (.inl f') := by
      rw [eg]
      exact ⟨_, cl, rfl⟩
    have fin : Go (d + 41) 69 57 [some (.ref 119), some (.int (ii 0))] [] h5 (rV K) := by
      rw [b69_57]
      simp only [RrS_ok C5.2.2.2.1, true_and]
      refine ⟨(TxS_ok C5.2.1).2.2.2.2.2.2.2.2.2.2, ?_⟩
      refine c111 (d := d + 39) C5.2.1 C5.2.2.1 C5.2.2.2.2.2.2 (fun g0 => ?_) (fun g0 h4 G4 X4 => absurd hE g0)
      rw [rV_s]
      exact hK2 h5 (.inl f') q5 er ⟨nf, C5.2.2.2.2.2.2, C5.2.2.1.2.2.2.2.1⟩
    rw [b69_28]
    rw [if_neg (by decide)]
    simp only [RrS_ok C5.2.2.2.1, true_and]
    refine ⟨(TxS_ok C5.2.1).2.2.2.2.2.2.2.2.2.2, ?_⟩
    refine c109 (d := d + 39) (t := 59) C5.2.1 C5.2.2.1 (by decide) (fun gt h1 G X1 => by rw [hE] at gt; exact absurd gt (by decide)) (fun gt => ?_)
    rw [if_pos rfl]
    exact fin
end Rr7
