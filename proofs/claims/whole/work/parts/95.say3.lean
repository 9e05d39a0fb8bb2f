/-! SAYINGS read: facts and brackets, and all of it -/
section Rf
variable {T : List (Nat × Nat)}
theorem P82_of {dep m : Nat} (hE : (tk T (T.length - 1)).1 = 0) (hdm : dep + m = 10) (hin : ∀ m', m = m' + 1 → P82 T (dep + 1) m' ∧ P81 T (dep + 1) m') : P82 T dep m := by
  intro h K i k D fr e b hC hfr hD hK
  obtain ⟨d, rfl⟩ : ∃ d, D = d + 5 := ⟨D - 5, by omega⟩
  have ok := Rd_ok hC.2.2.2.1
  have hl := ok.2.2.2.2.2.2
  have hX := hC.2.2.1
  have hi := hX.2.2.1
  have tb := (hX.2.2.2.2.2 i hi).1
  have o9 := (TxS_ok hC.2.1).2.2.2.2.2.2.2.2.2.2
  rw [e82, b82_0]
  simp only [ok, true_and]
  refine ⟨o9, ?_⟩
  rw [c107 hC.2.1 hX]
  have eqt : ∀ z : Int, 0 ≤ z → z < 1000 → (ii (((tk T i).1 : Int) - 1) = ii z ↔ ((tk T i).1 : Int) = z + 1) := fun z z0 z1 => by
    rw [ii_eq (by omega) (by omega) (by omega) (by omega)]
    omega
  -- a bracket or a not, too deep or not
  have deep : ((tk T i).1 = 92 ∨ (tk T i).1 = 315) → ∀ l3, Go (d + 4) 82 27 [some (.ref 118), some (.int (ii dep)), some (.int (ii (((tk T i).1 : Int) - 1))), l3] [] h (rR K) := fun ht l3 => by
    have nxi := nx_in hE hi (by omega)
    rw [b82_27]
    by_cases cd : dep < 10
    rotate_left
    · rw [if_neg (by rw [show ii 10 = ii (10 : Int) from rfl, ii_lt (by omega) (by omega) (by omega) (by omega)]; omega)]
      simp only [ok, true_and]
      refine ⟨o9, ?_⟩
      refine c112 (d := d + 3) (kind := 2) hC.2.1 hX (by decide) (fun h2 G X2 => ?_)
      have l2 : h2.length = h.length := G.1.2.1
      refine ⟨_, rfl, by omega, ?_⟩
      rw [c115]
      refine ⟨by omega, ?_⟩
      rw [rR_s]
      have C2 := hC.tx G X2 (flt_lt hX (by decide)).1
      have nw := new_W (h := h2) (by omega)
      have r := (rdF.txG G).tr (rdF.new (h := h2))
      refine hK _ _ ⟨nw.1, by omega, Or.inr ⟨flt T i 2, 0 + 1, k, (flt_lt hX (by decide)).2, by omega, r, C2.new, ?_⟩⟩
      refine sgR.st ?_
      show sgR T (sgN T i fr e b k) _
      unfold sgN
      rcases ht with g | g
      · rw [if_pos g, if_pos (by omega)]; exact sgR.rf
      · rw [if_neg (by omega), if_pos g, if_pos (by omega)]; exact sgR.rf
    rw [if_pos (by rw [show ii 10 = ii (10 : Int) from rfl, ii_lt (by omega) (by omega) (by omega) (by omega)]; omega)]
    simp only [ok, true_and]
    refine ⟨o9, ?_⟩
    refine c108 (d := d + 3) hC.2.1 hX (fun h1 G X1 => ?_)
    rw [nxi.2] at X1
    have C1 := hC.tx G X1 (by decide)
    have ok1 := Rd_ok C1.2.2.2.1
    have l1 : h1.length = h.length := G.1.2.1
    have ed : ii (dep : Int) + ii 1 = ii ((dep + 1 : Nat) : Int) := by rw [ii_add]; rfl
    obtain ⟨m', em⟩ : ∃ m', m = m' + 1 := ⟨m - 1, by omega⟩
    obtain ⟨i82, i81⟩ := hin m' em
    rcases ht with g | g
    · -- a bracket
      rw [if_pos (fun q => by have := (eqt 314 (by decide) (by decide)).mp q; omega)]
      refine ⟨ok1.2.2.2.1, ?_⟩
      rw [ed]
      have sp : sgR T (.inl (i, fr, e, b, k, true)) (.inl (i + 1, (true, e, b) :: fr, zeW, onW, k, true)) := sgR.st (by
        show sgR T (sgN T i fr e b k) _
        unfold sgN
        rw [if_pos g, if_neg (by omega)]
        exact sgR.rf)
      refine i81 (fr := (true, e, b) :: fr) C1 (by rw [List.length_cons, hfr]) (fun w => rfl) (by omega) (fun v h2 O => ?_)
      obtain ⟨wv, hv, O⟩ := O
      rcases O with ⟨i2, k2, a2, q1, q2, q3, r, C2, e', b', gg, ew, n1, n2⟩ | ⟨f2, a2, k2, q1, q3, r, C2, gg⟩
      · have hX2 := C2.2.2.1
        simp only [Rd_ok C2.2.2.2.1, true_and]
        refine ⟨(TxS_ok C2.2.1).2.2.2.2.2.2.2.2.2.2, ?_⟩
        refine c110 (d := d + 1) (t := 93) C2.2.1 hX2 (by decide) (by decide) (fun gt h3 G3 X3 => ?_) (fun gt h3 G3 X3 => ?_)
        · have nx2 := nx_in hE hX2.2.2.1 (by omega)
          rw [nx2.2] at X3
          have wv3 : wo h3 v = wo h2 v := same_wo (G3.1.2.2.2 v (by omega))
          rw [rR_s]
          refine hK _ _ ⟨G3.1.1.WS wv, by omega, Or.inl ⟨i2 + 1, k2, 0 + a2 + 0, by omega, nx2.1, by omega, ((rdF.txG G).tr r).tr (rdF.txG G3), C2.tx G3 X3 (by decide), ?_⟩⟩
          refine (sp.tr gg).tr (sgR.st ?_)
          show sgR T (sgB T i2 ((true, e, b) :: fr) e' b' k2) _
          unfold sgB
          rw [if_neg (fun q => by have := q.1; omega), if_pos ⟨by omega, by simp⟩, wv3, ew]
          exact sgR.rf
        · rw [rR_s]
          have fl := flt_lt hX2 (kind := 0) (by decide)
          refine hK _ _ ⟨G3.1.1.WS wv, by omega, Or.inr ⟨flt T i2 0, 0 + a2 + 0, k2, fl.2, by omega, ((rdF.txG G).tr r).tr (rdF.txG G3), C2.tx G3 X3 fl.1, ?_⟩⟩
          refine (sp.tr gg).tr (sgR.st ?_)
          show sgR T (sgB T i2 ((true, e, b) :: fr) e' b' k2) _
          unfold sgB
          rw [if_neg (fun q => by have := q.2; simp at this), if_neg (fun q => by have := q.1; omega), if_neg n1, if_neg n2]
          exact sgR.rf
      · simp only [Rd_ok C2.2.2.2.1, true_and]
        refine ⟨(TxS_ok C2.2.1).2.2.2.2.2.2.2.2.2.2, ?_⟩
        refine c110 (d := d + 1) (t := 93) C2.2.1 C2.2.2.1 C2.2.2.2.2.2.2 (by decide) (fun gt h3 G3 X3 => ?_) (fun gt h3 G3 X3 => ?_)
        · rw [hE] at gt; exact absurd gt (by decide)
        · rw [rR_s]
          have eb : blm T (T.length - 1) f2 0 = f2 := by unfold blm; rw [if_neg q1]
          rw [eb] at X3
          exact hK _ _ ⟨G3.1.1.WS wv, by omega, Or.inr ⟨f2, 0 + a2 + 0, k2, q1, by omega, ((rdF.txG G).tr r).tr (rdF.txG G3), C2.tx G3 X3 C2.2.2.2.2.2.2, sp.tr gg⟩⟩
    · -- a not
      rw [if_neg (fun q => q ((eqt 314 (by decide) (by decide)).mpr (by omega)))]
      refine ⟨ok1.2.2.2.1, ?_⟩
      rw [ed]
      have sp : sgR T (.inl (i, fr, e, b, k, true)) (.inl (i + 1, (false, zeW, zeW) :: fr, e, b, k, true)) := sgR.st (by
        show sgR T (sgN T i fr e b k) _
        unfold sgN
        rw [if_neg (by omega), if_pos g, if_neg (by omega)]
        exact sgR.rf)
      refine i82 (fr := (false, zeW, zeW) :: fr) (e := e) (b := b) C1 (by rw [List.length_cons, hfr]) (by omega) (fun v h2 O => ?_)
      obtain ⟨wv, hv, O⟩ := O
      refine ⟨W_oC wv, ?_⟩
      rw [c120 (d := d + 2) wv, rR_s]
      have ew : wo (pW h2 v (fun i => !wo h2 v i)) v = ntW (wo h2 v) := by
        funext j
        rw [wo_pW wv j]; rfl
      rcases O with ⟨i2, k2, a2, q1, q2, q3, r, C2, gg⟩ | ⟨f2, a2, k2, q1, q3, r, C2, gg⟩
      · refine hK _ _ ⟨WS_pW wv wv, by omega, Or.inl ⟨i2, k2, 0 + a2, by omega, q2, by omega, ((rdF.txG G).tr r).pW (by omega) wv (by omega), C2.pW (by omega) wv, ?_⟩⟩
        rw [ew]
        exact sp.tr gg
      · exact hK _ _ ⟨WS_pW wv wv, by omega, Or.inr ⟨f2, 0 + a2, k2, q1, by omega, ((rdF.txG G).tr r).pW (by omega) wv (by omega), C2.pW (by omega) wv, sp.tr gg⟩⟩
  by_cases c1 : (tk T i).1 = 315
  · rw [if_pos ((eqt 314 (by decide) (by decide)).mpr (by omega))]
    exact deep (Or.inr c1) _
  rw [if_neg (fun q => by have := (eqt 314 (by decide) (by decide)).mp q; omega)]
  by_cases c2 : (tk T i).1 = 92
  · rw [if_pos ((eqt 91 (by decide) (by decide)).mpr (by omega))]
    exact deep (Or.inl c2) _
  rw [if_neg (fun q => by have := (eqt 91 (by decide) (by decide)).mp q; omega)]
  refine ⟨ok.2.2.2.1, ?_⟩
  refine c83 (d := d + 1) (fr := fr) (e := e) (b := b) hC hE c2 c1 (fun v h1 O => ?_)
  rw [rR_s]
  exact hK v h1 O
theorem readAll (hE : (tk T (T.length - 1)).1 = 0) : ∀ m dep, dep + m = 10 → P82 T dep m ∧ P81 T dep m := by
  intro m
  induction m with
  | zero =>
    intro dep h
    have a := @P82_of T dep 0 hE h (fun m' q => by omega)
    exact ⟨@a, @P81_of T dep 0 hE h @a⟩
  | succ m ih =>
    intro dep h
    have ih1 := ih (dep + 1) (by omega)
    have a := @P82_of T dep (m + 1) hE h (fun m' q => by
      have e : m' = m := by omega
      subst e
      exact ih1)
    exact ⟨@a, @P81_of T dep (m + 1) hE h @a⟩
theorem lxF_last {B : Bt} {n : Nat} : ∀ k q b, q + k = n → (tk (lxF B n k q b) ((lxF B n k q b).length - 1)) = (0, n)
  | 0, q, b, _ => rfl
  | k + 1, q, b, hk => by
    have e : lxF B n (k + 1) q b = if b ≤ q ∧ ¬ B q = 32 then ((tok B n q).1 + 1, q) :: lxF B n k (q + 1) (tok B n q).2 else lxF B n k (q + 1) b := rfl
    rw [e]
    split
    · have ih := lxF_last (B := B) (n := n) k (q + 1) (tok B n q).2 (by omega)
      have lp : 0 < (lxF B n k (q + 1) (tok B n q).2).length := by
        cases k with
        | zero => exact Nat.one_pos
        | succ k =>
          cases q2 : lxF B n (k + 1) (q + 1) (tok B n q).2 with
          | nil =>
            exfalso
            have : ∀ k q b, 0 < (lxF B n k q b).length := by
              intro k
              induction k with
              | zero => intro q b; exact Nat.one_pos
              | succ k ih2 =>
                intro q b
                show 0 < (if b ≤ q ∧ ¬ B q = 32 then ((tok B n q).1 + 1, q) :: lxF B n k (q + 1) (tok B n q).2 else lxF B n k (q + 1) b).length
                split
                · rw [List.length_cons]; omega
                · exact ih2 _ _
            have := this (k + 1) (q + 1) (tok B n q).2
            rw [q2] at this
            exact absurd this (by decide)
          | cons x l => rw [List.length_cons]; omega
      generalize lxF B n k (q + 1) (tok B n q).2 = L at *
      rw [List.length_cons, Nat.add_sub_cancel]
      have : tk (((tok B n q).1 + 1, q) :: L) L.length = tk L (L.length - 1) := by
        unfold tk
        rw [show L.length = (L.length - 1) + 1 by omega, List.getD_cons_succ, Nat.add_sub_cancel]
      rw [this]
      exact ih
    · exact lxF_last k (q + 1) b (by omega)
def sgO : Sg ⊕ Nat ⊕ Wd := .inl (0, [], zeW, onW, 0, true)
/-- read -/
theorem c80 {d n : Nat} {h : mHeap} {B : Bt} {K : Nat → mHeap → Prop} (hSt : St h) (hT : TxS h) (hB : TxB h B n) (h118 : kd h 118 = (4, 7, [68, 0])) (hK : ∀ v h1 f, Gr 402 1608 h h1 → (∀ c, c < h.length → kd h1 c = kd h c) → (∀ c, c < h.length → ¬ c = 65 → ¬ c = 67 → ¬ c = 68 → ¬ c = 118 → h1[c]? = h[c]?) → fI h1 65 1 = fI h 65 1 → fI h1 65 2 = ii (f : Nat) → f < 100000 → (f = 0 → WS h1 v ∧ h.length ≤ v ∧ sgR (lex B n) sgO (.inr (.inr (wo h1 v)))) → (¬ f = 0 → sgR (lex B n) sgO (.inr (.inl f))) → K v h1) : GoCr (d + 28) 80 [.ref 118] h K := by
  have ok := Rd_ok h118
  have hE : (tk (lex B n) ((lex B n).length - 1)).1 = 0 := by
    have := lxF_last (B := B) (n := n) n 0 0 (by omega)
    exact congrArg Prod.fst this
  rw [e80, b80_0]
  simp only [ok, true_and]
  refine ⟨(TxS_ok hT).2.2.2.2.2.2.2.2.2.2, ?_⟩
  refine c99 (d := d + 18) hSt hT hB (fun h1 F1 s66 s1 X1 => ?_)
  have k1 : kd h1 118 = (4, 7, [68, 0]) := by rw [F1.1.1]; exact h118
  have ok1 := Rd_ok k1
  refine ⟨ok1.2.2.2.2.1, ?_⟩
  have F2 : Fr 118 1 h1 (sF h1 118 1 (.int (ii 0))) := Fr.sF ok1.2.2.2.2.2.1
  have v2 : fI (sF h1 118 1 (.int (ii 0))) 118 1 = ii ((0 : Nat) : Int) := by rw [fI_sF ok1.2.2.2.2.2.1, if_pos ⟨rfl, rfl⟩]; rfl
  generalize sF h1 118 1 (.int (ii 0)) = H2 at *
  have k2 : kd H2 118 = (4, 7, [68, 0]) := by rw [F2.1.1]; exact k1
  have l2 : H2.length = h.length := by rw [F2.2.1, F1.2.1]
  have C2 : RdC H2 (lex B n) 0 0 0 := ⟨F2.St (by decide) (F1.St (by decide) hSt), (hT.sk F1.1).sk F2.1, ⟨⟨by rw [same_fI (F2.2.2.2 65 (by omega))]; exact X1.1.1, fun j hj => by rw [same_xA (F2.2.2.2 67 (by omega)), same_xA (F2.2.2.2 68 (by omega))]; exact X1.1.2 j hj⟩, by rw [same_fI (F2.2.2.2 65 (by omega))]; exact X1.2.1, X1.2.2.1, X1.2.2.2.1, by rw [same_fI (F2.2.2.2 65 (by omega))]; exact X1.2.2.2.2.1, X1.2.2.2.2.2⟩, k2, v2, by decide, by decide⟩
  have lT := X1.2.2.2.1
  refine ⟨(Rd_ok k2).2.2.2.1, ?_⟩
  have hk1 : ∀ c, c < h.length → kd H2 c = kd h c := fun c hc => by rw [F2.1.1, F1.1.1]
  have hs1 : ∀ c, c < h.length → ¬ c = 65 → ¬ c = 67 → ¬ c = 68 → ¬ c = 118 → H2[c]? = h[c]? := fun c hc n1 n2 n3 n4 => by
    rw [F2.2.2.2 c (by omega)]
    by_cases c66 : c = 66
    · rw [c66]; exact s66
    · exact F1.2.2.2 c (by omega)
  have hf1 : fI H2 65 1 = fI h 65 1 := by rw [same_fI (F2.2.2.2 65 (by omega))]; exact s1
  have g1 : Gr 0 0 h H2 := (F1.gr.tr F2.gr).wide (by omega) (by omega)
  refine (readAll hE 10 0 (by decide)).2 (fr := []) C2 rfl (fun w => rfl) (by omega) (fun v h3 O => ?_)
  obtain ⟨wv, hv, O⟩ := O
  have fin : ∀ a h4 f, rdF a H2 h4 → a ≤ 402 → fI h4 65 2 = ii (f : Nat) → f < 100000 → (f = 0 → WS h4 v ∧ sgR (lex B n) sgO (.inr (.inr (wo h4 v)))) → (¬ f = 0 → sgR (lex B n) sgO (.inr (.inl f))) → K v h4 := fun a h4 f r ha q2 q3 q4 q5 => by
    refine hK v h4 f ((g1.tr r.1).wide (by omega) (by omega)) (fun c hc => by rw [r.2.1 c (by omega)]; exact hk1 c hc) (fun c hc n1 n2 n3 n4 => by rw [r.2.2.1 c (by omega) n1 n4]; exact hs1 c hc n1 n2 n3 n4) (by rw [r.2.2.2 1 (by decide) (by decide)]; exact hf1) q2 q3 (fun g => ⟨(q4 g).1, by omega, (q4 g).2⟩) q5
  rcases O with ⟨i2, k2', a2, q1, q2, q3, r, C3, e', b', gg, ew, n1, n2⟩ | ⟨f2, a2, k2', q1, q3, r, C3, gg⟩
  · have hX3 := C3.2.2.1
    simp only [Rd_ok C3.2.2.2.1, true_and]
    refine ⟨(TxS_ok C3.2.1).2.2.2.2.2.2.2.2.2.2, ?_⟩
    refine c111 (d := d + 25) C3.2.1 hX3 (by decide) (fun g0 => ?_) (fun g0 h4 G4 X4 => ?_)
    · rw [rR_s]
      refine fin a2 h3 0 r (by omega) hX3.2.2.2.2.1 (by decide) (fun _ => ⟨wv, ?_⟩) (fun g => absurd rfl g)
      refine gg.tr (sgR.st ?_)
      show sgR _ (sgB (lex B n) i2 [] e' b' k2') _
      unfold sgB
      rw [if_pos ⟨g0, rfl⟩, ew]
      exact sgR.rf
    · rw [rR_s]
      have fl := flt_lt hX3 (kind := 0) (by decide)
      refine fin (a2 + 0) h4 (flt (lex B n) i2 0) (r.tr (rdF.txG G4)) (by omega) X4.2.2.2.2.1 fl.1 (fun g => absurd g fl.2) (fun _ => ?_)
      refine gg.tr (sgR.st ?_)
      show sgR _ (sgB (lex B n) i2 [] e' b' k2') _
      unfold sgB
      rw [if_neg (fun q => g0 q.1), if_neg (fun q => q.2 rfl), if_neg n1, if_neg n2]
      exact sgR.rf
  · simp only [Rd_ok C3.2.2.2.1, true_and]
    refine ⟨(TxS_ok C3.2.1).2.2.2.2.2.2.2.2.2.2, ?_⟩
    refine c111 (d := d + 25) C3.2.1 C3.2.2.1 C3.2.2.2.2.2.2 (fun g0 => ?_) (fun g0 h4 G4 X4 => absurd hE g0)
    rw [rR_s]
    exact fin a2 h3 f2 r (by omega) C3.2.2.1.2.2.2.2.1 C3.2.2.2.2.2.2 (fun g => absurd g q1) (fun _ => gg)
end Rf
