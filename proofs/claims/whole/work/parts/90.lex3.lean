/-! THE TEXT: it is begun, and its tokens are taken -/
def TxT (h : mHeap) (T : List (Nat × Nat)) (c f : Nat) : Prop := LxP h T ∧ fI h 65 6 = ii c ∧ c < T.length ∧ T.length ≤ 401 ∧ fI h 65 2 = ii f ∧ ∀ i, i < T.length → (tk T i).1 ≤ 101001 ∧ (tk T i).2 ≤ 400
def txG (h h1 : mHeap) : Prop := Fr 65 1 h h1 ∧ ∀ j, ¬ j = 2 → ¬ j = 6 → fI h1 65 j = fI h 65 j
def nx (T : List (Nat × Nat)) (c : Nat) : Nat := if c + 1 < T.length then c + 1 else c
def blm (T : List (Nat × Nat)) (c f kind : Nat) : Nat := if f = 0 then 1 + 8 * (tk T c).2 + kind else f
section Lx3
variable {d n : Nat} {h h1 h2 : mHeap} {B : Bt} {T : List (Nat × Nat)} {c f : Nat}
theorem txG.rf : txG h h := ⟨Fr.rf, fun _ _ _ => rfl⟩
theorem txG.tr (x : txG h h1) (y : txG h1 h2) : txG h h2 := ⟨x.1.tr y.1, fun j a b => (y.2 j a b).trans (x.2 j a b)⟩
theorem TxB.frG (hB : TxB h B n) (x : txG h h1) : TxB h1 B n := ⟨by rw [x.2 1 (by decide) (by decide)]; exact hB.1, hB.2.1, fun i hi => by rw [same_xA (x.1.2.2.2 66 (by omega))]; exact hB.2.2 i hi⟩
theorem lxF_ok (hb : ∀ i, i < n → -128 ≤ B i ∧ B i ≤ 127) : ∀ k q b, q + k = n → (lxF B n k q b).length ≤ k + 1 ∧ 0 < (lxF B n k q b).length ∧ (∀ x ∈ lxF B n k q b, x.1 ≤ 101001 ∧ x.2 ≤ n)
  | 0, q, b, _ => ⟨Nat.le_refl _, Nat.one_pos, fun x hx => by
    have : x ∈ [(0, n)] := hx
    rw [List.mem_singleton] at this
    rw [this]
    exact ⟨(show (0 : Nat) ≤ 101001 by decide), Nat.le_refl _⟩⟩
  | k + 1, q, b, hk => by
    show (if b ≤ q ∧ ¬ B q = 32 then ((tok B n q).1 + 1, q) :: lxF B n k (q + 1) (tok B n q).2 else lxF B n k (q + 1) b).length ≤ k + 1 + 1 ∧ 0 < (if b ≤ q ∧ ¬ B q = 32 then ((tok B n q).1 + 1, q) :: lxF B n k (q + 1) (tok B n q).2 else lxF B n k (q + 1) b).length ∧ (∀ x ∈ (if b ≤ q ∧ ¬ B q = 32 then ((tok B n q).1 + 1, q) :: lxF B n k (q + 1) (tok B n q).2 else lxF B n k (q + 1) b), x.1 ≤ 101001 ∧ x.2 ≤ n)
    by_cases g : b ≤ q ∧ ¬ B q = 32
    · rw [if_pos g]
      have ih := lxF_ok hb k (q + 1) (tok B n q).2 (by omega)
      have tl := tok_lt (B := B) (n := n) (q := q) (by omega) (hb q (by omega))
      refine ⟨by rw [List.length_cons]; omega, by rw [List.length_cons]; omega, fun x hx => ?_⟩
      rw [List.mem_cons] at hx
      rcases hx with hx | hx
      · rw [hx]
        exact ⟨by show (tok B n q).1 + 1 ≤ 101001; omega, by show q ≤ n; omega⟩
      · exact ih.2.2 x hx
    · rw [if_neg g]
      have ih := lxF_ok hb k (q + 1) b (by omega)
      exact ⟨by omega, ih.2.1, ih.2.2⟩
theorem tk_mem {i : Nat} (hi : i < T.length) : tk T i ∈ T := by
  unfold tk
  rw [List.getD_eq_getElem?_getD, List.getElem?_eq_getElem hi, Option.getD_some]
  exact List.getElem_mem hi
/-- begin -/
theorem c99 {K : mHeap → Prop} (hSt : St h) (hT : TxS h) (hB : TxB h B n) (hK : ∀ h1, Fr 65 4 h h1 → h1[66]? = h[66]? → fI h1 65 1 = fI h 65 1 → TxT h1 (lex B n) 0 0 → K h1) : GoCv (d + 9) 99 [.ref 65] h K := by
  have n4 := hB.2.1
  have lok := lxF_ok (B := B) (n := n) (fun i hi => (hB.2.2 i hi).2) n 0 0 (by omega)
  rw [e99, b99_0]
  have p2 := putT hT (k := 2) (Or.inr (Or.inl rfl)) (ii 0)
  refine ⟨p2.1, ?_⟩
  have F2 := p2.2.1
  have v2 := p2.2.2
  generalize sF h 65 2 (.int (ii 0)) = H1 at *
  have T1 := hT.sk F2.1
  have p5 := putT T1 (k := 5) (Or.inr (Or.inr (Or.inl rfl))) (ii 0)
  refine ⟨p5.1, ?_⟩
  have F5 := p5.2.1
  have v5 := p5.2.2
  generalize sF H1 65 5 (.int (ii 0)) = H2 at *
  have T2 := T1.sk F5.1
  have p6 := putT T2 (k := 6) (Or.inr (Or.inr (Or.inr rfl))) (ii 0)
  refine ⟨p6.1, ?_⟩
  have F6 := p6.2.1
  have v6 := p6.2.2
  generalize sF H2 65 6 (.int (ii 0)) = H3 at *
  have T3 := T2.sk F6.1
  have F : Fr 65 1 h H3 := F2.tr (F5.tr F6)
  have u1 : fI H3 65 1 = fI h 65 1 := by rw [v6, if_neg (by decide), v5, if_neg (by decide), v2, if_neg (by decide)]
  have u2 : fI H3 65 2 = ii ((0 : Nat) : Int) := by rw [v6, if_neg (by decide), v5, if_neg (by decide), v2, if_pos rfl]; rfl
  have u5 : fI H3 65 5 = ii ((0 : Nat) : Int) := by rw [v6, if_neg (by decide), v5, if_pos rfl]; rfl
  have u6 : fI H3 65 6 = ii ((0 : Nat) : Int) := by rw [v6, if_pos rfl]; rfl
  have B3 : TxB H3 B n := ⟨by rw [u1]; exact hB.1, n4, fun i hi => by rw [same_xA (F.2.2.2 66 (by omega))]; exact hB.2.2 i hi⟩
  have St3 := F.St (by decide) hSt
  have P0 : LxP H3 [] := ⟨u5, fun i hi => (by cases hi)⟩
  refine Go_loop (fun q L' h' => txF H3 h' ∧ ∃ T b, LxP h' T ∧ T.length ≤ q ∧ b ≤ n ∧ T ++ lxF B n (n - q) q b = lex B n ∧ L' = [some (.ref 65), some (.int (ii (b : Nat))), some (.int (ii q))]) n ?_ ?_ 0 _ _ (Nat.zero_le _) ⟨txF.rf, [], 0, P0, Nat.le_refl _, Nat.zero_le _, rfl, rfl⟩
  · rintro q L' h' hq ⟨X, T, b, P, lT, lb, eL, rfl⟩ next
    have eq : ii (q : Int) + ii 1 = ii ((q + 1 : Nat) : Int) := by rw [ii_add]; rfl
    have T' := T3.sk X.1.1
    have B' := B3.fr X
    have St' := X.1.St (by decide) St3
    rw [show n - q = (n - (q + 1)) + 1 by omega] at eL
    have eL' : T ++ (if b ≤ q ∧ ¬ B q = 32 then ((tok B n q).1 + 1, q) :: lxF B n (n - (q + 1)) (q + 1) (tok B n q).2 else lxF B n (n - (q + 1)) (q + 1) b) = lex B n := eL
    have no : ¬ (b ≤ q ∧ ¬ B q = 32) → Go (d + 8) 99 49 [some (.ref 65), some (.int (ii (b : Nat))), some (.int (ii q))] [] h' (rV K) := fun g => by
      rw [if_neg g] at eL'
      rw [b99_49, eq]
      exact next _ _ ⟨X, T, b, P, by omega, lb, eL', rfl⟩
    rw [b99_19]
    simp only [TxS_ok T', B'.1, true_and]
    rw [if_neg (by rw [ii_le (by omega) (by omega) (by omega) (by omega)]; omega)]
    by_cases g1 : q < b
    · rw [if_pos (by rw [ii_lt (by omega) (by omega) (by omega) (by omega)]; omega)]
      exact no (fun g => by omega)
    rw [if_neg (by rw [ii_lt (by omega) (by omega) (by omega) (by omega)]; omega)]
    have by1 := byt_ok T' B' hq
    have br := (B'.2.2 q hq).2
    refine ⟨by1.1, ?_⟩
    rw [by1.2]
    by_cases g2 : B q = 32
    · rw [if_pos (by rw [g2])]
      exact no (fun g => g.2 g2)
    · rw [if_neg (by rw [show ii 32 = ii (32 : Int) from rfl, ii_eq (by omega) (by omega) (by omega) (by omega)]; exact g2)]
      rw [if_pos ⟨by omega, g2⟩] at eL'
      have tl := tok_le (B := B) hq
      refine c101 St' T' B' P (by omega) hq (fun h1 X1 P1 => ?_)
      rw [b99_49, eq]
      refine next _ _ ⟨X.tr X1, T ++ [((tok B n q).1 + 1, q)], (tok B n q).2, P1, by rw [List.length_append]; show T.length + 1 ≤ q + 1; omega, tl.2, ?_, rfl⟩
      rw [List.append_assoc]
      exact eL'
  · rintro L' h' ⟨X, T, b, P, lT, lb, eL, rfl⟩
    have T' := T3.sk X.1.1
    have B' := B3.fr X
    rw [Nat.sub_self] at eL
    have eL' : T ++ [(0, n)] = lex B n := eL
    rw [b99_19]
    simp only [TxS_ok T', B'.1, true_and]
    rw [if_pos (by rw [ii_le (by omega) (by omega) (by omega) (by omega)]; omega)]
    show GoCv (d + 8) 100 [.ref 65, .int (ii (((0 : Nat) : Int) - 1)), .int (ii (n : Int))] h' _
    refine c100 (d := d + 7) (c := 0) (w := n) T' P (by omega) (fun h1 X1 P1 => ?_)
    rw [eL'] at P1
    have X2 := X.tr X1
    rw [rV_s]
    refine hK h1 ((F.wide (by decide) (by decide)).tr X2.1) ?_ ?_ ⟨P1, by rw [X2.2.2 6 (by decide)]; exact u6, lok.2.1, Nat.le_trans lok.1 (by omega), by rw [X2.2.2 2 (by decide)]; exact u2, fun i hi => ?_⟩
    · rw [X2.2.1, F.2.2.2 66 (by omega)]
    · rw [X2.2.2 1 (by decide), u1]
    · have := lok.2.2 (tk (lex B n) i) (tk_mem hi)
      exact ⟨this.1, Nat.le_trans this.2 n4⟩
theorem TxT_at (hT : TxS h) (hX : TxT h T c f) : okA h 67 .int (ii c) ∧ eI h 67 (ii c) = ii (((tk T c).1 : Int) - 1) ∧ okA h 68 .int (ii c) ∧ eI h 68 (ii c) = ii (tk T c).2 := by
  have hc := hX.2.2.1
  have hl := hX.2.2.2.1
  have r1 := row_ok hT.2.2.1 (show c < 401 by omega) (by omega)
  have r2 := row_ok hT.2.2.2 (show c < 401 by omega) (by omega)
  have v := hX.1.2 c hc
  exact ⟨r1.1, r1.2.trans v.1, r2.1, r2.2.trans v.2⟩
theorem TxT_put (hX : TxT h T c f) (x : txG h h1) {c' f' : Nat} (h6 : fI h1 65 6 = ii c') (h2 : fI h1 65 2 = ii f') (hc : c' < T.length) : TxT h1 T c' f' := ⟨⟨by rw [x.2 5 (by decide) (by decide)]; exact hX.1.1, fun i hi => by rw [same_xA (x.1.2.2.2 67 (by omega)), same_xA (x.1.2.2.2 68 (by omega))]; exact hX.1.2 i hi⟩, h6, hc, hX.2.2.2.1, h2, hX.2.2.2.2.2⟩
/-- token -/
theorem c107 {K : Int32 → mHeap → Prop} (hT : TxS h) (hX : TxT h T c f) : GoCi (d + 1) 107 [.ref 65] h K ↔ K (ii (((tk T c).1 : Int) - 1)) h := by
  have a := TxT_at hT hX
  rw [e107, b107_0]
  simp only [TxS_ok hT, hX.2.1, a, true_and, rI_s]
/-- skip -/
theorem c108 {K : mHeap → Prop} (hT : TxS h) (hX : TxT h T c f) (hK : ∀ h1, txG h h1 → TxT h1 T (nx T c) f → K h1) : GoCv (d + 1) 108 [.ref 65] h K := by
  have hc := hX.2.2.1
  have hl := hX.2.2.2.1
  rw [e108, b108_0]
  simp only [TxS_ok hT, hX.2.1, hX.1.1, true_and, ii_sub]
  by_cases g : c + 1 < T.length
  · rw [if_neg (by rw [ii_le (by omega) (by omega) (by omega) (by omega)]; omega)]
    have p := putT hT (k := 6) (Or.inr (Or.inr (Or.inr rfl))) (ii c + ii 1)
    refine ⟨p.1, ?_⟩
    rw [rV_s]
    have G : txG h (sF h 65 6 (.int (ii c + ii 1))) := ⟨p.2.1, fun j a b => by rw [p.2.2, if_neg b]⟩
    refine hK _ G ?_
    have en : nx T c = c + 1 := by unfold nx; rw [if_pos g]
    rw [en]
    exact TxT_put hX G (by rw [p.2.2, if_pos rfl, ii_add]; rfl) (by rw [p.2.2, if_neg (by decide)]; exact hX.2.2.2.2.1) g
  · rw [if_pos (by rw [ii_le (by omega) (by omega) (by omega) (by omega)]; omega), rV_s]
    refine hK h txG.rf ?_
    have en : nx T c = c := by unfold nx; rw [if_neg g]
    rw [en]
    exact hX
/-- takes -/
theorem c109 {K : Int32 → mHeap → Prop} (hT : TxS h) (hX : TxT h T c f) {t : Int} (ht : -1000 ≤ t ∧ t ≤ 200000) (hY : ((tk T c).1 : Int) - 1 = t → ∀ h1, txG h h1 → TxT h1 T (nx T c) f → K (ii 1) h1) (hN : ¬ ((tk T c).1 : Int) - 1 = t → K (ii 0) h) : GoCi (d + 2) 109 [.ref 65, .int (ii t)] h K := by
  have a := TxT_at hT hX
  have hb := hX.2.2.2.2.2 c hX.2.2.1
  rw [e109, b109_0]
  simp only [TxS_ok hT, hX.2.1, a, true_and]
  by_cases g : ((tk T c).1 : Int) - 1 = t
  · rw [if_pos (by rw [g])]
    refine c108 hT hX (fun h1 G X1 => ?_)
    refine ⟨by simp, ?_⟩
    rw [rI_s]
    exact hY g h1 G X1
  · rw [if_neg (by rw [ii_eq (by omega) (by omega) (by omega) (by omega)]; exact g)]
    refine ⟨by simp, ?_⟩
    rw [rI_s]
    exact hN g
/-- blame -/
theorem c112 {K : mHeap → Prop} (hT : TxS h) (hX : TxT h T c f) (hf : f < 100000) {kind : Nat} (hK : ∀ h1, txG h h1 → TxT h1 T (T.length - 1) (blm T c f kind) → K h1) : GoCv (d + 1) 112 [.ref 65, .int (ii kind)] h K := by
  have a := TxT_at hT hX
  have hc := hX.2.2.1
  have hl := hX.2.2.2.1
  have e1 : ii (T.length : Int) - ii 1 = ii ((T.length - 1 : Nat) : Int) := by
    rw [ii_sub]
    congr 1
    omega
  rw [e112, b112_0]
  simp only [TxS_ok hT, hX.2.2.2.2.1, true_and]
  by_cases g : f = 0
  · rw [if_neg (by rw [g]; exact fun q => q rfl)]
    simp only [hX.2.1, a, true_and]
    have ev : ii 1 + ii 8 * ii ((tk T c).2 : Int) + ii (kind : Int) = ii ((1 + 8 * (tk T c).2 + kind : Nat) : Int) := by
      rw [ii_mul, ii_add, ii_add]
      rfl
    rw [ev]
    have p := putT hT (k := 2) (Or.inr (Or.inl rfl)) (ii ((1 + 8 * (tk T c).2 + kind : Nat) : Int))
    refine ⟨p.1, ?_⟩
    have F1 := p.2.1
    have v1 := p.2.2
    generalize sF h 65 2 (.int (ii ((1 + 8 * (tk T c).2 + kind : Nat) : Int))) = H1 at *
    have T1 := hT.sk F1.1
    have s5 : fI H1 65 5 = ii T.length := by rw [v1, if_neg (by decide)]; exact hX.1.1
    have p2 := putT T1 (k := 6) (Or.inr (Or.inr (Or.inr rfl))) (ii ((T.length - 1 : Nat) : Int))
    simp only [TxS_ok T1, s5, true_and, e1]
    refine ⟨p2.1, ?_⟩
    rw [rV_s]
    have G : txG h (sF H1 65 6 (.int (ii ((T.length - 1 : Nat) : Int)))) := ⟨F1.tr p2.2.1, fun j a b => by rw [p2.2.2, if_neg b, v1, if_neg a]⟩
    refine hK _ G (TxT_put hX G (by rw [p2.2.2, if_pos rfl]) ?_ (by omega))
    rw [p2.2.2, if_neg (by decide), v1, if_pos rfl]
    unfold blm
    rw [if_pos g]
  · rw [if_pos (by rw [show ii 0 = ii ((0 : Nat) : Int) from rfl, ii_eq (by omega) (by omega) (by omega) (by omega)]; omega)]
    have p2 := putT hT (k := 6) (Or.inr (Or.inr (Or.inr rfl))) (ii ((T.length - 1 : Nat) : Int))
    simp only [hX.1.1, true_and, e1]
    refine ⟨p2.1, ?_⟩
    rw [rV_s]
    have G : txG h (sF h 65 6 (.int (ii ((T.length - 1 : Nat) : Int)))) := ⟨p2.2.1, fun j a b => by rw [p2.2.2, if_neg b]⟩
    refine hK _ G (TxT_put hX G (by rw [p2.2.2, if_pos rfl]) ?_ (by omega))
    rw [p2.2.2, if_neg (by decide), hX.2.2.2.2.1]
    unfold blm
    rw [if_neg g]
/-- wants -/
theorem c110 {K : mHeap → Prop} (hT : TxS h) (hX : TxT h T c f) (hf : f < 100000) {t : Int} (ht : -1000 ≤ t ∧ t ≤ 200000) (hY : ((tk T c).1 : Int) - 1 = t → ∀ h1, txG h h1 → TxT h1 T (nx T c) f → K h1) (hN : ¬ ((tk T c).1 : Int) - 1 = t → ∀ h1, txG h h1 → TxT h1 T (T.length - 1) (blm T c f 0) → K h1) : GoCv (d + 3) 110 [.ref 65, .int (ii t)] h K := by
  rw [e110, b110_0]
  refine ⟨(TxS_ok hT).2.2.2.2.2.2.2.2.2.2, ?_⟩
  refine c109 hT hX ht (fun g h1 G X1 => ?_) (fun g => ?_)
  · rw [if_pos (by decide), rV_s]
    exact hY g h1 G X1
  · rw [if_neg (by simp)]
    refine ⟨(TxS_ok hT).2.2.2.2.2.2.2.2.2.2, ?_⟩
    refine c112 (d := d + 1) (kind := 0) hT hX hf (fun h1 G X1 => ?_)
    rw [rV_s]
    exact hN g h1 G X1
/-- wantsEnd -/
theorem c111 {K : mHeap → Prop} (hT : TxS h) (hX : TxT h T c f) (hf : f < 100000) (hY : (tk T c).1 = 0 → K h) (hN : ¬ (tk T c).1 = 0 → ∀ h1, txG h h1 → TxT h1 T (T.length - 1) (blm T c f 0) → K h1) : GoCv (d + 2) 111 [.ref 65] h K := by
  have a := TxT_at hT hX
  have hb := hX.2.2.2.2.2 c hX.2.2.1
  rw [e111, b111_0]
  simp only [TxS_ok hT, hX.2.1, a, true_and]
  by_cases g : (tk T c).1 = 0
  · rw [if_pos (by rw [g]; rfl), rV_s]
    exact hY g
  · rw [if_neg (by rw [show ii (-1) = ii (-1 : Int) from rfl, ii_eq (by omega) (by omega) (by omega) (by omega)]; omega)]
    refine c112 (d := d) (kind := 0) hT hX hf (fun h1 G X1 => ?_)
    rw [rV_s]
    exact hN g h1 G X1
/-- failed -/
theorem c113 {K : Int32 → mHeap → Prop} (hT : TxS h) (hX : TxT h T c f) (hf : f < 100000) : GoCi (d + 1) 113 [.ref 65] h K ↔ K (if f = 0 then ii 0 else ii 1) h := by
  rw [e113, b113_0]
  simp only [TxS_ok hT, hX.2.2.2.2.1, true_and, rI_s, true_or, or_true]
  by_cases g : f = 0
  · rw [if_pos (by rw [g]; rfl), if_pos g]
  · rw [if_neg (by rw [show ii 0 = ii ((0 : Nat) : Int) from rfl, ii_eq (by omega) (by omega) (by omega) (by omega)]; omega), if_neg g]
/-- number -/
theorem c114 {K : Int32 → mHeap → Prop} (hT : TxS h) (hX : TxT h T c f) (hf : f < 100000) {lo hi : Int} (hlo : -1000000 ≤ lo ∧ lo ≤ 1000000) (hhi : -1000000 ≤ hi ∧ hi ≤ 1000000) (h0 : (tk T c).1 < 1001 → ∀ h1, txG h h1 → TxT h1 T (T.length - 1) (blm T c f 0) → K (ii (((tk T c).1 : Int) - 1001)) h1) (h1 : 1001 ≤ (tk T c).1 → ((tk T c).1 = 101001 ∨ ((tk T c).1 : Int) - 1001 < lo ∨ hi < ((tk T c).1 : Int) - 1001) → ∀ h1, txG h h1 → TxT h1 T (T.length - 1) (blm T c f 1) → K (ii (((tk T c).1 : Int) - 1001)) h1) (h2 : 1001 ≤ (tk T c).1 → ¬ (tk T c).1 = 101001 → lo ≤ ((tk T c).1 : Int) - 1001 → ((tk T c).1 : Int) - 1001 ≤ hi → ∀ h1, txG h h1 → TxT h1 T (nx T c) f → K (ii (((tk T c).1 : Int) - 1001)) h1) : GoCi (d + 2) 114 [.ref 65, .int (ii lo), .int (ii hi)] h K := by
  have a := TxT_at hT hX
  have hb := hX.2.2.2.2.2 c hX.2.2.1
  have o9 := (TxS_ok hT).2.2.2.2.2.2.2.2.2.2
  rw [e114, b114_0]
  have ev : ii (((tk T c).1 : Int) - 1) - ii 1000 = ii (((tk T c).1 : Int) - 1001) := by
    rw [ii_sub]
    congr 1
    omega
  simp only [TxS_ok hT, hX.2.1, a, true_and, ev]
  by_cases g0 : (tk T c).1 < 1001
  · rw [if_neg (by rw [show ii 0 = ii (0 : Int) from rfl, ii_le (by omega) (by omega) (by omega) (by omega)]; omega)]
    refine c112 (d := d) (kind := 0) hT hX hf (fun h1 G X1 => ?_)
    rw [rI_s]
    exact h0 g0 h1 G X1
  rw [if_pos (by rw [show ii 0 = ii (0 : Int) from rfl, ii_le (by omega) (by omega) (by omega) (by omega)]; omega)]
  have bad : ((tk T c).1 = 101001 ∨ ((tk T c).1 : Int) - 1001 < lo ∨ hi < ((tk T c).1 : Int) - 1001) → Go (d + 1) 114 50 [some (.ref 65), some (.int (ii lo)), some (.int (ii hi)), some (.int (ii (((tk T c).1 : Int) - 1001)))] [] h (rI K) := fun g => by
    rw [b114_50]
    refine ⟨o9, ?_⟩
    refine c112 (d := d) (kind := 1) hT hX hf (fun h2 G X1 => ?_)
    rw [rI_s]
    exact h1 (by omega) g h2 G X1
  by_cases g1 : (tk T c).1 = 101001
  · rw [if_pos (by rw [g1]; rfl)]
    exact bad (Or.inl g1)
  rw [if_neg (by rw [show ii 101000 = ii (101000 : Int) from rfl, ii_eq (by omega) (by omega) (by omega) (by omega)]; omega)]
  by_cases g2 : ((tk T c).1 : Int) - 1001 < lo
  · rw [if_pos (by rw [ii_lt (by omega) (by omega) (by omega) (by omega)]; exact g2)]
    exact bad (Or.inr (Or.inl g2))
  rw [if_neg (by rw [ii_lt (by omega) (by omega) (by omega) (by omega)]; exact g2)]
  by_cases g3 : hi < ((tk T c).1 : Int) - 1001
  · rw [if_neg (by rw [ii_le (by omega) (by omega) (by omega) (by omega)]; omega)]
    exact bad (Or.inr (Or.inr g3))
  · rw [if_pos (by rw [ii_le (by omega) (by omega) (by omega) (by omega)]; omega)]
    refine c108 (d := d) hT hX (fun h3 G X1 => ?_)
    rw [rI_s]
    exact h2 (by omega) g1 (by omega) (by omega) h3 G X1
end Lx3
