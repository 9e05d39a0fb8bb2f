/-! THE TEXT: its cells; letters, digits, words -/
def TxS (h : mHeap) : Prop := kd h 65 = (4, 9, [69, 0, 0, 70, 71, 0, 0]) ∧ kd h 66 = (1, 2, [400]) ∧ kd h 67 = (1, 1, [401]) ∧ kd h 68 = (1, 1, [401])
def TxB (h : mHeap) (B : Bt) (n : Nat) : Prop := fI h 65 1 = ii n ∧ n ≤ 400 ∧ ∀ i, i < n → xA h 66 i = ii (B i) ∧ -128 ≤ B i ∧ B i ≤ 127
def tk (T : List (Nat × Nat)) (i : Nat) : Nat × Nat := T.getD i (0, 0)
def LxP (h : mHeap) (T : List (Nat × Nat)) : Prop := fI h 65 5 = ii T.length ∧ ∀ i, i < T.length → xA h 67 i = ii (((tk T i).1 : Int) - 1) ∧ xA h 68 i = ii (tk T i).2
def txF (h h1 : mHeap) : Prop := Fr 65 4 h h1 ∧ h1[66]? = h[66]? ∧ ∀ j, ¬ j = 5 → fI h1 65 j = fI h 65 j
/-- the words of the text, sign by sign -/
def wAt (B : Bt) (q len : Nat) : List Int32 → Nat → Nat → Bool → Nat
  | [], _, _, _ => 258
  | c :: cs, k, m, s => if ¬ c.toInt = 32 then wAt B q len cs k (m + 1) (s && (decide (m < len) && decide (B (q + m) = c.toInt))) else if s = true ∧ m = len then k else wAt B q len cs (k + 1) 0 true
section Lx1
variable {d n : Nat} {h h1 h2 : mHeap} {B : Bt} {T : List (Nat × Nat)}
theorem TxS_ok (hT : TxS h) : okF h 65 9 0 2 ∧ okF h 65 9 1 0 ∧ okF h 65 9 2 0 ∧ okF h 65 9 3 2 ∧ okF h 65 9 4 2 ∧ okF h 65 9 5 0 ∧ okF h 65 9 6 0 ∧ fR h 65 0 = 66 ∧ fR h 65 3 = 67 ∧ fR h 65 4 = 68 ∧ oC h 65 = 9 := by
  have k := hT.1
  refine ⟨?_, ?_, ?_, ?_, ?_, ?_, ?_, ?_, ?_, ?_, oC_kd k⟩
  · rw [okF_kd, k]; exact ⟨rfl, rfl, rfl⟩
  · rw [okF_kd, k]; exact ⟨rfl, rfl, rfl⟩
  · rw [okF_kd, k]; exact ⟨rfl, rfl, rfl⟩
  · rw [okF_kd, k]; exact ⟨rfl, rfl, rfl⟩
  · rw [okF_kd, k]; exact ⟨rfl, rfl, rfl⟩
  · rw [okF_kd, k]; exact ⟨rfl, rfl, rfl⟩
  · rw [okF_kd, k]; exact ⟨rfl, rfl, rfl⟩
  · rw [fR_kd, k]; rfl
  · rw [fR_kd, k]; rfl
  · rw [fR_kd, k]; rfl
theorem TxS_okP (hT : TxS h) {k : Nat} (hk : k < 7) : okP h 65 9 k := by
  rw [okP_kd, hT.1]
  exact ⟨by decide, rfl, rfl, hk⟩
theorem TxS_t (hT : TxS h) {k : Nat} (hk : k = 1 ∨ k = 2 ∨ k = 5 ∨ k = 6) : tgK (kd h 65) k = some 0 := by
  rw [hT.1]
  rcases hk with g | g | g | g <;> subst g <;> rfl
theorem TxS.sk (hT : TxS h) (x : Sk h h1) : TxS h1 := ⟨by rw [x.1]; exact hT.1, by rw [x.1]; exact hT.2.1, by rw [x.1]; exact hT.2.2.1, by rw [x.1]; exact hT.2.2.2⟩
theorem txF.rf : txF h h := ⟨Fr.rf, rfl, fun _ _ => rfl⟩
theorem txF.tr (x : txF h h1) (y : txF h1 h2) : txF h h2 := ⟨x.1.tr y.1, y.2.1.trans x.2.1, fun j hj => (y.2.2 j hj).trans (x.2.2 j hj)⟩
theorem TxB.fr (hB : TxB h B n) (x : txF h h1) : TxB h1 B n := ⟨by rw [x.2.2 1 (by decide)]; exact hB.1, hB.2.1, fun i hi => by rw [same_xA x.2.1]; exact hB.2.2 i hi⟩
theorem putT (hT : TxS h) {k : Nat} (hk : k = 1 ∨ k = 2 ∨ k = 5 ∨ k = 6) (x : Int32) : okP h 65 9 k ∧ Fr 65 1 h (sF h 65 k (.int x)) ∧ ∀ j, fI (sF h 65 k (.int x)) 65 j = if j = k then x else fI h 65 j := by
  refine ⟨TxS_okP hT (by omega), Fr.sF (TxS_t hT hk), fun j => ?_⟩
  rw [fI_sF (TxS_t hT hk)]
  by_cases c : j = k
  · rw [if_pos ⟨rfl, c.symm⟩, if_pos c]
  · rw [if_neg (fun g => c g.2.symm), if_neg c]
/-- a byte of the text -/
theorem byt_ok (hT : TxS h) (hB : TxB h B n) {q : Nat} (hq : q < n) : okB h 66 (ii q) ∧ eI h 66 (ii q) = ii (B q) := by
  have n4 := hB.2.1
  have e : (ii (q : Nat)).toNatClampNeg = q := by rw [ix_ii (by omega) (by omega)]; rfl
  refine ⟨?_, ?_⟩
  · rw [okB_kd, hT.2.1]
    refine ⟨rfl, Or.inl rfl, ?_, ?_⟩
    · rw [ii_lt0 (by omega) (by omega)]; omega
    · rw [e]; show q < 400; omega
  · rw [eI_xA, e]; exact (hB.2.2 q hq).1
/-- isSmall -/
theorem c105 {K : Int32 → mHeap → Prop} (hT : TxS h) (hB : TxB h B n) {q : Nat} (hq : q < n) : GoCi (d + 1) 105 [.ref 65, .int (ii q)] h K ↔ K (if isSm (B q) = true then ii 1 else ii 0) h := by
  have b := byt_ok hT hB hq
  have r := (hB.2.2 q hq).2
  rw [e105, b105_0]
  simp only [TxS_ok hT, b, true_and, rI_s, true_or, or_true]
  have e : isSm (B q) = true ↔ 97 ≤ B q ∧ B q ≤ 122 := by unfold isSm; exact decide_eq_true_iff
  by_cases c : B q < 97
  · rw [if_pos (by rw [ii_lt (by omega) (by omega) (by omega) (by omega)]; exact c), if_neg (by rw [e]; omega)]
  · rw [if_neg (by rw [ii_lt (by omega) (by omega) (by omega) (by omega)]; exact c)]
    by_cases c2 : 122 < B q
    · rw [if_pos (by rw [ii_lt (by omega) (by omega) (by omega) (by omega)]; exact c2), if_neg (by rw [e]; omega)]
    · rw [if_neg (by rw [ii_lt (by omega) (by omega) (by omega) (by omega)]; exact c2), if_pos (by rw [e]; omega)]
/-- isDigit -/
theorem c106 {K : Int32 → mHeap → Prop} (hT : TxS h) (hB : TxB h B n) {q : Nat} (hq : q < n) : GoCi (d + 1) 106 [.ref 65, .int (ii q)] h K ↔ K (if isDg (B q) = true then ii 1 else ii 0) h := by
  have b := byt_ok hT hB hq
  have r := (hB.2.2 q hq).2
  rw [e106, b106_0]
  simp only [TxS_ok hT, b, true_and, rI_s, true_or, or_true]
  have e : isDg (B q) = true ↔ 48 ≤ B q ∧ B q ≤ 57 := by unfold isDg; exact decide_eq_true_iff
  by_cases c : B q < 48
  · rw [if_pos (by rw [ii_lt (by omega) (by omega) (by omega) (by omega)]; exact c), if_neg (by rw [e]; omega)]
  · rw [if_neg (by rw [ii_lt (by omega) (by omega) (by omega) (by omega)]; exact c)]
    by_cases c2 : 57 < B q
    · rw [if_pos (by rw [ii_lt (by omega) (by omega) (by omega) (by omega)]; exact c2), if_neg (by rw [e]; omega)]
    · rw [if_neg (by rw [ii_lt (by omega) (by omega) (by omega) (by omega)]; exact c2), if_pos (by rw [e]; omega)]
theorem tk_app {x : Nat × Nat} {i : Nat} (hi : i < T.length + 1) : tk (T ++ [x]) i = if i = T.length then x else tk T i := by
  unfold tk
  rw [getD_app]
  by_cases c : i = T.length
  · rw [if_pos c, if_pos c]
  · rw [if_neg c, if_neg c, if_pos (by omega)]
/-- put -/
theorem c100 {K : mHeap → Prop} (hT : TxS h) (hP : LxP h T) (hl : T.length < 401) {c w : Nat} (hK : ∀ h1, txF h h1 → LxP h1 (T ++ [(c, w)]) → K h1) : GoCv (d + 1) 100 [.ref 65, .int (ii ((c : Int) - 1)), .int (ii w)] h K := by
  have r1 := row_ok hT.2.2.1 hl (by omega)
  rw [e100, b100_0]
  simp only [TxS_ok hT, hP.1, true_and]
  refine ⟨⟨by decide, r1.1⟩, ?_⟩
  have w1 := fun b => sI_row (b := b) (v := ii ((c : Int) - 1)) hT.2.2.1 hl (by omega)
  have F1 : Fr 67 1 h (sI h 67 (ii T.length) (ii ((c : Int) - 1))) := Fr.sI
  generalize sI h 67 (ii T.length) (ii ((c : Int) - 1)) = H1 at *
  have T1 := hT.sk F1.1
  have s1 : ∀ j, fI H1 65 j = fI h 65 j := fun j => same_fI (F1.2.2.2 65 (by omega)) j
  have r2 := row_ok T1.2.2.2 hl (by omega)
  simp only [TxS_ok T1, s1, hP.1, true_and]
  refine ⟨⟨by decide, r2.1⟩, ?_⟩
  have w2 := fun b => sI_row (b := b) (v := ii (w : Int)) T1.2.2.2 hl (by omega)
  have F2 : Fr 68 1 H1 (sI H1 68 (ii T.length) (ii (w : Int))) := Fr.sI
  generalize sI H1 68 (ii T.length) (ii (w : Int)) = H2 at *
  have T2 := T1.sk F2.1
  have s2 : ∀ j, fI H2 65 j = fI h 65 j := fun j => by rw [same_fI (F2.2.2.2 65 (by omega)) j, s1]
  have p := putT T2 (k := 5) (Or.inr (Or.inr (Or.inl rfl))) (ii T.length + ii 1)
  simp only [TxS_ok T2, s2, hP.1, true_and]
  refine ⟨p.1, ?_⟩
  have F3 := p.2.1
  have v3 := p.2.2
  generalize sF H2 65 5 (.int (ii T.length + ii 1)) = H3 at *
  rw [rV_s]
  refine hK H3 ⟨(F1.wide (by decide) (by decide)).tr ((F2.wide (by decide) (by decide)).tr (F3.wide (by decide) (by decide))), ?_, fun j hj => ?_⟩ ⟨?_, fun i hi => ?_⟩
  · rw [F3.2.2.2 66 (by omega), F2.2.2.2 66 (by omega), F1.2.2.2 66 (by omega)]
  · rw [v3, if_neg hj, s2]
  · rw [v3, if_pos rfl, ii_add, List.length_append]; rfl
  · have hi' : i < T.length + 1 := by rw [List.length_append] at hi; exact hi
    rw [tk_app hi', same_xA (F3.2.2.2 67 (by omega)), same_xA (F3.2.2.2 68 (by omega)), w2 67, if_neg (by decide), w2 68, if_pos rfl, w1 67, if_pos rfl, same_xA (F1.2.2.2 68 (by omega))]
    unfold upf
    by_cases e : i = T.length
    · rw [if_pos e, if_pos e, if_pos e]; exact ⟨rfl, rfl⟩
    · rw [if_neg e, if_neg e, if_neg e]; exact hP.2 i (by omega)
theorem wAt_w {q len : Nat} {rest : List Int32} : ∀ (u : List Int32) (k m : Nat) (s : Bool), (∀ c ∈ u, ¬ c.toInt = 32) → wAt B q len (u ++ 32 :: rest) k m s = if s = true ∧ m + u.length = len ∧ (∀ j, j < u.length → B (q + (m + j)) = (u.getD j 0).toInt) then k else wAt B q len rest (k + 1) 0 true
  | [], k, m, s, _ => by
    show (if ¬ (32 : Int32).toInt = 32 then _ else if s = true ∧ m = len then k else wAt B q len rest (k + 1) 0 true) = _
    rw [if_neg (by decide)]
    by_cases c : s = true ∧ m = len
    · rw [if_pos c, if_pos ⟨c.1, c.2, fun j hj => absurd hj (Nat.not_lt_zero j)⟩]
    · rw [if_neg c, if_neg (fun g => c ⟨g.1, g.2.1⟩)]
  | c :: u, k, m, s, hu => by
    show (if ¬ c.toInt = 32 then wAt B q len (u ++ 32 :: rest) k (m + 1) (s && (decide (m < len) && decide (B (q + m) = c.toInt))) else _) = _
    rw [if_pos (hu c (by simp)), wAt_w u k (m + 1) _ (fun x hx => hu x (by simp [hx]))]
    have e : ((s && (decide (m < len) && decide (B (q + m) = c.toInt))) = true ∧ m + 1 + u.length = len ∧ (∀ j, j < u.length → B (q + (m + 1 + j)) = (u.getD j 0).toInt)) ↔ (s = true ∧ m + (c :: u).length = len ∧ (∀ j, j < (c :: u).length → B (q + (m + j)) = ((c :: u).getD j 0).toInt)) := by
      simp only [Bool.and_eq_true, decide_eq_true_eq, List.length_cons]
      constructor
      · rintro ⟨⟨a, b, b2⟩, b3, b4⟩
        refine ⟨a, by omega, fun j hj => ?_⟩
        cases j with
        | zero => exact b2
        | succ j =>
          have := b4 j (by omega)
          rw [show m + (j + 1) = m + 1 + j by omega]
          exact this
      · rintro ⟨a, b, b4⟩
        refine ⟨⟨a, by omega, ?_⟩, by omega, fun j hj => ?_⟩
        · have := b4 0 (by omega)
          exact this
        · have := b4 (j + 1) (by omega)
          rw [show m + (j + 1) = m + 1 + j by omega] at this
          exact this
    by_cases g : (s = true ∧ m + (c :: u).length = len ∧ (∀ j, j < (c :: u).length → B (q + (m + j)) = ((c :: u).getD j 0).toInt))
    · rw [if_pos g, if_pos (e.mpr g)]
    · rw [if_neg g, if_neg (fun q => g (e.mp q))]
theorem wAt_ws {q len : Nat} : ∀ (ws : List (List Int32)) (k : Nat), (∀ w ∈ ws, ∀ c ∈ w, ¬ c.toInt = 32) → wAt B q len (ws.flatMap (fun w => w ++ [32])) k 0 true = wdT B q len ws k
  | [], _, _ => rfl
  | w :: ws, k, hw => by
    rw [List.flatMap_cons, List.append_assoc, List.singleton_append, wAt_w w k 0 true (hw w (by simp)), wAt_ws ws (k + 1) (fun x hx => hw x (by simp [hx]))]
    show _ = (if mtc B q len w = true then k else wdT B q len ws (k + 1))
    unfold mtc
    by_cases c : w.length = len
    · by_cases g : ∀ j, j < w.length → B (q + (0 + j)) = (w.getD j 0).toInt
      · rw [if_pos ⟨rfl, by omega, g⟩, if_pos]
        rw [Bool.and_eq_true]
        refine ⟨decide_eq_true c, ?_⟩
        rw [List.all_eq_true]
        intro j hj
        have := g j (by have := List.mem_range.mp hj; omega)
        rw [Nat.zero_add] at this
        exact decide_eq_true this
      · rw [if_neg (fun q => g q.2.2), if_neg]
        intro q
        rw [Bool.and_eq_true, List.all_eq_true] at q
        refine g (fun j hj => ?_)
        have := of_decide_eq_true (q.2 j (List.mem_range.mpr (by omega)))
        rw [Nat.zero_add]
        exact this
    · rw [if_neg (fun g => c (by have := g.2.1; omega)), if_neg]
      intro q
      rw [Bool.and_eq_true] at q
      exact c (of_decide_eq_true q.1)
theorem wrds_ok : mB 0 = wrds.flatMap (fun w => w ++ [32]) ∧ ∀ w ∈ wrds, ∀ c ∈ w, ¬ c.toInt = 32 := by decide +kernel
theorem wAt_all {q len : Nat} : wAt B q len (mB 0) 300 0 true = wdT B q len wrds 300 := by
  rw [wrds_ok.1]
  exact wAt_ws wrds 300 wrds_ok.2
/-- wordAt -/
theorem c103 {K : Int32 → mHeap → Prop} (hSt : St h) (hT : TxS h) (hB : TxB h B n) {q len : Nat} (hq : q + len ≤ n) (hK : K (ii (wdT B q len wrds 300)) h) : GoCi (d + 6) 103 [.ref 65, .int (ii q), .int (ii len)] h K := by
  have n4 := hB.2.1
  have ml := (mB_ok 0 (by decide)).1
  rw [← wAt_all] at hK
  rw [e103, b103_0]
  refine Go_loop (fun i L' h' => h' = h ∧ ∃ k m s l7, m ≤ i ∧ k ≤ 300 + i ∧ wAt B q len ((mB 0).drop i) k m s = wAt B q len (mB 0) 300 0 true ∧ L' = [some (.ref 65), some (.int (ii q)), some (.int (ii len)), some (.int (ii (k : Nat))), some (.int (ii (m : Nat))), some (.int (if s = true then ii 1 else ii 0)), some (.int (ii i)), l7]) (mB 0).length ?_ ?_ 0 _ _ (Nat.zero_le _) ⟨rfl, 300, 0, true, none, Nat.le_refl _, Nat.le_refl _, rfl, rfl⟩
  · rintro i L' h' hi ⟨rfl, k, m, s, l7, hm, hk, ev, rfl⟩ next
    have ei : ii (i : Int) + ii 1 = ii ((i + 1 : Nat) : Int) := by rw [ii_add]; rfl
    have em : ii (m : Int) + ii 1 = ii ((m + 1 : Nat) : Int) := by rw [ii_add]; rfl
    have ekk : ii (k : Int) + ii 1 = ii ((k + 1 : Nat) : Int) := by rw [ii_add]; rfl
    have mi := (mB_ok 0 (by decide)).2 i hi
    have ed : (mB 0).drop i = (mB 0).getD i 0 :: (mB 0).drop (i + 1) := by
      rw [List.drop_eq_getElem_cons hi, List.getD_eq_getElem?_getD, List.getElem?_eq_getElem hi, Option.getD_some]
    rw [ed] at ev
    have ev' : (if ¬ ((mB 0).getD i 0).toInt = 32 then wAt B q len ((mB 0).drop (i + 1)) k (m + 1) (s && (decide (m < len) && decide (B (q + m) = ((mB 0).getD i 0).toInt))) else if s = true ∧ m = len then k else wAt B q len ((mB 0).drop (i + 1)) (k + 1) 0 true) = wAt B q len (mB 0) 300 0 true := ev
    have s2 : oC h' 2 = 16 := oC_kd (St_str hSt (i := 0) (by decide)).1
    rw [b103_13]
    refine ⟨s2, ?_⟩
    refine (c319 (i := 0) hSt (by decide)).mpr ?_
    rw [if_neg (by rw [ii_le (by omega) (by omega) (by omega) (by omega)]; omega)]
    refine ⟨s2, ?_⟩
    refine (c320 (i := 0) hSt (by decide) hi).mpr ?_
    rw [← mi.2.2.1]
    generalize ((mB 0).getD i 0).toInt = c at *
    by_cases c32 : c = 32
    · rw [if_pos (by rw [c32])]
      rw [if_neg (by rw [c32]; exact fun g => g rfl)] at ev'
      cases s with
      | false =>
        rw [if_neg (fun g => absurd g.1 (by decide))] at ev'
        rw [if_pos (by decide), b103_90, b103_99, ekk, ei]
        exact next _ _ ⟨rfl, k + 1, 0, true, _, Nat.zero_le _, by omega, ev', rfl⟩
      | true =>
        rw [if_neg (by decide)]
        by_cases cm : m = len
        · rw [if_neg (by rw [cm]; exact fun g => g rfl), rI_s]
          rw [if_pos ⟨rfl, cm⟩] at ev'
          rw [ev']
          exact hK
        · rw [if_neg (fun g => cm g.2)] at ev'
          rw [if_pos (by rw [ii_eq (by omega) (by omega) (by omega) (by omega)]; omega), b103_90, b103_99, ekk, ei]
          exact next _ _ ⟨rfl, k + 1, 0, true, _, Nat.zero_le _, by omega, ev', rfl⟩
    · rw [if_neg (by rw [show ii 32 = ii (32 : Int) from rfl, ii_eq (by omega) (by omega) (by omega) (by omega)]; exact c32)]
      rw [if_pos c32] at ev'
      have no : (s && (decide (m < len) && decide (B (q + m) = c))) = false → ∀ l5 l7, Go (d + 5) 103 68 [some (.ref 65), some (.int (ii q)), some (.int (ii len)), some (.int (ii (k : Nat))), some (.int (ii (m : Nat))), l5, some (.int (ii i)), l7] [] h' (rI K) := fun g l5 l7 => by
        rw [g] at ev'
        rw [b103_68, b103_69, b103_99, em, ei]
        exact next _ _ ⟨rfl, k, m + 1, false, l7, by omega, by omega, ev', rfl⟩
      cases s with
      | false =>
        rw [if_pos (by decide)]
        exact no rfl _ _
      | true =>
        rw [if_neg (by decide)]
        by_cases cm : m < len
        · rw [if_neg (by rw [ii_le (by omega) (by omega) (by omega) (by omega)]; omega)]
          have eq : ii (q : Int) + ii (m : Int) = ii ((q + m : Nat) : Int) := by rw [ii_add]; rfl
          have by1 := byt_ok hT hB (show q + m < n by omega)
          have br := (hB.2.2 (q + m) (by omega)).2
          simp only [TxS_ok hT, true_and, eq, by1]
          by_cases cb : B (q + m) = c
          · rw [if_neg (by rw [cb]; exact fun g => g rfl), b103_69, b103_99, em, ei]
            refine next _ _ ⟨rfl, k, m + 1, true, _, by omega, by omega, ?_, rfl⟩
            rw [decide_eq_true cm, decide_eq_true cb] at ev'
            exact ev'
          · rw [if_pos (by rw [ii_eq (by omega) (by omega) (by omega) (by omega)]; exact cb)]
            exact no (by rw [decide_eq_false cb, Bool.and_false, Bool.and_false]) _ _
        · rw [if_pos (by rw [ii_le (by omega) (by omega) (by omega) (by omega)]; omega)]
          exact no (by rw [decide_eq_false cm, Bool.false_and, Bool.and_false]) _ _
  · rintro L' h' ⟨rfl, k, m, s, l7, hm, hk, ev, rfl⟩
    have s2 : oC h' 2 = 16 := oC_kd (St_str hSt (i := 0) (by decide)).1
    rw [List.drop_length] at ev
    have ev' : 258 = wAt B q len (mB 0) 300 0 true := ev
    rw [b103_13]
    refine ⟨s2, ?_⟩
    refine (c319 (i := 0) hSt (by decide)).mpr ?_
    rw [if_pos (by rw [ii_le (by omega) (by omega) (by omega) (by omega)]; omega), rI_s]
    rw [← ev'] at hK
    exact hK
end Lx1
