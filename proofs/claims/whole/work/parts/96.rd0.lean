/-! RULES read: sums -/
def isVa (t : Nat) : Prop := 1001 ≤ t ∨ (305 ≤ t ∧ t ≤ 314)
def isCm (t : Nat) : Prop := t = 61 ∨ t = 62 ∨ t = 63 ∨ t = 257 ∨ t = 258
noncomputable def itF (T : List (Nat × Nat)) (p : Nat → Prop) (i n : Nat) : Nat := @ite _ (p (tk T i).1) (Classical.propDecidable _) (if (tk T i).1 = 101001 then flt T i 1 else if n = 60 then flt T i 3 else 0) (flt T i 0)
/-- from behind a value on: the rest of a sum -/
noncomputable def suL (T : List (Nat × Nat)) : Nat → Nat → Nat → List Nat → List Nat → Nat ⊕ (Nat × Nat × List Nat)
  | 0, i, n, p, W => .inr (i, n, W ++ p)
  | g + 1, i, n, p, W =>
    if (tk T i).1 = 43 ∨ (tk T i).1 = 48 ∨ (tk T i).1 = 38 then
      (if itF T isVa (i + 1) n = 0 then suL T g (i + 2) (n + 1) p (W ++ [(tk T (i + 1)).1 - 1, (tk T i).1 - 1]) else .inl (itF T isVa (i + 1) n))
    else if (tk T i).1 = 44 ∨ (tk T i).1 = 46 then
      (if itF T isVa (i + 1) n = 0 then suL T g (i + 2) (n + 1) [(tk T i).1 - 1] (W ++ p ++ [(tk T (i + 1)).1 - 1]) else .inl (itF T isVa (i + 1) n))
    else .inr (i, n, W ++ p)
noncomputable def suS (T : List (Nat × Nat)) (i n : Nat) : Nat ⊕ (Nat × Nat × List Nat) := if itF T isVa i n = 0 then suL T T.length (i + 1) (n + 1) [] [(tk T i).1 - 1] else .inl (itF T isVa i n)
def RrS (h : mHeap) : Prop := kd h 119 = (4, 6, [68, 123, 0, 0, 0, 124, 125]) ∧ kd h 120 = (1, 1, [400]) ∧ kd h 121 = (1, 1, [13]) ∧ kd h 122 = (1, 1, [12])
def RrC (h : mHeap) (T : List (Nat × Nat)) (i n f : Nat) : Prop := St h ∧ TxS h ∧ TxT h T i f ∧ RrS h ∧ fI h 119 3 = ii n ∧ n ≤ 60 ∧ f < 100000
def RrO (h : mHeap) (O : List Nat) : Prop := fI h 119 2 = ii O.length ∧ O.length ≤ 400 ∧ ∀ k, k < O.length → xA h 120 k = ii (O.getD k 0)
def rrF (h h1 : mHeap) : Prop := FrT (fun a => a = 65 ∨ a = 119 ∨ a = 120) h h1 ∧ (∀ j, ¬ j = 2 → ¬ j = 6 → fI h1 65 j = fI h 65 j) ∧ fI h1 119 4 = fI h 119 4
section Rr0
variable {d i n f : Nat} {h h1 h2 : mHeap} {T : List (Nat × Nat)} {O : List Nat}
theorem rrF.rf : rrF h h := ⟨FrT.rf, fun _ _ _ => rfl, rfl⟩
theorem rrF.tr (x : rrF h h1) (y : rrF h1 h2) : rrF h h2 := ⟨x.1.tr y.1, fun j a b => (y.2.1 j a b).trans (x.2.1 j a b), y.2.2.trans x.2.2⟩
theorem rrF.txG (G : txG h h1) : rrF h h1 := ⟨G.1.toT (fun a g1 g2 => Or.inl (by omega)), G.2, same_fI (G.1.2.2.2 119 (by omega)) 4⟩
theorem RrS_ok (hR : RrS h) : okF h 119 6 0 2 ∧ okF h 119 6 1 2 ∧ okF h 119 6 2 0 ∧ okF h 119 6 3 0 ∧ okF h 119 6 4 0 ∧ okF h 119 6 5 2 ∧ okF h 119 6 6 2 ∧ fR h 119 0 = 65 ∧ fR h 119 1 = 120 ∧ fR h 119 5 = 121 ∧ fR h 119 6 = 122 ∧ oC h 119 = 6 := by
  have k := hR.1
  refine ⟨?_, ?_, ?_, ?_, ?_, ?_, ?_, ?_, ?_, ?_, ?_, oC_kd k⟩
  · rw [okF_kd, k]; exact ⟨rfl, rfl, rfl⟩
  · rw [okF_kd, k]; exact ⟨rfl, rfl, rfl⟩
  · rw [okF_kd, k]; exact ⟨rfl, rfl, rfl⟩
  · rw [okF_kd, k]; exact ⟨rfl, rfl, rfl⟩
  · rw [okF_kd, k]; exact ⟨rfl, rfl, rfl⟩
  · rw [okF_kd, k]; exact ⟨rfl, rfl, rfl⟩
  · rw [okF_kd, k]; exact ⟨rfl, rfl, rfl⟩
  · rw [fR_kd, k]; rfl
  · rw [fR_kd, k]; rfl
  · rw [fR_kd, k]; rfl
  · rw [fR_kd, k]; rfl
theorem RrS.sk (hR : RrS h) (x : Sk h h1) : RrS h1 := ⟨by rw [x.1]; exact hR.1, by rw [x.1]; exact hR.2.1, by rw [x.1]; exact hR.2.2.1, by rw [x.1]; exact hR.2.2.2⟩
theorem putR (hR : RrS h) {k : Nat} (hk : k = 2 ∨ k = 3 ∨ k = 4) (x : Int32) : okP h 119 6 k ∧ Fr 119 1 h (sF h 119 k (.int x)) ∧ ∀ j, fI (sF h 119 k (.int x)) 119 j = if j = k then x else fI h 119 j := by
  have t : tgK (kd h 119) k = some 0 := by
    rw [hR.1]
    rcases hk with g | g | g <;> subst g <;> rfl
  refine ⟨?_, Fr.sF t, fun j => ?_⟩
  · rw [okP_kd, hR.1]; exact ⟨by decide, rfl, rfl, by show k < 7; omega⟩
  · rw [fI_sF t]
    by_cases c : j = k
    · rw [if_pos ⟨rfl, c.symm⟩, if_pos c]
    · rw [if_neg (fun g => c g.2.symm), if_neg c]
theorem RrC.tx (hC : RrC h T i n f) (G : txG h h1) {i' f' : Nat} (X : TxT h1 T i' f') (hf : f' < 100000) : RrC h1 T i' n f' := ⟨G.1.St (by decide) hC.1, hC.2.1.sk G.1.1, X, hC.2.2.2.1.sk G.1.1, by rw [same_fI (G.1.2.2.2 119 (by omega))]; exact hC.2.2.2.2.1, hC.2.2.2.2.2.1, hf⟩
theorem RrO.tx (hO : RrO h O) (G : txG h h1) : RrO h1 O := ⟨by rw [same_fI (G.1.2.2.2 119 (by omega))]; exact hO.1, hO.2.1, fun k hk => by rw [same_xA (G.1.2.2.2 120 (by omega))]; exact hO.2.2 k hk⟩
theorem TxT.fr {lo m : Nat} (hX : TxT h T i f) (x : Fr lo m h h1) (e : 119 ≤ lo) : TxT h1 T i f := ⟨⟨by rw [same_fI (x.2.2.2 65 (by omega))]; exact hX.1.1, fun j hj => by rw [same_xA (x.2.2.2 67 (by omega)), same_xA (x.2.2.2 68 (by omega))]; exact hX.1.2 j hj⟩, by rw [same_fI (x.2.2.2 65 (by omega))]; exact hX.2.1, hX.2.2.1, hX.2.2.2.1, by rw [same_fI (x.2.2.2 65 (by omega))]; exact hX.2.2.2.2.1, hX.2.2.2.2.2⟩
theorem isCm_t {t : Nat} (ht : t ≤ 101001) {K : Int32 → mHeap → Prop} : GoCi (d + 1) 75 [.int (ii ((t : Int) - 1))] h K ↔ K (@ite _ (isCm t) (Classical.propDecidable _) (ii 1) (ii 0)) h := by
  have eq : ∀ z : Int, 0 ≤ z → z < 1000 → (ii ((t : Int) - 1) = ii z ↔ (t : Int) = z + 1) := fun z z0 z1 => by
    rw [ii_eq (by omega) (by omega) (by omega) (by omega)]
    omega
  rw [e75, b75_0]
  simp only [rI_s, true_or, or_true, true_and]
  by_cases c1 : t = 61
  · rw [if_pos ((eq 60 (by decide) (by decide)).mpr (by omega)), if_pos (show isCm t from Or.inl c1)]
  rw [if_neg (fun g => by have := (eq 60 (by decide) (by decide)).mp g; omega)]
  by_cases c2 : t = 257
  · rw [if_pos ((eq 256 (by decide) (by decide)).mpr (by omega)), if_pos (show isCm t from Or.inr (Or.inr (Or.inr (Or.inl c2))))]
  rw [if_neg (fun g => by have := (eq 256 (by decide) (by decide)).mp g; omega)]
  by_cases c3 : t = 62
  · rw [if_pos ((eq 61 (by decide) (by decide)).mpr (by omega)), if_pos (show isCm t from Or.inr (Or.inl c3))]
  rw [if_neg (fun g => by have := (eq 61 (by decide) (by decide)).mp g; omega)]
  by_cases c4 : t = 258
  · rw [if_pos ((eq 257 (by decide) (by decide)).mpr (by omega)), if_pos (show isCm t from Or.inr (Or.inr (Or.inr (Or.inr c4))))]
  rw [if_neg (fun g => by have := (eq 257 (by decide) (by decide)).mp g; omega)]
  by_cases c5 : t = 63
  · rw [if_neg (fun g => g ((eq 62 (by decide) (by decide)).mpr (by omega))), if_pos (show isCm t from Or.inr (Or.inr (Or.inl c5)))]
  · rw [if_pos (fun g => by have := (eq 62 (by decide) (by decide)).mp g; omega), if_neg]
    rintro (g | g | g | g | g) <;> omega
theorem isVa_t {t : Nat} (ht : t ≤ 101001) {K : Int32 → mHeap → Prop} : GoCi (d + 1) 76 [.int (ii ((t : Int) - 1))] h K ↔ K (@ite _ (isVa t) (Classical.propDecidable _) (ii 1) (ii 0)) h := by
  rw [e76, b76_0]
  simp only [rI_s, true_or, or_true, true_and]
  by_cases c1 : 1001 ≤ t
  · rw [if_pos (by rw [show ii 1000 = ii (1000 : Int) from rfl, ii_le (by omega) (by omega) (by omega) (by omega)]; omega), if_pos (show isVa t from Or.inl c1)]
  rw [if_neg (by rw [show ii 1000 = ii (1000 : Int) from rfl, ii_le (by omega) (by omega) (by omega) (by omega)]; omega)]
  by_cases c2 : t < 305
  · rw [if_pos (by rw [show ii 304 = ii (304 : Int) from rfl, ii_lt (by omega) (by omega) (by omega) (by omega)]; omega), if_neg]
    rintro (g | g) <;> omega
  rw [if_neg (by rw [show ii 304 = ii (304 : Int) from rfl, ii_lt (by omega) (by omega) (by omega) (by omega)]; omega)]
  by_cases c3 : 314 < t
  · rw [if_pos (by rw [show ii 313 = ii (313 : Int) from rfl, ii_lt (by omega) (by omega) (by omega) (by omega)]; omega), if_neg]
    rintro (g | g) <;> omega
  · rw [if_neg (by rw [show ii 313 = ii (313 : Int) from rfl, ii_lt (by omega) (by omega) (by omega) (by omega)]; omega), if_pos (show isVa t from Or.inr ⟨by omega, by omega⟩)]
/-- emit: nothing -/
theorem c78n {K : mHeap → Prop} (hK : K h) : GoCv (d + 1) 78 [.ref 119, .int (ii (-1))] h K := by
  rw [e78, b78_0, if_pos rfl, rV_s]
  exact hK
/-- emit -/
theorem c78 {K : mHeap → Prop} (hC : RrC h T i n f) (hO : RrO h O) {t : Nat} (ht : t < 200000) (hK : ∀ h1, rrF h h1 → RrC h1 T i n f → (O.length < 400 → RrO h1 (O ++ [t])) → (¬ O.length < 400 → RrO h1 O) → K h1) : GoCv (d + 1) 78 [.ref 119, .int (ii (t : Int))] h K := by
  have R := hC.2.2.2.1
  have okl : okL h 120 ∧ nL h 120 = 400 := by
    rw [okL_kd, nL_kd, R.2.1]
    exact ⟨Or.inl ⟨rfl, (by decide)⟩, rfl⟩
  rw [e78, b78_0]
  rw [if_neg (by rw [show ii (-1) = ii (-1 : Int) from rfl, ii_eq (by omega) (by omega) (by omega) (by omega)]; omega)]
  have ol := hO.2.1
  simp only [RrS_ok R, okl, hO.1, true_and]
  by_cases c : O.length < 400
  rotate_left
  · rw [if_pos (by rw [ii_le (by omega) (by omega) (by omega) (by omega)]; omega), rV_s]
    exact hK h rrF.rf hC (fun g => absurd g c) (fun _ => hO)
  rw [if_neg (by rw [ii_le (by omega) (by omega) (by omega) (by omega)]; omega)]
  have r1 := row_ok R.2.1 c (by omega)
  refine ⟨⟨by decide, r1.1⟩, ?_⟩
  have w1 := fun b => sI_row (b := b) (v := ii (t : Int)) R.2.1 c (by omega)
  have F1 : Fr 120 1 h (sI h 120 (ii O.length) (ii (t : Int))) := Fr.sI
  generalize sI h 120 (ii O.length) (ii (t : Int)) = H1 at *
  have R1 := R.sk F1.1
  have s1 : ∀ j, fI H1 119 j = fI h 119 j := fun j => same_fI (F1.2.2.2 119 (by omega)) j
  have p := putR R1 (k := 2) (Or.inl rfl) (ii O.length + ii 1)
  simp only [RrS_ok R1, s1, hO.1, true_and]
  refine ⟨p.1, ?_⟩
  rw [rV_s]
  have F2 := p.2.1
  have v2 := p.2.2
  generalize sF H1 119 2 (.int (ii O.length + ii 1)) = H2 at *
  have F : Fr 119 2 h H2 := (F1.wide (by decide) (by decide)).tr (F2.wide (by decide) (by decide))
  refine hK H2 ⟨F.toT (fun a g1 g2 => by omega), fun j _ _ => same_fI (F.2.2.2 65 (by omega)) j, by rw [v2, if_neg (by decide), s1]⟩ ⟨F.St (by decide) hC.1, hC.2.1.sk F.1, hC.2.2.1.fr F (by decide), R1.sk F2.1, by rw [v2, if_neg (by decide), s1]; exact hC.2.2.2.2.1, hC.2.2.2.2.2⟩ (fun _ => ⟨?_, by rw [List.length_append]; show _ + 1 ≤ 400; omega, fun k hk => ?_⟩) (fun g => absurd c g)
  · rw [v2, if_pos rfl, ii_add, List.length_append]; rfl
  · rw [List.length_append] at hk
    have hk' : k < O.length + 1 := hk
    rw [same_xA (F2.2.2.2 120 (by omega)), w1 120, if_pos rfl, getD_app]
    unfold upf
    by_cases g : k = O.length
    · rw [if_pos g, if_pos g]
    · rw [if_neg g, if_neg g, if_pos (by omega)]; exact hO.2.2 k (by omega)
/-- takeItem -/
theorem c77 {K : Int32 → mHeap → Prop} {p : Nat → Prop} (hC : RrC h T i n f) (hO : RrO h O) (hE : (tk T (T.length - 1)).1 = 0) (hf : f = 0 ∨ i = T.length - 1) (hp : ¬ p 0) (hY : f = 0 → itF T p i n = 0 → ∀ h1, rrF h h1 → i + 1 < T.length → RrC h1 T (i + 1) (n + 1) 0 → RrO h1 O → K (ii (((tk T i).1 : Int) - 1)) h1) (hN : ∀ f', ¬ f' = 0 → (f = 0 → itF T p i n = f') → (¬ f = 0 → f' = f) → ∀ h1, rrF h h1 → RrC h1 T (T.length - 1) n f' → RrO h1 O → K (ii (((tk T i).1 : Int) - 1)) h1) : GoCi (d + 2) 77 [.ref 119, .int (@ite _ (p (tk T i).1) (Classical.propDecidable _) (ii 1) (ii 0))] h K := by
  have R := hC.2.2.2.1
  have hX := hC.2.2.1
  have tb := (hX.2.2.2.2.2 i hX.2.2.1).1
  have o9 := (TxS_ok hC.2.1).2.2.2.2.2.2.2.2.2.2
  rw [e77, b77_0]
  simp only [RrS_ok R, true_and]
  refine ⟨o9, ?_⟩
  rw [c107 hC.2.1 hX]
  have bad : ∀ kind, kind < 8 → (f = 0 → itF T p i n = flt T i kind) → GoCv (d + 1) 112 [.ref 65, .int (ii (kind : Nat))] h (fun h4 => rI K (some (.int (ii (((tk T i).1 : Int) - 1)))) h4) := fun kind hk hf1 => by
    refine c112 (d := d) hC.2.1 hX hC.2.2.2.2.2.2 (fun h1 G X1 => ?_)
    rw [rI_s]
    have fl := flt_lt hX hk
    by_cases c : f = 0
    · have e : blm T i f kind = flt T i kind := by unfold blm; rw [if_pos c]; rfl
      rw [e] at X1
      exact hN _ fl.2 hf1 (fun g => absurd c g) h1 (rrF.txG G) (hC.tx G X1 fl.1) (hO.tx G)
    · have e : blm T i f kind = f := by unfold blm; rw [if_neg c]
      rw [e] at X1
      exact hN f c (fun g => absurd g c) (fun _ => rfl) h1 (rrF.txG G) (hC.tx G X1 hC.2.2.2.2.2.2) (hO.tx G)
  by_cases cp : p (tk T i).1
  rotate_left
  · rw [if_neg cp, if_neg (by simp)]
    simp only [RrS_ok R, true_and]
    refine ⟨o9, ?_⟩
    exact bad 0 (by decide) (fun _ => by unfold itF; rw [if_neg cp])
  have f0 : f = 0 := by
    rcases hf with g | g
    · exact g
    · rw [g, hE] at cp
      exact absurd cp hp
  subst f0
  have it : itF T p i n = if (tk T i).1 = 101001 then flt T i 1 else if n = 60 then flt T i 3 else 0 := by unfold itF; rw [if_pos cp]
  rw [if_pos cp, if_pos (by decide)]
  by_cases c1 : (tk T i).1 = 101001
  · rw [if_neg (by rw [c1]; exact fun g => g rfl)]
    simp only [RrS_ok R, true_and]
    refine ⟨o9, ?_⟩
    exact bad 1 (by decide) (fun _ => by rw [it, if_pos c1])
  rw [if_pos (by rw [show ii 101000 = ii (101000 : Int) from rfl, ii_eq (by omega) (by omega) (by omega) (by omega)]; omega)]
  have n60 := hC.2.2.2.2.2.1
  simp only [RrS_ok R, hC.2.2.2.2.1, true_and]
  by_cases c2 : n = 60
  · rw [if_neg (by rw [show ii 60 = ii (60 : Int) from rfl, ii_lt (by omega) (by omega) (by omega) (by omega)]; omega)]
    refine ⟨o9, ?_⟩
    exact bad 3 (by decide) (fun _ => by rw [it, if_neg c1, if_pos c2])
  rw [if_pos (by rw [show ii 60 = ii (60 : Int) from rfl, ii_lt (by omega) (by omega) (by omega) (by omega)]; omega)]
  have pt := putR R (k := 3) (Or.inr (Or.inl rfl)) (ii n + ii 1)
  refine ⟨pt.1, ?_⟩
  have F2 := pt.2.1
  have v2 := pt.2.2
  generalize sF h 119 3 (.int (ii n + ii 1)) = H2 at *
  have R2 := R.sk F2.1
  have T2 := hC.2.1.sk F2.1
  have X2 := hX.fr F2 (by decide)
  simp only [RrS_ok R2, true_and]
  refine ⟨(TxS_ok T2).2.2.2.2.2.2.2.2.2.2, ?_⟩
  refine c108 (d := d) T2 X2 (fun h3 G X3 => ?_)
  rw [rI_s]
  have nxi := nx_in hE hX.2.2.1 (fun g => hp (by rw [← g]; exact cp))
  rw [nxi.2] at X3
  have fr2 : rrF h H2 := ⟨F2.toT (fun a g1 g2 => by omega), fun j _ _ => same_fI (F2.2.2.2 65 (by omega)) j, by rw [v2, if_neg (by decide)]⟩
  refine hY rfl (by rw [it, if_neg c1, if_neg c2]) h3 (fr2.tr (rrF.txG G)) nxi.1 ⟨G.1.St (by decide) (F2.St (by decide) hC.1), T2.sk G.1.1, X3, R2.sk G.1.1, ?_, by omega, by decide⟩ ?_
  · rw [same_fI (G.1.2.2.2 119 (by omega)), v2, if_pos rfl, ii_add]; rfl
  · exact ⟨by rw [same_fI (G.1.2.2.2 119 (by omega)), v2, if_neg (by decide)]; exact hO.1, hO.2.1, fun k hk => by rw [same_xA (G.1.2.2.2 120 (by omega)), same_xA (F2.2.2.2 120 (by omega))]; exact hO.2.2 k hk⟩
end Rr0
