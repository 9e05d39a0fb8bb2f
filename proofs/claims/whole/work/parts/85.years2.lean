/-! YEARS, and the first day on which a saying is so -/
section Ye2
variable {d la : Nat} {h h1 h2 : mHeap} {T T' : Nat → Prop} {l : Ld} {m : Mo} {S : List Wd}
theorem drM_f (ok : LdOk l) {x a b : Nat} (hm : mo_f m < 256) : ∀ k, mo_f (itr (drM l S) (x, a, b, m) k).2.2.2 < 256 ∧ mo_d (itr (drM l S) (x, a, b, m) k).2.2.2 = mo_d m + k
  | 0 => ⟨hm, rfl⟩
  | k + 1 => by
    have ih := drM_f ok (x := x) (a := a) (b := b) hm k
    have hs : itr (drM l S) (x, a, b, m) (k + 1) = drM l S (itr (drM l S) (x, a, b, m) k) k := rfl
    rw [hs]
    generalize itr (drM l S) (x, a, b, m) k = y at *
    have fy : mo_f (drD l S y).2.2.2 = mo_f y.2.2.2 ∧ mo_d (drD l S y).2.2.2 = mo_d y.2.2.2 := by
      unfold drD
      split
      · exact ⟨rfl, rfl⟩
      · exact drI_f _
    have b2 := mid_f ok (m := (drD l S y).2.2.2) (by rw [fy.1]; exact ih.1)
    refine ⟨b2.1, ?_⟩
    show mo_d (mid l (drD l S y).2.2.2) = _
    rw [b2.2, fy.2, ih.2]
    omega
/-- drawYears -/
theorem c25 {K : Int32 → mHeap → Prop} (hSt : St h) (hD : DyQ h la l) (hM : MoR h 106 m) (hX : MoX h 138) (hS : SyR h S) (hm : mo_f m < 256) (hd : mo_d m ≤ 9999) {x ys n what : Nat} (hx : fI h 97 7 = ii x) (hx2 : x < 2147483648) (hys : ys ≤ 10) (hn : n ≤ 60) (hwh : what ≤ 2) (hK : ∀ h1, FrT yT h h1 → MoX h1 138 → K (ii (drA l S m x ys n what : Nat)) h1) : GoCi (d + 5) 25 [.ref 136, .int (ii ys), .int (ii n), .int (ii what)] h K := by
  have ok := hD.2.2.2.2.2
  have ctx : ∀ h', FrT yT h h' → DyQ h' la l ∧ SyR h' S ∧ MoR h' 106 m ∧ St h' := fun h' F => ⟨hD.fr hM.1 F yT_dy, hS.frT F (fun a t => Or.inr (by have := t.1; omega)), hM.frT F (fun a g1 g2 t => by have := t.1; omega), St_frT hSt F (fun a t => by have := t.1; omega)⟩
  rw [e25, b25_0]
  have p4 := putD hD (k := 4) (Or.inl rfl) (ii (x : Int))
  simp only [DyQ_ok hD, DyQ_pg hD, true_and, hx]
  refine ⟨p4.1, ?_⟩
  have F4 := p4.2.1
  have v4 := p4.2.2
  generalize sF h 136 4 (.int (ii (x : Int))) = H1 at *
  have T1 : FrT yT h H1 := F4.toT (fun a g1 g2 => ⟨g1, by omega⟩)
  have D1 := (ctx H1 T1).1
  have p5 := putD D1 (k := 5) (Or.inr (Or.inl rfl)) (ii 0)
  refine ⟨p5.1, ?_⟩
  have F5 := p5.2.1
  have v5 := p5.2.2
  generalize sF H1 136 5 (.int (ii 0)) = H2 at *
  have T2 : FrT yT h H2 := T1.tr (F5.toT (fun a g1 g2 => ⟨g1, by omega⟩))
  have D2 := (ctx H2 T2).1
  have p6 := putD D2 (k := 6) (Or.inr (Or.inr rfl)) (ii 0)
  refine ⟨p6.1, ?_⟩
  have F6 := p6.2.1
  have v6 := p6.2.2
  generalize sF H2 136 6 (.int (ii 0)) = H3 at *
  have T3 : FrT yT h H3 := T2.tr (F6.toT (fun a g1 g2 => ⟨g1, by omega⟩))
  have u4 : fI H3 136 4 = ii x := by rw [v6, if_neg (by decide), v5, if_neg (by decide), v4, if_pos rfl]
  have u5 : fI H3 136 5 = ii ((0 : Nat) : Int) := by rw [v6, if_neg (by decide), v5, if_pos rfl]; rfl
  have u6 : fI H3 136 6 = ii ((0 : Nat) : Int) := by rw [v6, if_pos rfl]; rfl
  have uX : MoX H3 138 := by
    obtain ⟨md, e⟩ := hX
    exact ⟨md, ((e.fr F4 (by omega)).fr F5 (by omega)).fr F6 (by omega)⟩
  refine Go_loop (fun i L' h' => FrT yT h h' ∧ MoX h' 138 ∧ fI h' 136 4 = ii (itr (drY l S m n) (x, 0, 0, 0) i).1 ∧ (itr (drY l S m n) (x, 0, 0, 0) i).1 < 2147483648 ∧ fI h' 136 5 = ii (itr (drY l S m n) (x, 0, 0, 0) i).2.1 ∧ fI h' 136 6 = ii (itr (drY l S m n) (x, 0, 0, 0) i).2.2.1 ∧ ∃ l6, L' = [some (.ref 136), some (.int (ii ys)), some (.int (ii n)), some (.int (ii what)), some (.int (ii (itr (drY l S m n) (x, 0, 0, 0) i).2.2.2)), some (.int (ii i)), l6]) ys ?_ ?_ 0 _ _ (Nat.zero_le _) ⟨T3, uX, u4, hx2, u5, u6, none, rfl⟩
  · rintro i L' h' hi ⟨F, X, z4, zl, z5, z6, l6, rfl⟩ next
    have ei : ii (i : Int) + ii 1 = ii ((i + 1 : Nat) : Int) := by rw [ii_add]; rfl
    have hs : itr (drY l S m n) (x, 0, 0, 0) (i + 1) = drY l S m n (itr (drY l S m n) (x, 0, 0, 0) i) i := rfl
    generalize itr (drY l S m n) (x, 0, 0, 0) i = z at *
    obtain ⟨D, S', M, St'⟩ := ctx h' F
    obtain ⟨md, Xm⟩ := X
    rw [b25_27]
    rw [if_neg (by rw [ii_le (by omega) (by omega) (by omega) (by omega)]; omega)]
    simp only [DyQ_ok D, DyQ_pg D, MoS_okF Xm.1, true_and]
    refine c44 (d := d + 1) Xm M (Or.inl (by decide)) (fun h1 F1 M1 => ?_)
    have FT1 : FrT yT h h1 := F.tr (F1.toT (fun a g1 g2 => ⟨by omega, by omega⟩))
    have Z0 : DyZ h1 (z.1, z.2.1, z.2.2.1, m) := ⟨by rw [same_fI (F1.2.2.2 136 (by omega))]; exact z4, zl, by rw [same_fI (F1.2.2.2 136 (by omega))]; exact z5, by rw [same_fI (F1.2.2.2 136 (by omega))]; exact z6, M1⟩
    refine Go_loop (fun k L' h' => FrT yT h h' ∧ DyZ h' (itr (drM l S) (z.1, z.2.1, z.2.2.1, m) k) ∧ L' = [some (.ref 136), some (.int (ii ys)), some (.int (ii n)), some (.int (ii what)), some (.int (ii z.2.2.2)), some (.int (ii i)), some (.int (ii k))]) n ?_ ?_ 0 _ _ (Nat.zero_le _) ⟨FT1, Z0, rfl⟩
    · rintro k L' h' hk ⟨F, Z, rfl⟩ next2
      have ek : ii (k : Int) + ii 1 = ii ((k + 1 : Nat) : Int) := by rw [ii_add]; rfl
      have fk := drM_f (S := S) ok (x := z.1) (a := z.2.1) (b := z.2.2.1) hm k
      have hs2 : itr (drM l S) (z.1, z.2.1, z.2.2.1, m) (k + 1) = drM l S (itr (drM l S) (z.1, z.2.1, z.2.2.1, m) k) k := rfl
      generalize itr (drM l S) (z.1, z.2.1, z.2.2.1, m) k = y at *
      obtain ⟨D, S', M, St'⟩ := ctx h' F
      rw [b25_50]
      rw [if_neg (by rw [ii_le (by omega) (by omega) (by omega) (by omega)]; omega)]
      refine ⟨(DyQ_ok D).2.2.2.2.2.2.2.2.2.2.2, ?_⟩
      refine c26 D M.1 S' Z fk.1 (fun h3 F3 Z3 => ?_)
      obtain ⟨D3, S3, M3, St3⟩ := ctx h3 (F.tr F3)
      have L3 := D3.2.2.2.2.1
      have fy : mo_f (drD l S y).2.2.2 = mo_f y.2.2.2 ∧ mo_d (drD l S y).2.2.2 = mo_d y.2.2.2 := by
        unfold drD
        split
        · exact ⟨rfl, rfl⟩
        · exact drI_f _
      simp only [DyQ_ok D3, DyQ_pg D3, MoS_okF Z3.2.2.2.2.1, true_and]
      refine c51 St3 Z3.2.2.2.2 L3 ok (by omega) (MoS_LaS Z3.2.2.2.2.1 L3.1) (fun h4 F4 M4 => ?_)
      rw [ek]
      refine next2 _ _ ⟨F.tr (F3.tr (F4.toT (fun a g1 g2 => ⟨by omega, by omega⟩))), ?_, rfl⟩
      rw [hs2]
      exact ⟨by rw [same_fI (F4.2.2.2 136 (by omega))]; exact Z3.1, Z3.2.1, by rw [same_fI (F4.2.2.2 136 (by omega))]; exact Z3.2.2.1, by rw [same_fI (F4.2.2.2 136 (by omega))]; exact Z3.2.2.2.1, M4⟩
    · rintro L' h' ⟨F, Z, rfl⟩
      obtain ⟨D, S', M, St'⟩ := ctx h' F
      have W := Z.2.2.2.2.1.2.2.2.2.2 0 (by decide)
      have mw := Z.2.2.2.2.2.2.2.2.2.2 0 (by decide)
      rw [b25_50]
      rw [if_pos (by rw [ii_le (by omega) (by omega) (by omega) (by omega)]; omega)]
      simp only [DyQ_ok D, MoS_okF Z.2.2.2.2.1, true_and]
      rw [c46 Z.2.2.2.2.1 (i := 0) (by decide) (by decide)]
      refine ⟨W_oC W, ?_⟩
      rw [c126 W, mw, ei, ii_add]
      refine next _ _ ⟨F, ⟨_, Z.2.2.2.2⟩, ?_, ?_, ?_, ?_, some (.int (ii n)), ?_⟩
      · rw [hs]; exact Z.1
      · rw [hs]; exact Z.2.1
      · rw [hs]; exact Z.2.2.1
      · rw [hs]; exact Z.2.2.2.1
      · rw [hs]; rfl
  · rintro L' h' ⟨F, X, z4, zl, z5, z6, l6, rfl⟩
    obtain ⟨D, S', M, St'⟩ := ctx h' F
    have K1 := hK h' F X
    unfold drA at K1
    generalize itr (drY l S m n) (x, 0, 0, 0) ys = z at *
    rw [b25_27]
    rw [if_pos (by rw [ii_le (by omega) (by omega) (by omega) (by omega)]; omega)]
    simp only [DyQ_ok D, true_and, rI_s, z5, z6]
    by_cases c0 : what = 0
    · rw [if_neg (by rw [c0]; exact fun g => g rfl)]
      rw [if_pos c0] at K1
      exact K1
    rw [if_pos (by rw [show ii 0 = ii ((0 : Nat) : Int) from rfl, ii_eq (by omega) (by omega) (by omega) (by omega)]; omega)]
    rw [if_neg c0] at K1
    by_cases c1 : what = 1
    · rw [if_neg (by rw [c1]; exact fun g => g rfl)]
      rw [if_pos c1] at K1
      exact K1
    rw [if_pos (by rw [show ii 1 = ii ((1 : Nat) : Int) from rfl, ii_eq (by omega) (by omega) (by omega) (by omega)]; omega)]
    rw [if_neg c1] at K1
    exact K1
end Ye2
/-- the facts that are so on a day -/
def fct (l : Ld) (m : Mo) (dd : Nat) : Nat := itr (fun f i => f ^^^ xAll (tOn l (mo_d m + 1 + i))) (mo_f m) (dd - mo_d m)
def whK (w : Wd) (F : Nat → Nat) : Nat → Nat → Int
  | 0, _ => -2
  | k + 1, i => if w (F i) = true then (i : Int) else whK w F k (i + 1)
def whA (l : Ld) (m : Mo) (w : Wd) (day : Nat) : Int := whK w (fct l m) 100 (max day (mo_d m))
/-- the facts that are the same in all these worlds -/
noncomputable def stlB (w : Wd) (f : Nat) : Bool := @decide (sub w (fun i => i.testBit f) ∨ dis w (fun i => i.testBit f)) (Classical.propDecidable _)
noncomputable def stl (w : Wd) (n : Nat) : Nat := btO (stlB w) n
section Wh
variable {d la a : Nat} {h h1 h2 : mHeap} {l : Ld} {m : Mo} {S : List Wd}
theorem fct_s {dd : Nat} (e : mo_d m ≤ dd) : fct l m (dd + 1) = fct l m dd ^^^ xAll (tOn l (dd + 1)) := by
  unfold fct
  rw [show dd + 1 - mo_d m = (dd - mo_d m) + 1 by omega, itr_s]
  show _ ^^^ xAll (tOn l (mo_d m + 1 + (dd - mo_d m))) = _
  rw [show mo_d m + 1 + (dd - mo_d m) = dd + 1 by omega]
theorem fct_0 : fct l m (mo_d m) = mo_f m := by
  unfold fct
  rw [Nat.sub_self]
  rfl
theorem tOn_late (ok : LdOk l) {dd : Nat} (e : 99 < dd) : xAll (tOn l dd) = 0 := by
  have : tOn l dd = [] := by
    unfold tOn
    rw [List.filter_eq_nil_iff.mpr, List.map_nil]
    intro t ht
    have := ok.2.2.2.2.2.2.2.2.2 t ht
    simp only [decide_eq_true_eq]
    omega
  rw [this]
  rfl
theorem tOn_lt (ok : LdOk l) (dd : Nat) : xAll (tOn l dd) < 256 := by
  refine xAll_lt _ 0 (by decide) (fun f hf => ?_)
  unfold tOn at hf
  rw [List.mem_map] at hf
  obtain ⟨t, ht, rfl⟩ := hf
  rw [List.mem_filter] at ht
  have := ok.2.2.2.2.2.2.2.2.2 t ht.1
  have := ok.1
  omega
theorem fct_lt (ok : LdOk l) (hm : mo_f m < 256) (dd : Nat) : fct l m dd < 256 := by
  unfold fct
  generalize dd - mo_d m = k
  induction k with
  | zero => exact hm
  | succ k ih => rw [itr_s]; exact Nat.xor_lt_two_pow (n := 8) ih (tOn_lt ok _)
theorem fct_late (ok : LdOk l) {dd : Nat} (e : mo_d m ≤ dd) (e2 : 99 ≤ dd) : ∀ k, fct l m (dd + k) = fct l m dd
  | 0 => rfl
  | k + 1 => by
    rw [show dd + (k + 1) = (dd + k) + 1 by omega, fct_s (by omega), tOn_late ok (by omega), Nat.xor_zero]
    exact fct_late ok e e2 k
/-- firstDay -/
theorem c28 {K : Int32 → mHeap → Prop} (hD : DyQ h la l) (hM : MoR h 106 m) (hW : WS h a) (hm : mo_f m < 256) (hd : mo_d m ≤ 9999) {day : Nat} (hday : day ≤ 9999) (hK : K (ii (whA l m (wo h a) day)) h) : GoCi (d + 2) 28 [.ref 136, .ref a, .int (ii day)] h K := by
  have ok := hD.2.2.2.2.2
  have L := hD.2.2.2.2.1
  rw [e28, b28_0]
  simp only [DyQ_ok hD, DyQ_pg hD, MoS_okF hM.1, hM.2.1, hM.2.2.1, true_and]
  have em : (if ii (day : Int) < ii (mo_d m : Int) then ii (mo_d m : Int) else ii (day : Int)) = ii ((max day (mo_d m) : Nat) : Int) := by
    by_cases c : day < mo_d m
    · rw [if_pos (by rw [ii_lt (by omega) (by omega) (by omega) (by omega)]; omega), show max day (mo_d m) = mo_d m by omega]
    · rw [if_neg (by rw [ii_lt (by omega) (by omega) (by omega) (by omega)]; omega), show max day (mo_d m) = day by omega]
  have e1 : ii (mo_d m : Int) + ii 1 = ii ((mo_d m + 1 : Nat) : Int) := by rw [ii_add]; rfl
  rw [em, e1]
  unfold whA at hK
  have hf : mo_d m ≤ max day (mo_d m) ∧ max day (mo_d m) ≤ 9999 := by omega
  generalize max day (mo_d m) = first at *
  -- the days that are looked at
  have second : ∀ k i (l2 l3 : Option Value) (fx : Nat), i + k = first + 100 → first ≤ i → (i = first → fx = fct l m first) → (first < i → fx = fct l m (i - 1)) → K (ii (whK (wo h a) (fct l m) k i)) h → Go (d + 1) 28 73 [some (.ref 136), some (.ref a), l2, l3, some (.int (ii first)), some (.int (ii fx)), some (.int (ii i))] [] h (rI K) := by
    intro k
    induction k with
    | zero =>
      intro i l2 l3 fx hi hi2 _ _ hk
      rw [b28_73]
      rw [if_pos (by rw [show ii 100 = ii ((100 : Nat) : Int) from rfl, ii_add, ii_le (by omega) (by omega) (by omega) (by omega)]; omega), rI_s]
      exact hk
    | succ k ih =>
      intro i l2 l3 fx hi hi2 g1 g2 hk
      have look : Go (d + 1) 28 107 [some (.ref 136), some (.ref a), l2, l3, some (.int (ii first)), some (.int (ii (fct l m i : Nat))), some (.int (ii i))] [] h (rI K) := by
        have ei : ii (i : Int) + ii 1 = ii ((i + 1 : Nat) : Int) := by rw [ii_add]; rfl
        rw [b28_107]
        refine ⟨W_oC hW, ?_⟩
        rw [c130 hW (fct_lt ok hm i)]
        unfold whK at hk
        by_cases c : wo h a (fct l m i) = true
        · rw [if_neg (fun g => bP_n.mpr c g), rI_s]
          rw [if_pos c] at hk
          exact hk
        · rw [if_pos (bP_0.mpr c), ei]
          rw [if_neg c] at hk
          exact ih (i + 1) l2 l3 _ (by omega) (by omega) (fun g => by omega) (fun _ => by rw [show i + 1 - 1 = i by omega]) hk
      rw [b28_73]
      rw [if_neg (by rw [show ii 100 = ii ((100 : Nat) : Int) from rfl, ii_add, ii_le (by omega) (by omega) (by omega) (by omega)]; omega)]
      by_cases c : i = first
      · rw [if_pos (by rw [ii_le (by omega) (by omega) (by omega) (by omega)]; omega)]
        rw [g1 c, ← c]
        rw [← c] at look
        exact look
      · rw [if_neg (by rw [ii_le (by omega) (by omega) (by omega) (by omega)]; omega)]
        simp only [DyQ_ok hD, DyQ_pg hD, LaS_ok L.1, true_and]
        rw [c42 L ok (by omega), xor_ii, g2 (by omega)]
        have : fct l m (i - 1) ^^^ xAll (tOn l i) = fct l m i := by
          have := fct_s (l := l) (m := m) (dd := i - 1) (by omega)
          rw [show i - 1 + 1 = i by omega] at this
          exact this.symm
        rw [this]
        exact look
  -- the days before
  have firstL : ∀ k i (l2 l3 : Option Value), i + k = (if first ≤ 99 then first else 99) + 1 → mo_d m + 1 ≤ i → Go (d + 1) 28 32 [some (.ref 136), some (.ref a), l2, l3, some (.int (ii first)), some (.int (ii (fct l m (i - 1) : Nat))), some (.int (ii i))] [] h (rI K) := by
    intro k
    induction k with
    | zero =>
      intro i l2 l3 hi hi2
      have go : fct l m (i - 1) = fct l m first → Go (d + 1) 28 69 [some (.ref 136), some (.ref a), l2, l3, some (.int (ii first)), some (.int (ii (fct l m (i - 1) : Nat))), some (.int (ii i))] [] h (rI K) := fun e => by
        rw [b28_69, e]
        exact second 100 first l2 l3 _ rfl (Nat.le_refl _) (fun _ => rfl) (fun g => by omega) hK
      rw [b28_32]
      by_cases c : first ≤ 99
      · rw [if_pos c] at hi
        rw [if_pos (by rw [ii_lt (by omega) (by omega) (by omega) (by omega)]; omega)]
        exact go (by rw [show i - 1 = first by omega])
      · rw [if_neg c] at hi
        have el : fct l m (i - 1) = fct l m first := by
          have := fct_late ok (m := m) (dd := i - 1) (by omega) (by omega) (first - (i - 1))
          rw [show i - 1 + (first - (i - 1)) = first by omega] at this
          exact this.symm
        by_cases c2 : first < i
        · rw [if_pos (by rw [ii_lt (by omega) (by omega) (by omega) (by omega)]; omega)]
          exact go el
        · rw [if_neg (by rw [ii_lt (by omega) (by omega) (by omega) (by omega)]; omega), if_pos (by rw [show ii 99 = ii ((99 : Nat) : Int) from rfl, ii_lt (by omega) (by omega) (by omega) (by omega)]; omega)]
          exact go el
    | succ k ih =>
      intro i l2 l3 hi hi2
      have ei : ii (i : Int) + ii 1 = ii ((i + 1 : Nat) : Int) := by rw [ii_add]; rfl
      have i99 : i ≤ first ∧ i ≤ 99 := by
        by_cases c : first ≤ 99
        · rw [if_pos c] at hi; omega
        · rw [if_neg c] at hi; omega
      rw [b28_32]
      rw [if_neg (by rw [ii_lt (by omega) (by omega) (by omega) (by omega)]; omega), if_neg (by rw [show ii 99 = ii ((99 : Nat) : Int) from rfl, ii_lt (by omega) (by omega) (by omega) (by omega)]; omega)]
      simp only [DyQ_ok hD, DyQ_pg hD, LaS_ok L.1, true_and]
      rw [c42 L ok (by omega), xor_ii, ei]
      have e : fct l m (i - 1) ^^^ xAll (tOn l i) = fct l m (i + 1 - 1) := by
        have := fct_s (l := l) (m := m) (dd := i - 1) (by omega)
        rw [show i - 1 + 1 = i by omega] at this
        rw [show i + 1 - 1 = i by omega]
        exact this.symm
      rw [e]
      exact ih (i + 1) l2 l3 (by omega) (by omega)
  have fst : fct l m (mo_d m + 1 - 1) = mo_f m := by rw [Nat.add_sub_cancel]; exact fct_0
  by_cases c : mo_d m + 1 ≤ (if first ≤ 99 then first else 99) + 1
  · have := firstL ((if first ≤ 99 then first else 99) + 1 - (mo_d m + 1)) (mo_d m + 1) (some (.int (ii day))) (some (.ref 106)) (by omega) (Nat.le_refl _)
    rw [fst] at this
    exact this
  · have c99 : 99 < mo_d m := by
      by_cases g : first ≤ 99
      · rw [if_pos g] at c; omega
      · rw [if_neg g] at c; omega
    have el : mo_f m = fct l m first := by
      have := fct_late ok (m := m) (dd := mo_d m) (Nat.le_refl _) (by omega) (first - mo_d m)
      rw [show mo_d m + (first - mo_d m) = first by omega, fct_0] at this
      exact this.symm
    have go : Go (d + 1) 28 69 [some (.ref 136), some (.ref a), some (.int (ii day)), some (.ref 106), some (.int (ii first)), some (.int (ii (mo_f m : Int))), some (.int (ii ((mo_d m + 1 : Nat) : Int)))] [] h (rI K) := by
      rw [b28_69, el]
      exact second 100 first _ _ _ rfl (Nat.le_refl _) (fun _ => rfl) (fun g => by omega) hK
    rw [b28_32]
    by_cases c2 : first < mo_d m + 1
    · rw [if_pos (by rw [ii_lt (by omega) (by omega) (by omega) (by omega)]; omega)]
      exact go
    · rw [if_neg (by rw [ii_lt (by omega) (by omega) (by omega) (by omega)]; omega), if_pos (by rw [show ii 99 = ii ((99 : Nat) : Int) from rfl, ii_lt (by omega) (by omega) (by omega) (by omega)]; omega)]
      exact go
/-- settledFacts -/
theorem c133 {K : Int32 → mHeap → Prop} (hSt : St h) (hW : WS h a) {n : Nat} (hn : n ≤ 8) (hK : ∀ h1, h1.length = h.length + 1 → mSlots h1 = mSlots h + 4 → (∀ b, b < h.length → h1[b]? = h[b]?) → K (ii (stl (wo h a) n : Nat)) h1) : GoCi (d + 3) 133 [.ref a, .int (ii n)] h K := by
  have h64 := St_len hSt
  have al : a < h.length := kd_lt (by rw [hW.2]; decide)
  rw [e133, b133_0]
  refine ⟨_, rfl, h64, ?_⟩
  have k0 : WS (nO h 10) h.length := ⟨h64, by rw [kd_nO, if_pos rfl]; rfl⟩
  have l0 : (nO h 10).length = h.length + 1 := len_nO
  have s0 : mSlots (nO h 10) = mSlots h + 4 := sl_nO
  have o0 : ∀ b, b < h.length → (nO h 10)[b]? = h[b]? := fun b hb => nO_old hb
  have St0 : St (nO h 10) := St_get hSt fun b hb => o0 b (by omega)
  rw [c115]
  refine ⟨h64, ?_⟩
  generalize nO h 10 = H0 at *
  refine Go_loop (fun k L' h' => Fr h.length 1 H0 h' ∧ L' = [some (.ref a), some (.int (ii n)), some (.ref h.length), some (.int (ii (btO (stlB (wo h a)) k : Nat))), some (.int (ii k))]) n ?_ ?_ 0 _ _ (Nat.zero_le _) ⟨Fr.rf, rfl⟩
  · rintro k L' h' hk ⟨F, rfl⟩ next
    have ek : ii (k : Int) + ii 1 = ii ((k + 1 : Nat) : Int) := by rw [ii_add]; rfl
    have Sth := F.St h64 St0
    have wB := F.1.WS k0
    have ea : h'[a]? = h[a]? := by rw [F.2.2.2 a (by omega)]; exact o0 a al
    have wA : WS h' a := ⟨hW.1, by rw [same_kd ea]; exact hW.2⟩
    have va : wo h' a = wo h a := same_wo ea
    rw [b133_13]
    rw [if_neg (by rw [ii_le (by omega) (by omega) (by omega) (by omega)]; omega)]
    refine ⟨W_oC wB, ?_⟩
    rw [c119 Sth wB (by omega)]
    have F2 := Fr.pW (w := fun i => i.testBit k) wB
    have x2 : ∀ i, wo (pW h' h.length (fun i => i.testBit k)) h.length i = (decide (i < 256) && i.testBit k) := fun i => wo_pW wB i
    generalize pW h' h.length (fun i => i.testBit k) = H2 at *
    have wA2 := F2.1.WS wA
    have wB2 := F2.1.WS wB
    have va2 : wo H2 a = wo h a := by rw [same_wo (F2.2.2.2 a (by omega))]; exact va
    have sb : sub (wo H2 a) (wo H2 h.length) ↔ sub (wo h a) (fun i => i.testBit k) := by
      unfold sub
      constructor
      · intro g i hi hw
        have := g i hi (by rw [va2]; exact hw)
        rw [x2, decide_eq_true hi, Bool.true_and] at this
        exact this
      · intro g i hi hw
        rw [x2, decide_eq_true hi, Bool.true_and]
        exact g i hi (by rw [← va2]; exact hw)
    have ds : dis (wo H2 a) (wo H2 h.length) ↔ dis (wo h a) (fun i => i.testBit k) := by
      unfold dis
      constructor
      · intro g i hi hw
        have := g i hi (by rw [va2]; exact hw)
        rw [x2, decide_eq_true hi, Bool.true_and] at this
        exact this
      · intro g i hi hw
        rw [x2, decide_eq_true hi, Bool.true_and]
        exact g i hi (by rw [← va2]; exact hw)
    have yes : stlB (wo h a) k = true → Go (d + 2) 133 41 [some (.ref a), some (.int (ii n)), some (.ref h.length), some (.int (ii (btO (stlB (wo h a)) k : Nat))), some (.int (ii k))] [] H2 (rI K) := fun g => by
      rw [b133_41, b133_48, ek]
      refine next _ _ ⟨F.tr F2, ?_⟩
      rw [btO_s, if_pos g, shl_ii 1 (show k < 32 by omega), Int.one_mul]
      rw [show ((2 : Int) ^ k) = ((2 ^ k : Nat) : Int) from (Int.natCast_pow 2 k).symm, or_ii]
    refine ⟨W_oC wA2, ?_⟩
    rw [c128 wA2 wB2]
    by_cases c1 : sub (wo h a) (fun i => i.testBit k)
    · rw [if_pos (bP_n.mpr (sb.mpr c1))]
      exact yes (by unfold stlB; exact @decide_eq_true _ (Classical.propDecidable _) (Or.inl c1))
    rw [if_neg (fun g => c1 (sb.mp (bP_n.mp g)))]
    refine ⟨W_oC wA2, ?_⟩
    rw [c129 wA2 wB2]
    by_cases c2 : dis (wo h a) (fun i => i.testBit k)
    · rw [if_neg (fun g => bP_0.mp g (ds.mpr c2))]
      exact yes (by unfold stlB; exact @decide_eq_true _ (Classical.propDecidable _) (Or.inr c2))
    · rw [if_pos (bP_0.mpr (fun g => c2 (ds.mp g))), b133_48, ek]
      refine next _ _ ⟨F.tr F2, ?_⟩
      rw [btO_s, if_neg (fun g => by
        unfold stlB at g
        rcases @of_decide_eq_true _ (Classical.propDecidable _) g with q | q
        · exact c1 q
        · exact c2 q)]
  · rintro L' h' ⟨F, rfl⟩
    rw [b133_13]
    rw [if_pos (by rw [ii_le (by omega) (by omega) (by omega) (by omega)]; omega), rI_s]
    exact hK h' (by rw [F.2.1]; exact l0) (by rw [F.2.2.1]; exact s0) (fun b hb => by rw [F.2.2.2 b (by omega)]; exact o0 b hb)
end Wh
