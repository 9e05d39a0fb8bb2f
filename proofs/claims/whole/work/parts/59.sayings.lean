/-! SAYINGS: what follows from what, as the class finds it -/
def sy (S : List Wd) (i : Nat) : Wd := S.getD i (fun _ => false)
def SyS (h : mHeap) : Prop := kd h 69 = (4, 8, [73, 0, 74, 75, 0, 0, 0]) ∧ kd h 70 = (3, 10, [24]) ∧ (∀ i, i < 24 → xR h 70 i = some (73 + i)) ∧ (∀ i, i < 24 → WS h (73 + i)) ∧ WS h 71 ∧ kd h 72 = (1, 1, [24])
def SyC (h : mHeap) (S : List Wd) : Prop := fI h 69 1 = ii S.length ∧ S.length ≤ 24 ∧ ∀ i, i < S.length → wo h (73 + i) = sy S i
def SyR (h : mHeap) (S : List Wd) : Prop := SyS h ∧ SyC h S
/-- the worlds in which all sayings of a set are so (the first k of them looked at) -/
def mtK (n : Nat) (S : List Wd) (set k : Nat) : Wd := fun w => allW n w && (List.range k).all (fun i => !set.testBit i || sy S i w)
def mtW (n : Nat) (S : List Wd) (set : Nat) : Wd := mtK n S set S.length
def flw (n : Nat) (S : List Wd) (set s : Nat) : Prop := sub (mtW n S set) (sy S s)
section Sy
variable {d : Nat} {h h1 : mHeap} {S : List Wd}
theorem Sk.SyS (x : Sk h h1) (hS : SyS h) : SyS h1 := by
  obtain ⟨a1, a2, a3, a4, a5, a6⟩ := hS
  exact ⟨by rw [x.1]; exact a1, by rw [x.1]; exact a2, fun i hi => by rw [x.2]; exact a3 i hi, fun i hi => x.WS (a4 i hi), x.WS a5, by rw [x.1]; exact a6⟩
theorem SyR.fr {lo n : Nat} (hS : SyR h S) (x : Fr lo n h h1) (e : lo + n ≤ 69 ∨ (70 ≤ lo ∧ lo + n ≤ 73) ∨ 97 ≤ lo) : SyR h1 S := ⟨x.1.SyS hS.1, by rw [same_fI (x.2.2.2 69 (by omega))]; exact hS.2.1, hS.2.2.1, fun i hi => by have := hS.2.2.1; rw [same_wo (x.2.2.2 (73 + i) (by omega))]; exact hS.2.2.2 i hi⟩
theorem SyS_ok (hS : SyS h) : okF h 69 8 0 2 ∧ okF h 69 8 1 0 ∧ okF h 69 8 2 2 ∧ okF h 69 8 3 2 ∧ okF h 69 8 4 0 ∧ okF h 69 8 5 0 ∧ okF h 69 8 6 0 ∧ fR h 69 0 = 70 ∧ fR h 69 2 = 71 ∧ fR h 69 3 = 72 ∧ oC h 69 = 8 ∧ okP h 69 8 1 ∧ okP h 69 8 4 ∧ okP h 69 8 5 ∧ okP h 69 8 6 := by
  have hk := hS.1
  refine ⟨?_, ?_, ?_, ?_, ?_, ?_, ?_, ?_, ?_, ?_, oC_kd hk, ?_, ?_, ?_, ?_⟩
  · rw [okF_kd, hk]; exact ⟨rfl, rfl, rfl⟩
  · rw [okF_kd, hk]; exact ⟨rfl, rfl, rfl⟩
  · rw [okF_kd, hk]; exact ⟨rfl, rfl, rfl⟩
  · rw [okF_kd, hk]; exact ⟨rfl, rfl, rfl⟩
  · rw [okF_kd, hk]; exact ⟨rfl, rfl, rfl⟩
  · rw [okF_kd, hk]; exact ⟨rfl, rfl, rfl⟩
  · rw [okF_kd, hk]; exact ⟨rfl, rfl, rfl⟩
  · rw [fR_kd, hk]; rfl
  · rw [fR_kd, hk]; rfl
  · rw [fR_kd, hk]; rfl
  · rw [okP_kd, hk]; exact ⟨by decide, rfl, rfl, by decide⟩
  · rw [okP_kd, hk]; exact ⟨by decide, rfl, rfl, by decide⟩
  · rw [okP_kd, hk]; exact ⟨by decide, rfl, rfl, by decide⟩
  · rw [okP_kd, hk]; exact ⟨by decide, rfl, rfl, by decide⟩
theorem SyS_row (hS : SyS h) {i : Nat} (hi : i < 24) : okR h 70 (ii i) ∧ eR h 70 (ii i) = 73 + i := by
  have hx : (ii (i : Nat)).toNatClampNeg = i := ix_n (by omega)
  have he : eR h 70 (ii i) = 73 + i := by rw [eR_xR, hx, hS.2.2.1 i hi]; rfl
  refine ⟨?_, he⟩
  rw [okR_kd, hS.2.1, hx, hS.2.2.1 i hi]
  refine ⟨⟨rfl, rfl⟩, ?_, by show 64 ≤ 73 + i; omega⟩
  rw [ii_lt0 (by omega) (by omega)]; omega
theorem mtK_0 {n set : Nat} : mtK n S set 0 = allW n := by
  funext w
  unfold mtK
  simp
theorem mtK_1 {n set k : Nat} (e : set.testBit k = true) : mtK n S set (k + 1) = fun w => decide (w < 256) && (mtK n S set k w && sy S k w) := by
  funext w
  unfold mtK allW
  rw [List.range_succ, List.all_append]
  by_cases c : w < 256
  · simp [c, e, Bool.and_assoc]
  · simp [c]
theorem mtK_n {n set k : Nat} (e : set.testBit k = false) : mtK n S set (k + 1) = mtK n S set k := by
  funext w
  unfold mtK
  rw [List.range_succ, List.all_append]
  simp [e]
theorem mtK_stop {n set k m : Nat} (e : ∀ i, k ≤ i → set.testBit i = false) (hm : k ≤ m) : mtK n S set m = mtK n S set k := by
  induction hm with
  | refl => rfl
  | step hm ih => rw [mtK_n (e _ hm), ih]
/-- meetAll -/
theorem c86 {K : mHeap → Prop} (hSt : St h) (hS : SyR h S) {n set : Nat} (hn : n ≤ 8) (hset : set < 2147483648) (hK : ∀ h1, Fr 71 1 h h1 → wo h1 71 = mtW n S set → K h1) : GoCv (d + 3) 86 [.ref 69, .int (ii n), .int (ii set)] h K := by
  have hlen := hS.2.2.1
  rw [e86, b86_0]
  simp only [SyS_ok hS.1, W_ok hS.1.2.2.2.2.1, true_and]
  rw [c118 hSt hS.1.2.2.2.2.1 (by omega)]
  have F1 := Fr.pW (w := fun i => decide (i < 2 ^ n)) hS.1.2.2.2.2.1
  have w1 : wo (pW h 71 (fun i => decide (i < 2 ^ n))) 71 = mtK n S set 0 := by
    rw [mtK_0]
    funext i
    exact wo_pW hS.1.2.2.2.2.1 i
  refine Go_loop (fun k L' h' => L' = [some (.ref 69), some (.int (ii n)), some (.int (ii set)), some (.int (ii k))] ∧ Fr 71 1 h h' ∧ wo h' 71 = mtK n S set k) S.length ?_ ?_ 0 _ _ (Nat.zero_le _) ⟨rfl, F1, w1⟩
  · rintro k L' h' hk ⟨rfl, hf, hw⟩ next
    have hS' := hS.fr hf (by omega)
    have ek : ii (k : Int) + ii 1 = ii ((k + 1 : Nat) : Int) := by rw [ii_add]; rfl
    rw [b86_10]
    simp only [SyS_ok hS'.1, true_and, hS'.2.1]
    rw [if_neg (by rw [ii_le (by omega) (by omega) (by omega) (by omega)]; omega), bit_n hset (show k < 32 by omega), shr_ii (by omega) (by omega) (by omega)]
    have hd : ((set : Int) / 2 ^ k) = ((set / 2 ^ k : Nat) : Int) := by simp
    have hdl : set / 2 ^ k ≤ set := Nat.div_le_self _ _
    rw [hd]
    by_cases z : set / 2 ^ k = 0
    · rw [if_pos (by rw [z]; rfl), rV_s]
      have hz : ∀ i, k ≤ i → set.testBit i = false := fun i hi => by
        rw [Nat.testBit_eq_decide_div_mod_eq]
        have : set < 2 ^ k := by
          rcases Nat.lt_or_ge set (2 ^ k) with g | g
          · exact g
          · have := Nat.div_pos g (Nat.two_pow_pos k); omega
        have : set < 2 ^ i := Nat.lt_of_lt_of_le this (Nat.pow_le_pow_right (by decide) hi)
        rw [Nat.div_eq_of_lt this]; rfl
      exact hK h' hf (by rw [hw]; exact (mtK_stop hz (by omega)).symm)
    · have ez : ii 0 = ii ((0 : Nat) : Int) := rfl
      rw [if_neg (by
        generalize set / 2 ^ k = v at *
        rw [ez, ii_eq (by omega) (by omega) (by omega) (by omega)]; omega)]
      cases hb : set.testBit k with
      | false =>
        rw [if_pos (by decide), b86_45, ek]
        exact next _ _ ⟨rfl, hf, by rw [mtK_n hb]; exact hw⟩
      | true =>
        rw [if_neg (by decide)]
        have r := SyS_row hS'.1 (show k < 24 by omega)
        have w71 := hS'.1.2.2.2.2.1
        have wk := hS'.1.2.2.2.1 k (by omega)
        simp only [r, W_ok w71, true_and]
        rw [c121 w71 wk, b86_45, ek]
        have F2 := Fr.pW (w := fun i => wo h' 71 i && wo h' (73 + k) i) w71
        refine next _ _ ⟨rfl, hf.tr F2, ?_⟩
        rw [mtK_1 hb]
        funext i
        rw [wo_pW w71, hw, hS'.2.2.2 k hk]
  · rintro L' h' ⟨rfl, hf, hw⟩
    have hS' := hS.fr hf (by omega)
    rw [b86_10]
    simp only [SyS_ok hS'.1, true_and, hS'.2.1]
    rw [if_pos (by rw [ii_le (by omega) (by omega) (by omega) (by omega)]; omega), rV_s]
    exact hK h' hf hw
/-- followsFrom -/
theorem c87 {K : Int32 → mHeap → Prop} (hSt : St h) (hS : SyR h S) {n set s : Nat} (hn : n ≤ 8) (hset : set < 2147483648) (hs : s < S.length) (hK : ∀ h1, Fr 71 1 h h1 → K (bP (flw n S set s)) h1) : GoCi (d + 4) 87 [.ref 69, .int (ii n), .int (ii set), .int (ii s)] h K := by
  have hlen := hS.2.2.1
  rw [e87, b87_0]
  refine ⟨(SyS_ok hS.1).2.2.2.2.2.2.2.2.2.2.1, ?_⟩
  refine c86 hSt hS hn hset (fun h1 hf hw => ?_)
  have hS' := hS.fr hf (by omega)
  have r := SyS_row hS'.1 (show s < 24 by omega)
  have w71 := hS'.1.2.2.2.2.1
  have ws := hS'.1.2.2.2.1 s (by omega)
  simp only [SyS_ok hS'.1, r, W_ok w71, true_and]
  rw [c128 w71 ws, bP_01, true_and, rI_s, hw, hS'.2.2.2 s hs]
  exact hK h1 hf
/-- areOpposite -/
theorem c89 {K : Int32 → mHeap → Prop} (hSt : St h) (hS : SyR h S) {n s t : Nat} (hn : n ≤ 8) (hs : s < S.length) (ht : t < S.length) (hK : ∀ h1, Fr 71 1 h h1 → K (bP (dis (fun w => allW n w && sy S s w) (sy S t))) h1) : GoCi (d + 4) 89 [.ref 69, .int (ii n), .int (ii s), .int (ii t)] h K := by
  have hlen := hS.2.2.1
  rw [e89, b89_0]
  have w71 := hS.1.2.2.2.2.1
  simp only [SyS_ok hS.1, W_ok w71, true_and]
  rw [c118 hSt w71 (by omega)]
  have F1 := Fr.pW (w := fun i => decide (i < 2 ^ n)) w71
  have v1 : wo (pW h 71 (fun i => decide (i < 2 ^ n))) 71 = allW n := by
    funext i
    exact wo_pW w71 i
  generalize pW h 71 (fun i => decide (i < 2 ^ n)) = H1 at *
  have hS1 := hS.fr F1 (by omega)
  have r1 := SyS_row hS1.1 (show s < 24 by omega)
  have w71' := hS1.1.2.2.2.2.1
  have ws := hS1.1.2.2.2.1 s (by omega)
  simp only [SyS_ok hS1.1, r1, W_ok w71', true_and]
  rw [c121 w71' ws]
  have F2 := Fr.pW (w := fun i => wo H1 71 i && wo H1 (73 + s) i) w71'
  have v2 : wo (pW H1 71 (fun i => wo H1 71 i && wo H1 (73 + s) i)) 71 = fun w => allW n w && sy S s w := by
    funext i
    rw [wo_pW w71', v1, hS1.2.2.2 s hs]
    unfold allW
    by_cases c : i < 256 <;> simp [c]
  generalize pW H1 71 (fun i => wo H1 71 i && wo H1 (73 + s) i) = H2 at *
  have hS2 := hS1.fr F2 (by omega)
  have r2 := SyS_row hS2.1 (show t < 24 by omega)
  have w72 := hS2.1.2.2.2.2.1
  have wt := hS2.1.2.2.2.1 t (by omega)
  simp only [SyS_ok hS2.1, r2, W_ok w72, true_and]
  rw [c129 w72 wt, bP_01, true_and, rI_s, v2, hS2.2.2.2 t ht]
  exact hK H2 (F1.tr F2)
end Sy
