/-! THE TAPE: bytes are put behind it -/
def byI (x : Int32) (s : Nat) : Int := ((shr x (ii s)).toInt8.toInt32).toInt
def apB (B : Bt) (n : Nat) (x : Int32) : Bt := upf (upf (upf (upf B n (byI x 24)) (n + 1) (byI x 16)) (n + 2) (byI x 8)) (n + 3) (byI x 0)
section Ap2
variable {d n : Nat} {h h1 h2 : mHeap} {B : Bt}
theorem byI_r (x : Int32) (s : Nat) : -128 ≤ byI x s ∧ byI x s ≤ 127 ∧ ii (byI x s) = (shr x (ii s)).toInt8.toInt32 := by
  unfold byI
  refine ⟨?_, ?_, Int32.ofInt_toInt _⟩
  · rw [Int8.toInt_toInt32]; exact Int8.le_toInt _
  · rw [Int8.toInt_toInt32]
    have := Int8.toInt_lt (shr x (ii s)).toInt8
    omega
theorem aT_b (hT : TxS h) : aT h 66 = .byte := by
  have k := hT.2.1
  have e1 : (kd h 66).1 = 1 := by rw [k]
  have e := (kd1 e1).2
  rw [k] at e
  exact tyN_byte.mp (congrArg (fun q => q.2.1) e).symm
/-- hasRoomFor -/
theorem c97 {K : Int32 → mHeap → Prop} (hT : TxS h) (hB : TxB h B n) : GoCi (d + 1) 97 [.ref 65, .int (ii 20)] h K ↔ K (if n ≤ 380 then ii 1 else ii 0) h := by
  have n4 := hB.2.1
  rw [e97, b97_0]
  simp only [TxS_ok hT, hB.1, true_and, rI_s, true_or, or_true, ii_sub]
  by_cases c : n ≤ 380
  · rw [if_pos c, if_neg (by rw [ii_lt (by omega) (by omega) (by omega) (by omega)]; omega)]
  · rw [if_neg c, if_pos (by rw [ii_lt (by omega) (by omega) (by omega) (by omega)]; omega)]
theorem app1 {K : mHeap → Prop} (hT : TxS h) (hB : TxB h B n) (hn : n < 400) {x : Int32} {s : Nat} (hs : s < 32) (hK : ∀ h1, Fr 65 2 h h1 → TxB h1 (upf B n (byI x s)) (n + 1) → (∀ j, ¬ j = 1 → fI h1 65 j = fI h 65 j) → Go d 98 3 [some (.ref 65), some (.int x), some (.int (ii ((s : Int) - 8)))] [] h1 (rV K)) : Go d 98 3 [some (.ref 65), some (.int x), some (.int (ii s))] [] h (rV K) := by
  have k := hT.2.1
  have e : (ii (n : Nat)).toNatClampNeg = n := by rw [ix_ii (by omega) (by omega)]; rfl
  have ob : okB h 66 (ii n) := by
    rw [okB_kd, k]
    refine ⟨rfl, Or.inl rfl, ?_, ?_⟩
    · rw [ii_lt0 (by omega) (by omega)]; omega
    · rw [e]; exact hn
  rw [b98_3]
  rw [if_neg (by rw [show ii 0 = ii (0 : Int) from rfl, ii_lt (by omega) (by omega) (by omega) (by omega)]; omega)]
  simp only [TxS_ok hT, hB.1, true_and, ob]
  rw [if_neg (by rw [show ii 400 = ii (400 : Int) from rfl, ii_le (by omega) (by omega) (by omega) (by omega)]; omega)]
  refine ⟨by decide, ?_⟩
  have r := byI_r x s
  have F1 : Fr 66 1 h (sB h 66 (ii n) ((shr x (ii s)).toInt8.toInt32)) := Fr.sB
  have x1 : xA (sB h 66 (ii n) ((shr x (ii s)).toInt8.toInt32)) 66 = upf (xA h 66) n (ii (byI x s)) := by
    have := xA_sI (h := h) (a := 66) (b := 66) (j := ii (n : Nat)) (w := vp_nar (aT h 66) ((shr x (ii s)).toInt8.toInt32)) (by rw [k]) (by rw [k, e]; exact hn)
    rw [if_pos rfl, e, aT_b hT] at this
    have nr : vp_nar .byte ((shr x (ii s)).toInt8.toInt32) = (shr x (ii s)).toInt8.toInt32 := by
      show ((shr x (ii s)).toInt8.toInt32).toInt8.toInt32 = _
      rw [Int8.toInt8_toInt32]
    rw [nr, ← r.2.2] at this
    rw [← r.2.2]
    unfold sB
    rw [aT_b hT]
    rw [show vp_nar .byte (ii (byI x s)) = ii (byI x s) by rw [r.2.2]; exact nr]
    exact this
  generalize sB h 66 (ii n) ((shr x (ii s)).toInt8.toInt32) = H1 at *
  have T1 := hT.sk F1.1
  have s1 : ∀ j, fI H1 65 j = fI h 65 j := fun j => same_fI (F1.2.2.2 65 (by omega)) j
  have p := putT T1 (k := 1) (Or.inl rfl) (ii n + ii 1)
  simp only [TxS_ok T1, s1, hB.1, true_and]
  refine ⟨p.1, ?_⟩
  rw [ii_add, show (s : Int) + -8 = (s : Int) - 8 by omega]
  have F : Fr 65 2 h (sF H1 65 1 (.int (ii n + ii 1))) := (F1.wide (by decide) (by decide)).tr (p.2.1.wide (by decide) (by decide))
  refine hK _ F ⟨?_, by omega, fun i hi => ?_⟩ (fun j hj => ?_)
  · rw [p.2.2, if_pos rfl, ii_add]; rfl
  · rw [same_xA (p.2.1.2.2.2 66 (by omega)), x1]
    unfold upf
    by_cases c : i = n
    · rw [if_pos c, if_pos c]; exact ⟨rfl, r.1, r.2.1⟩
    · rw [if_neg c, if_neg c]; exact hB.2.2 i (by omega)
  · rw [p.2.2, if_neg hj, s1]
/-- append -/
theorem c98 {K : mHeap → Prop} (hT : TxS h) (hB : TxB h B n) (hn : n + 4 ≤ 400) {x : Int32} (hK : ∀ h1, Fr 65 2 h h1 → TxB h1 (apB B n x) (n + 4) → (∀ j, ¬ j = 1 → fI h1 65 j = fI h 65 j) → K h1) : GoCv (d + 1) 98 [.ref 65, .int x] h K := by
  rw [e98, b98_0]
  refine app1 (s := 24) hT hB (by omega) (by decide) (fun h1 F1 B1 o1 => ?_)
  refine app1 (s := 16) (hT.sk F1.1) B1 (by omega) (by decide) (fun h2 F2 B2 o2 => ?_)
  refine app1 (s := 8) ((hT.sk F1.1).sk F2.1) B2 (by omega) (by decide) (fun h3 F3 B3 o3 => ?_)
  refine app1 (s := 0) (((hT.sk F1.1).sk F2.1).sk F3.1) B3 (by omega) (by decide) (fun h4 F4 B4 o4 => ?_)
  rw [b98_3, if_pos (by decide), rV_s]
  exact hK h4 (F1.tr (F2.tr (F3.tr F4))) B4 (fun j hj => by rw [o4 j hj, o3 j hj, o2 j hj, o1 j hj])
end Ap2
