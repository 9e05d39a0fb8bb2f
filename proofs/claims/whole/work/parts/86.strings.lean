/-! THE CONSTANT TEXTS -/
def mB (i : Nat) : List Int32 := mByts.getD i []
theorem mB_ok : ∀ i, i < 28 → (mB i).length ≤ 106 ∧ ∀ j, j < (mB i).length → (((mB i).getD j 0 &&& ii 255).toUInt32 % 65536).toInt32 = (mB i).getD j 0 ∧ mNar .char ((mB i).getD j 0) = true ∧ ii ((mB i).getD j 0).toInt = (mB i).getD j 0 ∧ 32 ≤ ((mB i).getD j 0).toInt ∧ ((mB i).getD j 0).toInt ≤ 122 := by decide +kernel
section Str
variable {d : Nat} {h h1 : mHeap}
theorem St_at (hS : St h) {i : Nat} (hi : i < 28) : h[2 + i]? = some (mO 16 [.ref (30 + i), .int 0]) ∧ h[30 + i]? = some (mI .byte (mB i)) := by
  obtain ⟨X, hX⟩ := hS
  refine ⟨?_, ?_⟩
  · rw [hX (2 + i) (by omega)]
    unfold mS0
    rw [show 2 + i = i + 1 + 1 by omega, List.getElem?_cons_succ, List.getElem?_cons_succ, List.getElem?_append_left (by rw [List.length_map, List.length_range]; exact hi), List.getElem?_map, List.getElem?_range hi]
    rfl
  · rw [hX (30 + i) (by omega)]
    unfold mS0
    rw [show 30 + i = (28 + i) + 1 + 1 by omega, List.getElem?_cons_succ, List.getElem?_cons_succ, List.getElem?_append_right (by rw [List.length_map, List.length_range]; omega), List.length_map, List.length_range, show 28 + i - 28 = i by omega, List.getElem?_append_left (by rw [List.length_map, List.length_range]; exact hi), List.getElem?_map, List.getElem?_range hi]
    rfl
theorem St_str (hS : St h) {i : Nat} (hi : i < 28) : kd h (2 + i) = (4, 16, [i + 33, 0]) ∧ kd h (30 + i) = (1, 2, [(mB i).length]) ∧ fI h (2 + i) 1 = ii 0 ∧ ∀ j, xA h (30 + i) j = (mB i).getD j 0 := by
  have e := St_at hS hi
  refine ⟨?_, kd_some e.2, ?_, fun j => ?_⟩
  · rw [kd_some e.1]
    show (4, 16, [30 + i + 3, 0]) = _
    rw [show 30 + i + 3 = i + 33 by omega]
  · unfold fI oF
    rw [e.1]
    rfl
  · unfold xA aI
    rw [e.2]
/-- length -/
theorem c319 {K : Int32 → mHeap → Prop} (hS : St h) {i : Nat} (hi : i < 28) : GoCi (d + 2) 319 [.ref (2 + i)] h K ↔ K (ii (mB i).length) h := by
  obtain ⟨k1, k2, f1, _⟩ := St_str hS hi
  have fr : fR h (2 + i) 0 = 30 + i := by
    rw [fR_kd, k1]
    show i + 33 - 3 = 30 + i
    omega
  have nl : nL h (30 + i) = (mB i).length := by rw [nL_kd, k2]; rfl
  have sh : shr (ii ((mB i).length : Nat)) (ii 0) = ii (mB i).length := by
    have := (mB_ok i hi).1
    have := shr_ii (a := ((mB i).length : Int)) (by omega) (by omega) (k := 0) (by decide)
    rw [Int.pow_zero, Int.ediv_one] at this
    exact this
  have o1 : okF h (2 + i) 16 1 0 := by rw [okF_kd, k1]; exact ⟨rfl, rfl, rfl⟩
  have o0 : okF h (2 + i) 16 0 2 := by rw [okF_kd, k1]; exact ⟨rfl, rfl, rfl⟩
  have ol : okL h (30 + i) := by rw [okL_kd, k2]; exact Or.inl ⟨rfl, (show 2 ≤ 3 by decide)⟩
  have nr : mNar .byte (ii 0) = true := by decide
  rw [e319, b319_0]
  simp only [o0, fr, ol, oC_kd k1, true_and]
  rw [e321, b321_0, if_neg (by decide)]
  simp only [o1, f1, nr, true_and, rI_s, nl, sh]
/-- charAt -/
theorem c320 {K : Int32 → mHeap → Prop} (hS : St h) {i j : Nat} (hi : i < 28) (hj : j < (mB i).length) : GoCi (d + 5) 320 [.ref (2 + i), .int (ii j)] h K ↔ K ((mB i).getD j 0) h := by
  obtain ⟨k1, k2, f1, x⟩ := St_str hS hi
  have ml := (mB_ok i hi).1
  have mj := (mB_ok i hi).2 j hj
  have fr : fR h (2 + i) 0 = 30 + i := by
    rw [fR_kd, k1]
    show i + 33 - 3 = 30 + i
    omega
  have nl : nL h (30 + i) = (mB i).length := by rw [nL_kd, k2]; rfl
  have o1 : okF h (2 + i) 16 1 0 := by rw [okF_kd, k1]; exact ⟨rfl, rfl, rfl⟩
  have o0 : okF h (2 + i) 16 0 2 := by rw [okF_kd, k1]; exact ⟨rfl, rfl, rfl⟩
  have ol : okL h (30 + i) := by rw [okL_kd, k2]; exact Or.inl ⟨rfl, (show 2 ≤ 3 by decide)⟩
  have e : (ii (j : Nat)).toNatClampNeg = j := by rw [ix_ii (by omega) (by omega)]; rfl
  have ob : okB h (30 + i) (ii j) := by
    rw [okB_kd, k2]
    refine ⟨rfl, Or.inl rfl, ?_, ?_⟩
    · rw [ii_lt0 (by omega) (by omega)]; omega
    · rw [e]; exact hj
  have ev : eI h (30 + i) (ii j) = (mB i).getD j 0 := by rw [eI_xA, e, x]
  rw [e320, b320_0]
  simp only [oC_kd k1, true_and]
  rw [e322, b322_0, if_neg (by decide)]
  simp only [o1, f1, true_and, rI_s]
  rw [if_neg (by simp)]
  have g : ∀ {p : Prop}, ((ii 1 = ii 0 ∨ True) ∧ p) ↔ p := fun {p} => and_iff_right (Or.inr trivial)
  rw [g, if_neg (by decide)]
  simp only [o0, fr, true_and]
  rw [e324, b324_0]
  simp only [ol, nl, true_and]
  rw [e323, b323_0, e327, b327_0]
  rw [if_neg (by rw [show ii 0 = ii ((0 : Nat) : Int) from rfl, ii_lt (by omega) (by omega) (by omega) (by omega)]; omega), if_pos (by rw [ii_lt (by omega) (by omega) (by omega) (by omega)]; omega)]
  simp only [rI_s, rV_s, ob, ev, mj.1, mj.2.1, true_and]
end Str
