/-! SETS OF WORLDS: 256 bits in four longs -/
def w4 (x0 x1 x2 x3 : Int64) (i : Nat) : Bool := if i < 64 then x0.toBitVec.getLsbD i else if i < 128 then x1.toBitVec.getLsbD (i - 64) else if i < 192 then x2.toBitVec.getLsbD (i - 128) else x3.toBitVec.getLsbD (i - 192)
/-- a number out of bits -/
def nb (w : Nat → Bool) : Nat → Nat
  | 0 => 0
  | n + 1 => nb w n + (if w n = true then 2 ^ n else 0)
theorem nb_lt (w : Nat → Bool) : ∀ n, nb w n < 2 ^ n
  | 0 => Nat.one_pos
  | n + 1 => by
    have := nb_lt w n
    unfold nb
    rw [Nat.pow_succ]
    split <;> omega
theorem nb_bit (w : Nat → Bool) : ∀ n i, (nb w n).testBit i = (decide (i < n) && w i)
  | 0, i => by simp [nb]
  | n + 1, i => by
    have ih := nb_bit w n i
    have hl := nb_lt w n
    unfold nb
    split
    · rename_i hw
      have e := Nat.testBit_two_pow_mul_add 1 hl i
      rw [Nat.mul_one, Nat.add_comm] at e
      rw [e]
      by_cases q : i < n
      · rw [if_pos q, ih]
        simp [q, Nat.lt_succ_of_lt q]
      · rw [if_neg q]
        by_cases p : i = n
        · subst p; simp [hw]
        · have h1 : ¬ i < n + 1 := by omega
          obtain ⟨k, hk⟩ : ∃ k, i - n = k + 1 := ⟨i - n - 1, by omega⟩
          simp [h1, hk]
          simp [Nat.testBit_succ]
    · rename_i hw
      rw [Nat.add_zero, ih]
      by_cases q : i < n
      · simp [q, Nat.lt_succ_of_lt q]
      · by_cases p : i = n
        · subst p; simp at hw; simp [hw]
        · have h1 : ¬ i < n + 1 := by omega
          simp [q, h1]
def pk (w : Nat → Bool) (k : Nat) : Int64 := Int64.ofNat (nb (fun i => w (64 * k + i)) 64)
theorem pk_bit (w : Nat → Bool) (k i : Nat) : (pk w k).toBitVec.getLsbD i = (decide (i < 64) && w (64 * k + i)) := by
  show (BitVec.ofNat 64 (nb (fun i => w (64 * k + i)) 64)).getLsbD i = _
  rw [BitVec.getLsbD_ofNat, nb_bit]
  by_cases q : i < 64 <;> simp [q]
theorem j_ext {x y : Int64} (h : ∀ i, i < 64 → x.toBitVec.getLsbD i = y.toBitVec.getLsbD i) : x = y := Int64.toBitVec_inj.mp (BitVec.eq_of_getLsbD_eq (fun i hi => h i hi))
theorem w4_big {x0 x1 x2 x3 : Int64} {i : Nat} (h : 256 ≤ i) : w4 x0 x1 x2 x3 i = false := by
  unfold w4
  rw [if_neg (by omega), if_neg (by omega), if_neg (by omega)]
  exact BitVec.getLsbD_of_ge _ _ (by omega)
theorem w4_pk (w : Nat → Bool) (i : Nat) : w4 (pk w 0) (pk w 1) (pk w 2) (pk w 3) i = (decide (i < 256) && w i) := by
  unfold w4
  rw [pk_bit, pk_bit, pk_bit, pk_bit]
  by_cases h0 : i < 64
  · rw [if_pos h0]; simp [h0, show i < 256 by omega]
  · rw [if_neg h0]
    by_cases h1 : i < 128
    · rw [if_pos h1]; simp [show i - 64 < 64 by omega, show i < 256 by omega, show 64 + (i - 64) = i by omega]
    · rw [if_neg h1]
      by_cases h2 : i < 192
      · rw [if_pos h2]; simp [show i - 128 < 64 by omega, show i < 256 by omega, show 128 + (i - 128) = i by omega]
      · rw [if_neg h2]
        by_cases h3 : i < 256
        · simp [show i - 192 < 64 by omega, h3, show 192 + (i - 192) = i by omega]
        · simp [h3, show ¬ i - 192 < 64 by omega]
theorem pk_w4 {x0 x1 x2 x3 : Int64} : pk (w4 x0 x1 x2 x3) 0 = x0 ∧ pk (w4 x0 x1 x2 x3) 1 = x1 ∧ pk (w4 x0 x1 x2 x3) 2 = x2 ∧ pk (w4 x0 x1 x2 x3) 3 = x3 := by
  refine ⟨j_ext fun i hi => ?_, j_ext fun i hi => ?_, j_ext fun i hi => ?_, j_ext fun i hi => ?_⟩ <;> rw [pk_bit, decide_eq_true hi, Bool.true_and]
  · show w4 x0 x1 x2 x3 (0 + i) = _
    unfold w4
    rw [if_pos (by omega), Nat.zero_add]
  · show w4 x0 x1 x2 x3 (64 + i) = _
    unfold w4
    rw [if_neg (by omega), if_pos (by omega), show 64 + i - 64 = i by omega]
  · show w4 x0 x1 x2 x3 (128 + i) = _
    unfold w4
    rw [if_neg (by omega), if_neg (by omega), if_pos (by omega), show 128 + i - 128 = i by omega]
  · show w4 x0 x1 x2 x3 (192 + i) = _
    unfold w4
    rw [if_neg (by omega), if_neg (by omega), if_neg (by omega), show 192 + i - 192 = i by omega]
theorem pk_cong {u v : Nat → Bool} (h : ∀ i, i < 256 → u i = v i) {k : Nat} (hk : k < 4) : pk u k = pk v k := by
  apply j_ext
  intro i hi
  rw [pk_bit, pk_bit, h _ (by omega)]
/-! the cell of a set -/
def WS (h : mHeap) (a : Nat) : Prop := 64 ≤ a ∧ kd h a = (4, 10, [1, 1, 1, 1])
def wo (h : mHeap) (a : Nat) : Nat → Bool := w4 (fJ h a 0) (fJ h a 1) (fJ h a 2) (fJ h a 3)
def sW (h : mHeap) (a : Nat) (x0 x1 x2 x3 : Int64) : mHeap := sF (sF (sF (sF h a 0 (.long x0)) a 1 (.long x1)) a 2 (.long x2)) a 3 (.long x3)
def pW (h : mHeap) (a : Nat) (w : Nat → Bool) : mHeap := sW h a (pk w 0) (pk w 1) (pk w 2) (pk w 3)
section W
variable {h : mHeap} {a b k : Nat} {x0 x1 x2 x3 : Int64} {w : Nat → Bool}
theorem wo_big {i : Nat} (hi : 256 ≤ i) : wo h a i = false := w4_big hi
theorem sW_pW : sW h a x0 x1 x2 x3 = pW h a (w4 x0 x1 x2 x3) := by
  unfold pW
  rw [pk_w4.1, pk_w4.2.1, pk_w4.2.2.1, pk_w4.2.2.2]
theorem pW_cong {u v : Nat → Bool} (e : ∀ i, i < 256 → u i = v i) : pW h a u = pW h a v := by
  unfold pW
  rw [pk_cong e (k := 0) (by decide), pk_cong e (k := 1) (by decide), pk_cong e (k := 2) (by decide), pk_cong e (k := 3) (by decide)]
theorem WS_t (hW : WS h a) {j : Nat} (hj : j < 4) : tgK (kd h a) j = some 1 := by
  rw [hW.2]
  match j, hj with
  | 0, _ => rfl
  | 1, _ => rfl
  | 2, _ => rfl
  | 3, _ => rfl
theorem kd_sW (hW : WS h a) : kd (sW h a x0 x1 x2 x3) b = kd h b := by
  have t := fun {j : Nat} (hj : j < 4) => WS_t hW hj
  have e1 : ∀ c, kd (sF h a 0 (.long x0)) c = kd h c := fun c => kd_sF (t (by decide))
  have e2 : ∀ c, kd (sF (sF h a 0 (.long x0)) a 1 (.long x1)) c = kd h c := fun c => by rw [kd_sF (by rw [e1]; exact t (by decide)), e1]
  have e3 : ∀ c, kd (sF (sF (sF h a 0 (.long x0)) a 1 (.long x1)) a 2 (.long x2)) c = kd h c := fun c => by rw [kd_sF (by rw [e2]; exact t (by decide)), e2]
  unfold sW
  rw [kd_sF (by rw [e3]; exact t (by decide)), e3]
theorem fJ_sW (hW : WS h a) : fJ (sW h a x0 x1 x2 x3) a 0 = x0 ∧ fJ (sW h a x0 x1 x2 x3) a 1 = x1 ∧ fJ (sW h a x0 x1 x2 x3) a 2 = x2 ∧ fJ (sW h a x0 x1 x2 x3) a 3 = x3 := by
  have t := fun {j : Nat} (hj : j < 4) => WS_t hW hj
  have e1 : ∀ c, kd (sF h a 0 (.long x0)) c = kd h c := fun c => kd_sF (t (by decide))
  have e2 : ∀ c, kd (sF (sF h a 0 (.long x0)) a 1 (.long x1)) c = kd h c := fun c => by rw [kd_sF (by rw [e1]; exact t (by decide)), e1]
  have e3 : ∀ c, kd (sF (sF (sF h a 0 (.long x0)) a 1 (.long x1)) a 2 (.long x2)) c = kd h c := fun c => by rw [kd_sF (by rw [e2]; exact t (by decide)), e2]
  have q3 : ∀ k', fJ (sW h a x0 x1 x2 x3) a k' = if 3 = k' then x3 else if 2 = k' then x2 else if 1 = k' then x1 else if 0 = k' then x0 else fJ h a k' := by
    intro k'
    unfold sW
    rw [fJ_sF (by rw [e3]; exact t (by decide)), fJ_sF (by rw [e2]; exact t (by decide)), fJ_sF (by rw [e1]; exact t (by decide)), fJ_sF (t (by decide))]
    simp
  exact ⟨q3 0, q3 1, q3 2, q3 3⟩
theorem fJ_sW_o (e : ¬ a = b) : fJ (sW h a x0 x1 x2 x3) b k = fJ h b k := by
  unfold sW
  rw [fJ_sF_o (fun g => e g.1), fJ_sF_o (fun g => e g.1), fJ_sF_o (fun g => e g.1), fJ_sF_o (fun g => e g.1)]
theorem fI_long (e : tgK (kd h a) k = some 1) : fI h a k = 0 := by
  obtain ⟨h1, h2⟩ := tgK_lt e
  unfold tgK at e
  rw [if_pos h1, (kd4 h1).2] at e
  have e : ((oF h a).map tgV)[k]? = some 1 := e
  rw [List.getElem?_map] at e
  unfold fI
  cases hv : (oF h a)[k]? with
  | none => rfl
  | some v =>
    rw [hv] at e
    have e : tgV v = 1 := Option.some.inj e
    cases v <;> first | rfl | cases e
theorem fI_sW (hW : WS h a) : fI (sW h a x0 x1 x2 x3) b k = fI h b k := by
  by_cases q : a = b
  · subst q
    by_cases p : k < 4
    · rw [fI_long (WS_t hW p), fI_long (by rw [kd_sW hW]; exact WS_t hW p)]
    · unfold sW
      rw [fI_sF_o (by omega), fI_sF_o (by omega), fI_sF_o (by omega), fI_sF_o (by omega)]
  · unfold sW
    rw [fI_sF_o (fun g => q g.1), fI_sF_o (fun g => q g.1), fI_sF_o (fun g => q g.1), fI_sF_o (fun g => q g.1)]
theorem kd_pW (hW : WS h a) : kd (pW h a w) b = kd h b := kd_sW hW
theorem fI_pW (hW : WS h a) : fI (pW h a w) b k = fI h b k := fI_sW hW
theorem xA_pW : xA (pW h a w) b = xA h b := by unfold pW sW; rw [xA_sF, xA_sF, xA_sF, xA_sF]
theorem xJ_pW : xJ (pW h a w) b = xJ h b := by unfold pW sW; rw [xJ_sF, xJ_sF, xJ_sF, xJ_sF]
theorem xR_pW : xR (pW h a w) b = xR h b := by unfold pW sW; rw [xR_sF, xR_sF, xR_sF, xR_sF]
theorem len_pW : (pW h a w).length = h.length := by unfold pW sW; rw [len_sF, len_sF, len_sF, len_sF]
theorem sl_pW : mSlots (pW h a w) = mSlots h := by unfold pW sW; rw [sl_sF, sl_sF, sl_sF, sl_sF]
theorem get_pW (e : ¬ a = b) : (pW h a w)[b]? = h[b]? := by unfold pW sW; rw [sF_get, if_neg e, sF_get, if_neg e, sF_get, if_neg e, sF_get, if_neg e]
theorem wo_pW (hW : WS h a) (i : Nat) : wo (pW h a w) a i = (decide (i < 256) && w i) := by
  unfold wo pW
  obtain ⟨e0, e1, e2, e3⟩ := fJ_sW (x0 := pk w 0) (x1 := pk w 1) (x2 := pk w 2) (x3 := pk w 3) hW
  rw [e0, e1, e2, e3, w4_pk]
theorem wo_pW_o (e : ¬ a = b) : wo (pW h a w) b = wo h b := by
  funext i
  unfold wo pW
  rw [fJ_sW_o e, fJ_sW_o e, fJ_sW_o e, fJ_sW_o e]
theorem WS_pW (hW : WS h a) (hb : WS h b) : WS (pW h a w) b := ⟨hb.1, by rw [kd_pW hW]; exact hb.2⟩
theorem wo_pk (k : Nat) (hk : k < 4) : pk (wo h a) k = fJ h a k := by
  match k, hk with
  | 0, _ => exact pk_w4.1
  | 1, _ => exact pk_w4.2.1
  | 2, _ => exact pk_w4.2.2.1
  | 3, _ => exact pk_w4.2.2.2
end W
/-! bits of the operations -/
section Bits
variable {x y x0 x1 x2 x3 y0 y1 y2 y3 : Int64} {i : Nat}
theorem jb_and : (x &&& y).toBitVec.getLsbD i = (x.toBitVec.getLsbD i && y.toBitVec.getLsbD i) := by rw [Int64.toBitVec_and, BitVec.getLsbD_and]
theorem jb_or : (x ||| y).toBitVec.getLsbD i = (x.toBitVec.getLsbD i || y.toBitVec.getLsbD i) := by rw [Int64.toBitVec_or, BitVec.getLsbD_or]
theorem jb_m1 (hi : i < 64) : (jj (-1)).toBitVec.getLsbD i = true := by
  show (BitVec.ofInt 64 (-1)).getLsbD i = true
  rw [show BitVec.ofInt 64 (-1) = BitVec.allOnes 64 from by decide, BitVec.getLsbD_allOnes]
  simp [hi]
theorem jb_0 : (jj 0).toBitVec.getLsbD i = false := BitVec.getLsbD_zero
theorem jb_not (hi : i < 64) : (x ^^^ jj (-1)).toBitVec.getLsbD i = !x.toBitVec.getLsbD i := by
  rw [Int64.toBitVec_xor, BitVec.getLsbD_xor, jb_m1 hi]
  simp
theorem w4_and : w4 (x0 &&& y0) (x1 &&& y1) (x2 &&& y2) (x3 &&& y3) i = (w4 x0 x1 x2 x3 i && w4 y0 y1 y2 y3 i) := by
  unfold w4
  rw [jb_and, jb_and, jb_and, jb_and]
  split
  · rfl
  · split
    · rfl
    · split <;> rfl
theorem w4_or : w4 (x0 ||| y0) (x1 ||| y1) (x2 ||| y2) (x3 ||| y3) i = (w4 x0 x1 x2 x3 i || w4 y0 y1 y2 y3 i) := by
  unfold w4
  rw [jb_or, jb_or, jb_or, jb_or]
  split
  · rfl
  · split
    · rfl
    · split <;> rfl
theorem w4_not (hi : i < 256) : w4 (x0 ^^^ jj (-1)) (x1 ^^^ jj (-1)) (x2 ^^^ jj (-1)) (x3 ^^^ jj (-1)) i = !w4 x0 x1 x2 x3 i := by
  unfold w4
  split
  · rw [jb_not (by omega)]
  · split
    · rw [jb_not (by omega)]
    · split
      · rw [jb_not (by omega)]
      · rw [jb_not (by omega)]
/-- all bits of four longs -/
theorem w4_zero : (∀ i, i < 256 → w4 x0 x1 x2 x3 i = false) ↔ (x0 = jj 0 ∧ x1 = jj 0 ∧ x2 = jj 0 ∧ x3 = jj 0) := by
  constructor
  · intro h
    have e0 := fun i (hi : i < 64) => h i (by omega)
    have e1 := fun i (hi : i < 64) => h (64 + i) (by omega)
    have e2 := fun i (hi : i < 64) => h (128 + i) (by omega)
    have e3 := fun i (hi : i < 64) => h (192 + i) (by omega)
    unfold w4 at e0 e1 e2 e3
    refine ⟨j_ext fun i hi => ?_, j_ext fun i hi => ?_, j_ext fun i hi => ?_, j_ext fun i hi => ?_⟩
    · have := e0 i hi
      rw [if_pos hi] at this
      rw [this, jb_0]
    · have := e1 i hi
      rw [if_neg (by omega), if_pos (by omega), show 64 + i - 64 = i by omega] at this
      rw [this, jb_0]
    · have := e2 i hi
      rw [if_neg (by omega), if_neg (by omega), if_pos (by omega), show 128 + i - 128 = i by omega] at this
      rw [this, jb_0]
    · have := e3 i hi
      rw [if_neg (by omega), if_neg (by omega), if_neg (by omega), show 192 + i - 192 = i by omega] at this
      rw [this, jb_0]
  · rintro ⟨rfl, rfl, rfl, rfl⟩ i _
    unfold w4
    rw [jb_0, jb_0, jb_0, jb_0]
    simp
theorem cB_w4 : cB (w4 x0 x1 x2 x3) 256 = cB (fun i => x0.toBitVec.getLsbD i) 64 + cB (fun i => x1.toBitVec.getLsbD i) 64 + cB (fun i => x2.toBitVec.getLsbD i) 64 + cB (fun i => x3.toBitVec.getLsbD i) 64 := by
  rw [show (256 : Nat) = 64 + (64 + (64 + 64)) from rfl, cB_add, cB_add, cB_add]
  rw [cB_cong (u := w4 x0 x1 x2 x3) (v := fun i => x0.toBitVec.getLsbD i) (fun i hi => by unfold w4; rw [if_pos hi])]
  rw [cB_cong (u := fun i => w4 x0 x1 x2 x3 (64 + i)) (v := fun i => x1.toBitVec.getLsbD i) (fun i hi => by unfold w4; rw [if_neg (by omega), if_pos (by omega), show 64 + i - 64 = i by omega])]
  rw [cB_cong (u := fun i => w4 x0 x1 x2 x3 (64 + (64 + i))) (v := fun i => x2.toBitVec.getLsbD i) (fun i hi => by unfold w4; rw [if_neg (by omega), if_neg (by omega), if_pos (by omega), show 64 + (64 + i) - 128 = i by omega])]
  rw [cB_cong (u := fun i => w4 x0 x1 x2 x3 (64 + (64 + (64 + i)))) (v := fun i => x3.toBitVec.getLsbD i) (fun i hi => by unfold w4; rw [if_neg (by omega), if_neg (by omega), if_neg (by omega), show 64 + (64 + (64 + i)) - 192 = i by omega])]
  omega
end Bits
