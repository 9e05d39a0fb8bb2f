/-! THE REFERENCE: sets of worlds while a saying is read -/
section To
variable {d : Nat} {h h1 h2 h3 : mHeap} {B : Bt} {n p q t i k f c L : Nat} {T : List (Nat × Nat)} {e b w : Wd} {x y : Nat → Int32}
/-- eight words written at a row's place -/
def W8 (x y : Nat → Int32) (L : Nat) (g : Nat → Int32) : Prop := ∀ i, y i = if 8 * L ≤ i ∧ i < 8 * L + 8 then g (i - 8 * L) else x i
theorem W8.at {g : Nat → Int32} (z : W8 x y L g) (hk : k < 8) : y (8 * L + k) = g k := by
  rw [z, if_pos (by omega), show 8 * L + k - 8 * L = k by omega]
theorem W8.o {g : Nat → Int32} (z : W8 x y L g) {M : Nat} (hM : ¬ M = L) : rw8 y M = rw8 x M := rw8_cong fun k hk => by rw [z, if_neg (by omega)]
theorem W8_zero {g : Nat → Int32} (z : W8 x y L g) (e : ∀ k, k < 8 → g k = ii 0) : rw8 y L = zeW := rw8_ext (fun k j hk hj => by rw [z.at hk, e k hk, wb_0]; rfl) (fun w _ => rfl)
theorem W8_on {g : Nat → Int32} (z : W8 x y L g) (e : ∀ k, k < 8 → g k = ii (-1)) : rw8 y L = onW := rw8_ext (fun k j hk hj => by rw [z.at hk, e k hk, wb_m1 hj]; exact (decide_eq_true (by omega)).symm) (fun w hw => decide_eq_false (by omega))
theorem W8_or {g u v : Nat → Int32} {M N : Nat} (z : W8 x y L g) (e : ∀ k, k < 8 → g k = u (8 * M + k) ||| v (8 * N + k)) : rw8 y L = orW (rw8 u M) (rw8 v N) := rw8_ext (fun k j hk hj => by
  rw [z.at hk, e k hk, wb_or]
  unfold orW
  rw [decide_eq_true (by omega), Bool.true_and, rw8_at hk hj, rw8_at hk hj]) (fun w hw => by unfold orW; rw [decide_eq_false (by omega), Bool.false_and])
theorem W8_and {g u v : Nat → Int32} {M N : Nat} (z : W8 x y L g) (e : ∀ k, k < 8 → g k = u (8 * M + k) &&& v (8 * N + k)) : rw8 y L = capW (rw8 u M) (rw8 v N) := rw8_ext (fun k j hk hj => by
  rw [z.at hk, e k hk, wb_and]
  unfold capW
  rw [decide_eq_true (by omega), Bool.true_and, rw8_at hk hj, rw8_at hk hj]) (fun w hw => by unfold capW; rw [decide_eq_false (by omega), Bool.false_and])
theorem W8_no {g u : Nat → Int32} {M : Nat} (z : W8 x y L g) (e : ∀ k, k < 8 → g k = u (8 * M + k) ^^^ ii (-1)) : rw8 y L = ntW (rw8 u M) := rw8_ext (fun k j hk hj => by
  rw [z.at hk, e k hk, wb_no hj]
  unfold ntW
  rw [decide_eq_true (by omega), Bool.true_and, rw8_at hk hj]) (fun w hw => by unfold ntW; rw [decide_eq_false (by omega), Bool.false_and])
theorem W8_eq {g u : Nat → Int32} {M : Nat} (z : W8 x y L g) (e : ∀ k, k < 8 → g k = u (8 * M + k)) : rw8 y L = rw8 u M := rw8_ext (fun k j hk hj => by
  rw [z.at hk, e k hk, rw8_at hk hj]) (fun w hw => rw8_ge hw)
/-- one word more -/
theorem W8_s {g : Nat → Int32} {v : Int32} (hk : k < 8) (z : ∀ i, y i = if 8 * L ≤ i ∧ i < 8 * L + k then g (i - 8 * L) else x i) (ev : v = g k) : ∀ i, upf y (8 * L + k) v i = if 8 * L ≤ i ∧ i < 8 * L + (k + 1) then g (i - 8 * L) else x i := fun i => by
  unfold upf
  by_cases c : i = 8 * L + k
  · rw [if_pos c, if_pos (by omega), ev, c, show 8 * L + k - 8 * L = k by omega]
  · rw [if_neg c, z]
    by_cases c2 : 8 * L ≤ i ∧ i < 8 * L + k
    · rw [if_pos c2, if_pos (by omega)]
    · rw [if_neg c2, if_neg (by omega)]
theorem W8_old {g : Nat → Int32} (z : ∀ i, y i = if 8 * L ≤ i ∧ i < 8 * L + k then g (i - 8 * L) else x i) : y (8 * L + k) = x (8 * L + k) := by rw [z, if_neg (by omega)]
theorem le8 (hk : k < 8) : ¬ ii 8 ≤ ii (k : Nat) := by
  rw [show ii 8 = ii (8 : Int) from rfl, ii_le (by omega) (by omega) (by omega) (by omega)]
  omega
theorem c227 {K : mHeap → Prop} (hR : RS h) (hL : fI h 148 52 = ii (L : Nat)) (l : L < 11) (hK : ∀ h1, RF [] [184, 185] h h1 → W8 (xA h 184) (xA h1 184) L (fun _ => ii 0) → W8 (xA h 185) (xA h1 185) L (fun _ => ii (-1)) → K h1) : GoCv (d + 1) 227 [.ref 148] h K := by
  rw [e227, b227_0]
  refine Go_loop (fun k L' h' => L' = [some (.ref 148), some (.int (ii (k : Nat)))] ∧ RF [] [184, 185] h h' ∧ (∀ i, xA h' 184 i = if 8 * L ≤ i ∧ i < 8 * L + k then ii 0 else xA h 184 i) ∧ ∀ i, xA h' 185 i = if 8 * L ≤ i ∧ i < 8 * L + k then ii (-1) else xA h 185 i) 8 ?_ ?_ 0 _ h (Nat.zero_le _) ⟨rfl, RF.rf, fun i => by rw [if_neg (by omega)], fun i => by rw [if_neg (by omega)]⟩
  · rintro k L' h' hk ⟨rfl, z, y1, y2⟩ nx
    have R1 : RS h' := z.rs hR (by decide)
    have l1 : 8 * L + k < 88 := by omega
    rw [b227_2, if_neg (le8 hk)]
    simp only [(RS.ok R1), (RS.fr R1), true_and, and_true, true_or, or_true, z.fe (show ¬ 52 ∈ ([] : List Nat) by decide), hL, ix8, R1.x184 l1]
    refine ⟨by decide, ?_⟩
    have z2 : RF [] [184] h' (sI h' 184 (ii ((8 * L + k : Nat) : Int)) (ii 0)) := RF.sI
    have s2 : ∀ b, xA (sI h' 184 (ii ((8 * L + k : Nat) : Int)) (ii 0)) b = if 184 = b then upf (xA h' 184) (8 * L + k) (ii 0) else xA h' b := fun b => R1.s184 l1
    generalize sI h' 184 (ii ((8 * L + k : Nat) : Int)) (ii 0) = H2 at *
    have R2 : RS H2 := z2.rs R1 (by decide)
    simp only [(RS.ok R2), (RS.fr R2), true_and, and_true, true_or, or_true, z2.fe (show ¬ 52 ∈ ([] : List Nat) by decide), z.fe (show ¬ 52 ∈ ([] : List Nat) by decide), hL, ix8, R2.x185 l1]
    refine ⟨by decide, ?_⟩
    rw [show ii (k : Nat) + ii 1 = ii ((k + 1 : Nat) : Int) from ii_add _ _]
    refine nx _ _ ⟨rfl, z.tr ((z2.wd (by decide) (by decide)).tr (RF.sI.wd (by decide) (by decide))), ?_, ?_⟩
    · rw [R2.s185 l1, if_neg (by decide), s2, if_pos rfl]
      exact W8_s (g := fun _ => ii 0) hk y1 rfl
    · rw [R2.s185 l1, if_pos rfl, s2, if_neg (by decide)]
      exact W8_s (g := fun _ => ii (-1)) hk y2 rfl
  · rintro L' h' ⟨rfl, z, y1, y2⟩
    rw [b227_2, if_pos (show ii 8 ≤ ii ((8 : Nat) : Int) by decide), rV_s]
    exact hK h' z y1 y2
theorem c228 {K : mHeap → Prop} (hR : RS h) (hL : fI h 148 52 = ii (L : Nat)) (l : L < 11) (hK : ∀ h1, RF [] [184, 185] h h1 → W8 (xA h 184) (xA h1 184) L (fun k => xA h 184 (8 * L + k) ||| xA h 185 (8 * L + k)) → W8 (xA h 185) (xA h1 185) L (fun _ => ii (-1)) → K h1) : GoCv (d + 1) 228 [.ref 148] h K := by
  rw [e228, b228_0]
  refine Go_loop (fun k L' h' => L' = [some (.ref 148), some (.int (ii (k : Nat)))] ∧ RF [] [184, 185] h h' ∧ (∀ i, xA h' 184 i = if 8 * L ≤ i ∧ i < 8 * L + k then (fun k => xA h 184 (8 * L + k) ||| xA h 185 (8 * L + k)) (i - 8 * L) else xA h 184 i) ∧ ∀ i, xA h' 185 i = if 8 * L ≤ i ∧ i < 8 * L + k then (fun _ => ii (-1)) (i - 8 * L) else xA h 185 i) 8 ?_ ?_ 0 _ h (Nat.zero_le _) ⟨rfl, RF.rf, fun i => by rw [if_neg (by omega)], fun i => by rw [if_neg (by omega)]⟩
  · rintro k L' h' hk ⟨rfl, z, y1, y2⟩ nx
    have R1 : RS h' := z.rs hR (by decide)
    have l1 : 8 * L + k < 88 := by omega
    have o1 : xA h' 184 (8 * L + k) = xA h 184 (8 * L + k) := by rw [y1, if_neg (by omega)]
    have o2 : xA h' 185 (8 * L + k) = xA h 185 (8 * L + k) := by rw [y2, if_neg (by omega)]
    rw [b228_2, if_neg (le8 hk)]
    simp only [(RS.ok R1), (RS.fr R1), true_and, and_true, true_or, or_true, z.fe (show ¬ 52 ∈ ([] : List Nat) by decide), hL, ix8, R1.x184 l1, R1.x185 l1, o1, o2]
    refine ⟨by decide, ?_⟩
    have z2 : RF [] [184] h' (sI h' 184 (ii ((8 * L + k : Nat) : Int)) (xA h 184 (8 * L + k) ||| xA h 185 (8 * L + k))) := RF.sI
    have s2 : ∀ b, xA (sI h' 184 (ii ((8 * L + k : Nat) : Int)) (xA h 184 (8 * L + k) ||| xA h 185 (8 * L + k))) b = if 184 = b then upf (xA h' 184) (8 * L + k) (xA h 184 (8 * L + k) ||| xA h 185 (8 * L + k)) else xA h' b := fun b => R1.s184 l1
    generalize sI h' 184 (ii ((8 * L + k : Nat) : Int)) (xA h 184 (8 * L + k) ||| xA h 185 (8 * L + k)) = H2 at *
    have R2 : RS H2 := z2.rs R1 (by decide)
    simp only [(RS.ok R2), (RS.fr R2), true_and, and_true, true_or, or_true, z2.fe (show ¬ 52 ∈ ([] : List Nat) by decide), z.fe (show ¬ 52 ∈ ([] : List Nat) by decide), hL, ix8, R2.x185 l1]
    refine ⟨by decide, ?_⟩
    rw [show ii (k : Nat) + ii 1 = ii ((k + 1 : Nat) : Int) from ii_add _ _]
    refine nx _ _ ⟨rfl, z.tr ((z2.wd (by decide) (by decide)).tr (RF.sI.wd (by decide) (by decide))), ?_, ?_⟩
    · rw [R2.s185 l1, if_neg (by decide), s2, if_pos rfl]
      exact W8_s (g := fun k => xA h 184 (8 * L + k) ||| xA h 185 (8 * L + k)) hk y1 rfl
    · rw [R2.s185 l1, if_pos rfl, s2, if_neg (by decide)]
      exact W8_s (g := fun _ => ii (-1)) hk y2 rfl
  · rintro L' h' ⟨rfl, z, y1, y2⟩
    rw [b228_2, if_pos (show ii 8 ≤ ii ((8 : Nat) : Int) by decide), rV_s]
    exact hK h' z y1 y2
theorem c229_34 {K : mHeap → Prop} (hR : RS h) (hK : ∀ h1, RF [] [186] h h1 → W8 (xA h 186) (xA h1 186) 0 (fun k => xA h 186 k ^^^ ii (-1)) → Go d 229 0 [some (.ref 148), some (.int (ii ((8 : Nat) : Int)))] [] h1 (rV K)) : Go d 229 34 [some (.ref 148), some (.int (ii 0))] [] h (rV K) := by
  refine Go_loop (fun k L' h' => L' = [some (.ref 148), some (.int (ii (k : Nat)))] ∧ RF [] [186] h h' ∧ ∀ i, xA h' 186 i = if 8 * 0 ≤ i ∧ i < 8 * 0 + k then (fun k => xA h 186 k ^^^ ii (-1)) (i - 8 * 0) else xA h 186 i) 8 ?_ ?_ 0 _ h (Nat.zero_le _) ⟨rfl, RF.rf, fun i => by rw [if_neg (by omega)]⟩
  · rintro k L' h' hk ⟨rfl, z, y1⟩ nx
    have R1 : RS h' := z.rs hR (by decide)
    have o1 : xA h' 186 k = xA h 186 k := by rw [y1, if_neg (by omega)]
    rw [b229_34, if_neg (le8 hk)]
    simp only [(RS.ok R1), (RS.fr R1), true_and, and_true, true_or, or_true, R1.x186 hk, o1]
    refine ⟨by decide, ?_⟩
    rw [show ii (k : Nat) + ii 1 = ii ((k + 1 : Nat) : Int) from ii_add _ _]
    refine nx _ _ ⟨rfl, z.tr RF.sI, ?_⟩
    rw [R1.s186 hk, if_pos rfl]
    have := W8_s (g := fun k => xA h 186 k ^^^ ii (-1)) hk y1 rfl
    rw [show 8 * 0 + k = k by omega] at this
    exact this
  · rintro L' h' ⟨rfl, z, y1⟩
    rw [b229_34, if_pos (show ii 8 ≤ ii ((8 : Nat) : Int) by decide)]
    exact hK h' z y1
theorem c229_65 {K : mHeap → Prop} (hR : RS h) (hL : fI h 148 52 = ii (L : Nat)) (l : L < 11) (hK : ∀ h1, RF [] [185] h h1 → W8 (xA h 185) (xA h1 185) L (fun k => xA h 185 (8 * L + k) &&& xA h 186 (8 * 0 + k)) → K h1) : Go d 229 65 [some (.ref 148), some (.int (ii 0))] [] h (rV K) := by
  refine Go_loop (fun k L' h' => L' = [some (.ref 148), some (.int (ii (k : Nat)))] ∧ RF [] [185] h h' ∧ ∀ i, xA h' 185 i = if 8 * L ≤ i ∧ i < 8 * L + k then (fun k => xA h 185 (8 * L + k) &&& xA h 186 (8 * 0 + k)) (i - 8 * L) else xA h 185 i) 8 ?_ ?_ 0 _ h (Nat.zero_le _) ⟨rfl, RF.rf, fun i => by rw [if_neg (by omega)]⟩
  · rintro k L' h' hk ⟨rfl, z, y1⟩ nx
    have R1 : RS h' := z.rs hR (by decide)
    have l1 : 8 * L + k < 88 := by omega
    have o1 : xA h' 185 (8 * L + k) = xA h 185 (8 * L + k) := by rw [y1, if_neg (by omega)]
    rw [b229_65, if_neg (le8 hk)]
    simp only [(RS.ok R1), (RS.fr R1), true_and, and_true, true_or, or_true, z.fe (show ¬ 52 ∈ ([] : List Nat) by decide), hL, ix8, R1.x185 l1, R1.x186 hk, o1, z.ae (show ¬ 186 = 148 by decide) (show ¬ 186 ∈ [185] by decide)]
    refine ⟨by decide, ?_⟩
    rw [show ii (k : Nat) + ii 1 = ii ((k + 1 : Nat) : Int) from ii_add _ _]
    refine nx _ _ ⟨rfl, z.tr RF.sI, ?_⟩
    rw [R1.s185 l1, if_pos rfl]
    exact W8_s (g := fun k => xA h 185 (8 * L + k) &&& xA h 186 (8 * 0 + k)) hk y1 (by rw [show 8 * 0 + k = k by omega])
  · rintro L' h' ⟨rfl, z, y1⟩
    rw [b229_65, if_pos (show ii 8 ≤ ii ((8 : Nat) : Int) by decide), rV_s]
    exact hK h' z y1
theorem c231_17 {K : mHeap → Prop} {l3 : Int32} (hR : RS h) (hk : k < 8) (hf : f < 8) (h0 : xA h 186 k = ii 0) (hK : ∀ h1, RF [] [186] h h1 → (∀ i, ¬ i = k → xA h1 186 i = xA h 186 i) → (∀ j, j < 32 → wb (xA h1 186 k) j = (32 * k + j).testBit f) → Go (d + 1) 231 2 [some (.ref 148), some (.int (ii (f : Nat))), some (.int (ii (k : Nat) + ii 1)), some (.int (ii ((32 : Nat) : Int)))] [] h1 (rV K)) : Go (d + 1) 231 17 [some (.ref 148), some (.int (ii (f : Nat))), some (.int (ii (k : Nat))), some (.int (ii 0))] [] h (rV K) := by
  refine Go_loop (fun b L' h' => L' = [some (.ref 148), some (.int (ii (f : Nat))), some (.int (ii (k : Nat))), some (.int (ii (b : Nat)))] ∧ RF [] [186] h h' ∧ (∀ i, ¬ i = k → xA h' 186 i = xA h 186 i) ∧ ∀ j, j < 32 → wb (xA h' 186 k) j = (decide (j < b) && (32 * k + j).testBit f)) 32 ?_ ?_ 0 _ h (Nat.zero_le _) ⟨rfl, RF.rf, fun _ _ => rfl, fun j hj => by rw [h0, wb_0, decide_eq_false (by omega)]; rfl⟩
  · rintro b L' h' hb ⟨rfl, z, y1, y2⟩ nx
    have R1 : RS h' := z.rs hR (by decide)
    rw [b231_17, if_neg (by rw [show ii 32 = ii (32 : Int) from rfl, ii_le (by omega) (by omega) (by omega) (by omega)]; omega)]
    simp only [(RS.ok R1), (RS.fr R1), true_and, and_true, true_or, or_true, R1.x186 hk]
    rw [show ii 32 * ii (k : Nat) + ii (b : Nat) = ii ((32 * k + b : Nat) : Int) by rw [show ii 32 = ii ((32 : Nat) : Int) from rfl, ii_mul, ii_add]; exact congrArg ii (by omega)]
    rw [c185 (show f < 32 by omega), wb_ii (show f < 32 by omega)]
    have fin : ∀ v : Int32, (∀ j, j < 32 → wb v j = (decide (j = b) && (32 * k + b).testBit f)) → Go (d + 1) 231 50 [some (.ref 148), some (.int (ii (f : Nat))), some (.int (ii (k : Nat))), some (.int (ii (b : Nat)))] [.int v, .int (xA h' 186 k), .int (ii (k : Nat)), .ref 186] h' (rV K) := fun v hv => by
      rw [b231_50]
      simp only [R1.x186 hk]
      refine ⟨by decide, ?_⟩
      rw [show ii (b : Nat) + ii 1 = ii ((b + 1 : Nat) : Int) from ii_add _ _]
      refine nx _ _ ⟨rfl, z.tr RF.sI, fun i hi => ?_, fun j hj => ?_⟩
      · rw [R1.s186 hk, if_pos rfl]
        unfold upf
        rw [if_neg hi]
        exact y1 i hi
      · rw [R1.s186 hk, if_pos rfl]
        unfold upf
        rw [if_pos rfl, wb_or, y2 j hj, hv j hj]
        by_cases c : j = b
        · rw [c, decide_eq_false (by omega), decide_eq_true rfl, decide_eq_true (by omega)]
          simp
        · rw [decide_eq_false c, Bool.false_and, Bool.or_false]
          by_cases c2 : j < b
          · rw [decide_eq_true c2, decide_eq_true (by omega)]
          · rw [decide_eq_false c2, decide_eq_false (by omega)]
    by_cases c : (32 * k + b).testBit f = true
    · rw [if_pos c, if_neg (by decide)]
      refine fin _ (fun j hj => ?_)
      rw [wb_shl hj hb, c, Bool.and_true]
      by_cases c2 : j = b
      · rw [decide_eq_true c2, decide_eq_true c2.symm]
      · rw [decide_eq_false c2, decide_eq_false (fun y => c2 y.symm)]
    · have cf : (32 * k + b).testBit f = false := by
        cases e : (32 * k + b).testBit f with
        | true => exact absurd e c
        | false => rfl
      rw [if_neg c, if_pos rfl]
      refine fin _ (fun j hj => ?_)
      rw [wb_0, cf, Bool.and_false]
  · rintro L' h' ⟨rfl, z, y1, y2⟩
    rw [b231_17, if_pos (show ii 32 ≤ ii ((32 : Nat) : Int) by decide)]
    exact hK h' z y1 (fun j hj => by rw [y2 j hj, decide_eq_true hj, Bool.true_and])
theorem c231 {K : mHeap → Prop} (hR : RS h) (hf : f < 8) (hK : ∀ h1, RF [] [186] h h1 → rw8 (xA h1 186) 0 = fcW f → K h1) : GoCv (d + 2) 231 [.ref 148, .int (ii (f : Nat))] h K := by
  rw [e231, b231_0]
  refine Go_loop (fun k L' h' => (∃ l3, L' = [some (.ref 148), some (.int (ii (f : Nat))), some (.int (ii (k : Nat))), l3]) ∧ RF [] [186] h h' ∧ ∀ m, m < k → ∀ j, j < 32 → wb (xA h' 186 m) j = (32 * m + j).testBit f) 8 ?_ ?_ 0 _ h (Nat.zero_le _) ⟨⟨none, rfl⟩, RF.rf, fun m hm => absurd hm (Nat.not_lt_zero m)⟩
  · rintro k L' h' hk ⟨⟨l3, rfl⟩, z, y1⟩ nx
    have R1 : RS h' := z.rs hR (by decide)
    rw [b231_2, if_neg (le8 hk)]
    simp only [(RS.ok R1), (RS.fr R1), true_and, and_true, true_or, or_true, R1.x186 hk]
    refine ⟨by decide, ?_⟩
    have z2 : RF [] [186] h' (sI h' 186 (ii (k : Nat)) (ii 0)) := RF.sI
    have s2 : xA (sI h' 186 (ii (k : Nat)) (ii 0)) 186 = upf (xA h' 186) k (ii 0) := (R1.s186 hk).trans (if_pos rfl)
    generalize sI h' 186 (ii (k : Nat)) (ii 0) = H2 at *
    refine c231_17 (l3 := ii 0) (z2.rs R1 (by decide)) hk hf (by rw [s2]; unfold upf; rw [if_pos rfl]) (fun h3 z3 a3 b3 => ?_)
    rw [show ii (k : Nat) + ii 1 = ii ((k + 1 : Nat) : Int) from ii_add _ _]
    refine nx _ _ ⟨⟨_, rfl⟩, z.tr (z2.tr z3), fun m hm j hj => ?_⟩
    by_cases c : m = k
    · rw [c]; exact b3 j hj
    · rw [a3 m c, s2]
      unfold upf
      rw [if_neg c]
      exact y1 m (by omega) j hj
  · rintro L' h' ⟨⟨l3, rfl⟩, z, y1⟩
    rw [b231_2, if_pos (show ii 8 ≤ ii ((8 : Nat) : Int) by decide), rV_s]
    refine hK h' z (rw8_ext (fun k j hk hj => ?_) (fun w hw => ?_))
    · rw [show 8 * 0 + k = k by omega, y1 k hk j hj]
      unfold fcW
      rw [decide_eq_true (by omega), Bool.true_and]
    · unfold fcW
      rw [decide_eq_false (by omega), Bool.false_and]
theorem mB_let : ∀ f, f < 8 → mB (7 + f) = [ii ((97 + f : Nat) : Int)] := by decide +kernel
theorem c233 {K : Nat → mHeap → Prop} (hk : k < 8) : GoCr (d + 1) 233 [.int (ii (k : Nat))] h K ↔ K (2 + (7 + k)) h := by
  rw [e233, b233_0]
  have : k = 0 ∨ k = 1 ∨ k = 2 ∨ k = 3 ∨ k = 4 ∨ k = 5 ∨ k = 6 ∨ k = 7 := by omega
  rcases this with g | g | g | g | g | g | g | g <;> (subst g; simp only [rR_s]; exact Iff.rfl)
theorem c232 {K : Int32 → mHeap → Prop} (hR : RS h) (hT : RTx h B n) (hb : Byt B n) (hp : fI h 148 28 = ii (q : Nat)) (hn : q ≤ n) (hl : Pl B n q t) (hY : ∀ f, f < 8 → t = 261 + f → K (ii (f : Nat)) h) (hN : (∀ f, f < 8 → ¬ t = 261 + f) → K (ii (-1)) h) : GoCi (d + 7) 232 [.ref 148] h K := by
  rw [e232, b232_0]
  refine Go_loop (fun k L' h' => L' = [some (.ref 148), some (.int (ii (k : Nat)))] ∧ h' = h ∧ ∀ f, f < k → ¬ t = 261 + f) 8 ?_ ?_ 0 _ h (Nat.zero_le _) ⟨rfl, rfl, fun f hf => absurd hf (Nat.not_lt_zero f)⟩
  · rintro k L' h' hk ⟨rfl, rfl, y1⟩ nx
    rw [b232_2, if_neg (le8 hk), c233 hk]
    (try simp only [(RS.ok hR), (RS.fr hR), true_and, and_true, true_or, or_true])
    have m := mB_let k hk
    refine c201 (i := 7 + k) hR hT hb hp hn (by omega) ?_
    have pe := pl_l hl hk
    have me : mtc B q (rnE isSm B n q - q) (mB (7 + k)) = true ↔ t = 261 + k := by
      rw [← pe, mtc_i, m]
      have e97 : (ii ((97 + k : Nat) : Int)).toInt = 97 + k := by
        rw [ii_toInt (by omega) (by omega)]
        omega
      constructor
      · rintro ⟨a, b⟩
        have := b 0 Nat.one_pos
        refine ⟨a.symm, ?_⟩
        rw [Nat.add_zero] at this
        exact this.trans e97
      · rintro ⟨a, b⟩
        refine ⟨a.symm, fun j hj => ?_⟩
        have j0 : j = 0 := by
          have hj' : j < 1 := hj
          omega
        subst j0
        exact b.trans e97.symm
    by_cases c : t = 261 + k
    · rw [if_pos (me.mpr c), if_neg (by decide), rI_s]
      exact hY k hk c
    · rw [if_neg (fun y => c (me.mp y)), if_pos rfl, show ii (k : Nat) + ii 1 = ii ((k + 1 : Nat) : Int) from ii_add _ _]
      refine nx _ _ ⟨rfl, rfl, fun f hf => ?_⟩
      by_cases c2 : f = k
      · rw [c2]; exact c
      · exact y1 f (by omega)
  · rintro L' h' ⟨rfl, rfl, y1⟩
    rw [b232_2, if_pos (show ii 8 ≤ ii ((8 : Nat) : Int) by decide), rI_s]
    exact hN y1
end To
