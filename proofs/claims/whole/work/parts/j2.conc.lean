/-! THE CONSTRUCTORS: what holds at the start -/
def kdA (c : aCell) : mKd := match c with
  | .inl (ty, n) => (1, tyN (if ty = 1 then .int else if ty = 2 then .byte else .boolean), [n])
  | .inr (.inl n) => (2, 0, [n])
  | .inr (.inr (.inl (c, xs))) => (3, c, [xs.length])
  | .inr (.inr (.inr (c, fs))) => (4, c, fs.map tgV)
def fsA (c : aCell) : List Value := match c with
  | .inr (.inr (.inr (_, fs))) => fs
  | _ => []
def rsA (c : aCell) : List (Option Nat) := match c with
  | .inr (.inr (.inl (_, xs))) => xs
  | _ => []
def tA (T : List aCell) (b : Nat) : aCell := T.getD b (aJ' 0)
def TT : List aCell := T134 ++ T182
def cs0 : Cs := ((fun _ => 0, 0), [], [], pg0, fun _ => none)
section Cp
variable {X : List Int32} {T : List aCell} {a b k i : Nat}
theorem kdA_ok (c : aCell) : kdC (cnc c) = kdA c := by
  match c with
  | .inl (ty, n) =>
    show (1, tyN _, [(List.replicate n (0 : Int32)).length]) = (1, tyN _, [n])
    rw [List.length_replicate]
  | .inr (.inl n) =>
    show (2, 0, [(List.replicate n (0 : Int64)).length]) = (2, 0, [n])
    rw [List.length_replicate]
  | .inr (.inr (.inl (c, xs))) => rfl
  | .inr (.inr (.inr (c, fs))) => rfl
theorem cH_g (hb : b < T.length) : (cH X T)[64 + b]? = some (cnc (tA T b)) := cH_at (by omega) (by
  rw [show 64 + b - 64 = b by omega]
  unfold tA
  rw [List.getD_eq_getElem?_getD, List.getElem?_eq_getElem hb, Option.getD_some])
theorem cH_k (hb : b < T.length) : kd (cH X T) (64 + b) = kdA (tA T b) := by rw [kd_some (cH_g hb), kdA_ok]
theorem cH_f (hb : b < T.length) : oF (cH X T) (64 + b) = fsA (tA T b) := by
  unfold oF
  rw [cH_g hb]
  match tA T b with
  | .inl (ty, n) => rfl
  | .inr (.inl n) => rfl
  | .inr (.inr (.inl (c, xs))) => rfl
  | .inr (.inr (.inr (c, fs))) => rfl
theorem cH_fI (hb : b < T.length) : fI (cH X T) (64 + b) k = vI (fsA (tA T b))[k]? := by unfold fI; rw [cH_f hb]
theorem cH_fJ (hb : b < T.length) : fJ (cH X T) (64 + b) k = vJ (fsA (tA T b))[k]? := by unfold fJ; rw [cH_f hb]
theorem cH_fR (hb : b < T.length) : fR (cH X T) (64 + b) k = vR (fsA (tA T b))[k]? := by unfold fR; rw [cH_f hb]
theorem cH_xR (hb : b < T.length) : xR (cH X T) (64 + b) i = (rsA (tA T b)).getD i none := by
  unfold xR aR
  rw [cH_g hb]
  match tA T b with
  | .inl (ty, n) => rfl
  | .inr (.inl n) => rfl
  | .inr (.inr (.inl (c, xs))) => rfl
  | .inr (.inr (.inr (c, fs))) => rfl
theorem cH_xA (hb : b < T.length) : xA (cH X T) (64 + b) i = ii 0 := by
  unfold xA aI
  rw [cH_g hb]
  match tA T b with
  | .inl (ty, n) =>
    show (List.replicate n (0 : Int32)).getD i 0 = ii 0
    rw [List.getD_eq_getElem?_getD, List.getElem?_replicate]
    split <;> rfl
  | .inr (.inl n) => rfl
  | .inr (.inr (.inl (c, xs))) => rfl
  | .inr (.inr (.inr (c, fs))) => rfl
theorem TT_len : TT.length = 138 := by decide +kernel
theorem kTT (hb : b < 138) : kd (cH X TT) (64 + b) = kdA (tA TT b) := cH_k (by rw [TT_len]; exact hb)
theorem KI (hb : b < 138) : fI (cH X TT) (64 + b) k = vI (fsA (tA TT b))[k]? := cH_fI (by rw [TT_len]; exact hb)
theorem KJ (hb : b < 138) : fJ (cH X TT) (64 + b) k = vJ (fsA (tA TT b))[k]? := cH_fJ (by rw [TT_len]; exact hb)
theorem KR (hb : b < 138) : fR (cH X TT) (64 + b) k = vR (fsA (tA TT b))[k]? := cH_fR (by rw [TT_len]; exact hb)
theorem KX (hb : b < 138) : xR (cH X TT) (64 + b) i = (rsA (tA TT b)).getD i none := cH_xR (by rw [TT_len]; exact hb)
theorem KA (hb : b < 138) : xA (cH X TT) (64 + b) i = ii 0 := cH_xA (by rw [TT_len]; exact hb)
theorem kCl_ok : ∀ b, b < 84 → kdA (tA TT b) = kCls.getD b (0, 0, []) := by decide +kernel
theorem kRf_ok : ∀ b, b < 54 → kdA (tA TT (84 + b)) = kRef.getD b (0, 0, []) := by decide +kernel
theorem kCl (hb : b < 84) : kd (cH X TT) (64 + b) = kCls.getD b (0, 0, []) := (kTT (by omega)).trans (kCl_ok b hb)
theorem wo_ok : ∀ b, b < 84 → kdA (tA TT b) = (4, 10, [1, 1, 1, 1]) → ∀ k, k < 4 → vJ (fsA (tA TT b))[k]? = 0 := by decide +kernel
theorem wo_0 (hb : b < 84) (e : kdA (tA TT b) = (4, 10, [1, 1, 1, 1])) : wo (cH X TT) (64 + b) = fun _ => false := by
  have w := wo_ok b hb e
  unfold wo
  rw [KJ (by omega), KJ (by omega), KJ (by omega), KJ (by omega), w 0 (by decide), w 1 (by decide), w 2 (by decide), w 3 (by decide)]
  funext i
  unfold w4
  have z : ∀ j, (0 : Int64).toBitVec.getLsbD j = false := fun j => by
    rw [show (0 : Int64).toBitVec = 0#64 by rfl, BitVec.getLsbD_zero]
  (repeat' split) <;> exact z _
theorem WS_0 (hb : b < 84) (e : kdA (tA TT b) = (4, 10, [1, 1, 1, 1])) : WS (cH X TT) (64 + b) := ⟨by omega, (kTT (by omega)).trans e⟩
theorem Mo_0 (hb : b + 10 ≤ 84) (h64 : ∀ j, j < 7 → kdA (tA TT (b + 3 + j)) = (4, 10, [1, 1, 1, 1])) (k0 : kdA (tA TT b) = (4, 3, [0, 0, 0, 0, 64 + b + 4, 64 + b + 5])) (k1 : kdA (tA TT (b + 1)) = (1, 1, [6])) (k2 : kdA (tA TT (b + 2)) = (3, 10, [7])) (r : ∀ j, j < 7 → (rsA (tA TT (b + 2))).getD j none = some (64 + b + 3 + j)) (f : ∀ k, k < 4 → vI (fsA (tA TT b))[k]? = ii 0) : MoR (cH X TT) (64 + b) mo0 := by
  refine ⟨⟨by omega, (kTT (by omega)).trans k0, ?_, ?_, fun i hi => ?_, fun i hi => ?_⟩, ⟨?_, ?_, ?_, ?_, fun p hp => ?_, fun i hi => ?_⟩⟩
  · rw [show 64 + b + 1 = 64 + (b + 1) by omega]; exact (kTT (by omega)).trans k1
  · rw [show 64 + b + 2 = 64 + (b + 2) by omega]; exact (kTT (by omega)).trans k2
  · rw [show 64 + b + 2 = 64 + (b + 2) by omega, KX (by omega)]; exact r i hi
  · rw [show 64 + b + 3 + i = 64 + (b + 3 + i) by omega]; exact WS_0 (by omega) (h64 i hi)
  · rw [KI (by omega)]; exact f 0 (by decide)
  · rw [KI (by omega)]; exact f 1 (by decide)
  · rw [KI (by omega)]; exact f 2 (by decide)
  · rw [KI (by omega)]; exact f 3 (by decide)
  · rw [show 64 + b + 1 = 64 + (b + 1) by omega, KA (by omega)]; rfl
  · rw [show 64 + b + 3 + i = 64 + (b + 3 + i) by omega]; exact wo_0 (by omega) (h64 i hi)
theorem St_0 : St (cH X T) := ⟨X, fun a ha => by unfold cH; rw [List.getElem?_append_left (by rw [mS0_len]; exact ha)]⟩
theorem len_0 : (cH X TT).length = 202 := by rw [cH_len, TT_len]
theorem n116 : ∀ i, (rsA (tA TT 52)).getD i none = none := fun i => by
  have e : rsA (tA TT 52) = List.replicate 20 none := by decide +kernel
  rw [e, List.getD_eq_getElem?_getD, List.getElem?_replicate]
  split <;> rfl
theorem n124 : ∀ i, (rsA (tA TT 60)).getD i none = none := fun i => by
  have e : rsA (tA TT 60) = List.replicate 4 none := by decide +kernel
  rw [e, List.getD_eq_getElem?_getD, List.getElem?_replicate]
  split <;> rfl
theorem x116 {i : Nat} : xR (cH X TT) 116 i = none := (KX (b := 52) (by decide)).trans (n116 i)
theorem x124 {i : Nat} : xR (cH X TT) 124 i = none := (KX (b := 60) (by decide)).trans (n124 i)
theorem f97 : fR (cH X TT) 97 0 = 98 := (KR (b := 33) (by decide)).trans (by decide +kernel)
theorem La_0 : LaR (cH X TT) 98 ld0 := by
  refine ⟨⟨by decide, kCl (b := 34) (by decide), kCl (b := 35) (by decide), kCl (b := 36) (by decide), kCl (b := 37) (by decide), kCl (b := 38) (by decide), kCl (b := 39) (by decide), kCl (b := 40) (by decide), kCl (b := 41) (by decide)⟩, ⟨?_, ?_, ?_, ?_, ?_, ?_, ?_, fun q hq => absurd hq (Nat.not_lt_zero q), fun q hq => absurd hq (Nat.not_lt_zero q), fun g => absurd g (Nat.lt_irrefl 0), fun q hq => absurd hq (Nat.not_lt_zero q)⟩⟩
  · exact (KI (b := 34) (by decide)).trans (by decide +kernel)
  · exact (KI (b := 34) (by decide)).trans (by decide +kernel)
  · exact (KI (b := 34) (by decide)).trans (by decide +kernel)
  · exact (KI (b := 34) (by decide)).trans (by decide +kernel)
  · exact (KI (b := 34) (by decide)).trans (by decide +kernel)
  · exact (KI (b := 34) (by decide)).trans (by decide +kernel)
  · exact (KI (b := 34) (by decide)).trans (by decide +kernel)
theorem M106 : MoR (cH X TT) 106 mo0 := Mo_0 (b := 42) (by decide) (by decide +kernel) (by decide +kernel) (by decide +kernel) (by decide +kernel) (by decide +kernel) (by decide +kernel)
theorem M138 : MoR (cH X TT) 138 mo0 := Mo_0 (b := 74) (by decide) (by decide +kernel) (by decide +kernel) (by decide +kernel) (by decide +kernel) (by decide +kernel) (by decide +kernel)
theorem Pg_0 : PgR (cH X TT) 97 pg0 := by
  refine ⟨⟨by decide, ?_, kCl (b := 52) (by decide), kCl (b := 53) (by decide), M106.1, fun i b _ h => ?_, fun i j b _ _ h => ?_⟩, ⟨?_, LdOk0, M106, ?_, by decide, fun q hq => absurd hq (Nat.not_lt_zero q), ?_, by decide, fun q hq => absurd hq (Nat.not_lt_zero q), ⟨0, by decide, ?_, fun q hq => absurd hq (Nat.not_lt_zero q)⟩, ?_, by decide⟩⟩
  · rw [f97]; exact kCl (b := 33) (by decide)
  · rw [show 97 + 19 = 116 from rfl, x116] at h; cases h
  · rw [show 97 + 19 = 116 from rfl, x116] at h; cases h
  · rw [f97]; exact La_0
  · exact (KI (b := 33) (by decide)).trans (by decide +kernel)
  · exact (KI (b := 33) (by decide)).trans (by decide +kernel)
  · exact (KI (b := 33) (by decide)).trans (by decide +kernel)
  · exact (KI (b := 33) (by decide)).trans (by decide +kernel)
theorem PgI_0 : PgI [] pg0 := ⟨⟨by decide, by decide, fun q => Nat.zero_le _, fun i w _ h => absurd h Bool.false_ne_true, fun i _ g => absurd g (Nat.lt_irrefl 0)⟩, fun q hq => absurd hq (Nat.not_lt_zero q), fun m hm => (by cases hm), Or.inr rfl⟩
theorem CI_0 : CI (cH X TT) cs0 := by
  refine ⟨⟨St_0, kCl (b := 0) (by decide), ⟨kCl (b := 1) (by decide), kCl (b := 2) (by decide), kCl (b := 3) (by decide), kCl (b := 4) (by decide)⟩, ⟨?_, by decide, fun q hq => absurd hq (Nat.not_lt_zero q)⟩, kCl (b := 54) (by decide), ⟨kCl (b := 55) (by decide), kCl (b := 56) (by decide), kCl (b := 57) (by decide), kCl (b := 58) (by decide)⟩, KA (b := 57) (by decide)⟩, ⟨⟨⟨kCl (b := 5) (by decide), kCl (b := 6) (by decide), fun i hi => ?_, fun i hi => ?_, WS_0 (b := 7) (by decide) (by decide +kernel), kCl (b := 8) (by decide)⟩, ⟨?_, by decide, fun q hq => absurd hq (Nat.not_lt_zero q)⟩⟩, ⟨kCl (b := 59) (by decide), ?_, by decide, fun q hq => absurd hq (Nat.not_lt_zero q)⟩⟩, ⟨Pg_0, PgI_0, ⟨Or.inl f97, fun i b _ h => ?_⟩⟩, ⟨⟨kCl (b := 61) (by decide), fun c c1 c2 => ?_⟩, ⟨kCl (b := 63) (by decide), fun i hi => ?_, kCl (b := 64) (by decide), kCl (b := 65) (by decide), kCl (b := 66) (by decide), WS_0 (b := 62) (by decide) (by decide +kernel), fun i hi => ?_⟩, kCl (b := 72) (by decide), kCl (b := 73) (by decide), ⟨mo0, M138⟩⟩, ⟨kCl (b := 60) (by decide), fun k hk _ => x124, fun k Q hk h => (by cases h), fun j k q q' hj hk ne h1 h2 => ?_⟩, ?_⟩
  · exact (KI (b := 1) (by decide)).trans (by decide +kernel)
  · rw [KX (b := 6) (by decide)]
    have : ∀ i, i < 24 → (rsA (tA TT 6)).getD i none = some (73 + i) := by decide +kernel
    exact this i hi
  · rw [show 73 + i = 64 + (9 + i) by omega]
    have : ∀ i, i < 24 → kdA (tA TT (9 + i)) = (4, 10, [1, 1, 1, 1]) := by decide +kernel
    exact WS_0 (by omega) (this i hi)
  · exact (KI (b := 5) (by decide)).trans (by decide +kernel)
  · exact (KI (b := 0) (by decide)).trans (by decide +kernel)
  · rw [show 97 + 19 = 116 from rfl, x116] at h; cases h
  · have e : c = 64 + (62 + (c - 126)) := by omega
    have : ∀ i, i < 10 → ¬ ((kdA (tA TT (62 + i))).1 = 4 ∧ ((kdA (tA TT (62 + i))).2.1 = 3 ∨ (kdA (tA TT (62 + i))).2.1 = 2)) := by decide +kernel
    rw [e, kTT (by omega)]
    exact this (c - 126) (by omega)
  · rw [KX (b := 63) (by decide)]
    have : ∀ i, i < 5 → (rsA (tA TT 63)).getD i none = some (131 + i) := by decide +kernel
    exact this i hi
  · rw [show 131 + i = 64 + (67 + i) by omega]
    have : ∀ i, i < 5 → kdA (tA TT (67 + i)) = (4, 10, [1, 1, 1, 1]) := by decide +kernel
    exact WS_0 (by omega) (this i hi)
  · rw [x124] at h1; cases h1
  · rw [len_0]; exact Nat.le_refl _
theorem RS_0 : RS (cH X TT) := ⟨St_0, by rw [len_0]; exact Nat.le_refl _, fun k hk => by
  rw [show 148 + k = 64 + (84 + k) by omega, kTT (by omega)]
  exact kRf_ok k hk⟩
theorem a0 (hb : 148 ≤ a) (ha : a < 202) {i : Nat} : xA (cH X TT) a i = ii 0 := by
  rw [show a = 64 + (a - 64) by omega]
  exact KA (by omega)
theorem i0 {k : Nat} (e : vI (fsA (tA TT 84))[k]? = ii 0) : fI (cH X TT) 148 k = ii 0 := (KI (b := 84) (by decide)).trans e
theorem RI_0 : RI (cH X TT) cs0 := by
  have o : ∀ {r i : Nat}, 149 ≤ r → r < 202 → lv (cH X TT) r i = ii 0 := fun h1 h2 => by rw [lv_x h1]; exact a0 (by omega) h2
  refine ⟨⟨RS_0, (KI (b := 84) (by decide)).trans (by decide +kernel)⟩, ⟨i0 (by decide +kernel), by decide, fun q hq => absurd hq (Nat.not_lt_zero q)⟩, ⟨i0 (by decide +kernel), by decide, fun q hq => absurd hq (Nat.not_lt_zero q)⟩, ⟨i0 (by decide +kernel), by decide, fun q hq => absurd hq (Nat.not_lt_zero q)⟩, ⟨⟨⟨o (by decide) (by decide), o (by decide) (by decide), o (by decide) (by decide), o (by decide) (by decide), o (by decide) (by decide)⟩, fun q hq => absurd hq (Nat.not_lt_zero q), fun q hq => absurd hq (Nat.not_lt_zero q), fun q hq => absurd hq (Nat.not_lt_zero q), fun q hq => absurd hq (Nat.not_lt_zero q)⟩, ⟨⟨o (by decide) (by decide), o (by decide) (by decide)⟩, fun q hq => absurd hq (Nat.not_lt_zero q), ?_⟩, ⟨(show fI (cH X TT) 148 59 = ii 0 from i0 (by decide +kernel)), by decide, fun q hq => absurd hq (Nat.not_lt_zero q)⟩, ⟨o (by decide) (by decide), by decide, fun q hq => absurd hq (Nat.not_lt_zero q)⟩, o (by decide) (by decide)⟩, fun k hk => Or.inl ⟨a0 (by decide) (by decide), rfl⟩⟩
  refine rw8_ext (fun k j hk hj => ?_) (fun w _ => rfl)
  rw [o (by decide) (by decide), wb_0]
  rfl
end Cp
