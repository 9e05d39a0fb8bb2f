/-! SKELETONS AND FRAMES -/
/-- the same kinds, the same references in rows -/
def Sk (h h1 : mHeap) : Prop := (∀ c, kd h1 c = kd h c) ∧ ∀ c, xR h1 c = xR h c
/-- the same skeleton, and only the cells from lo on, n of them, may differ -/
def Fr (lo n : Nat) (h h1 : mHeap) : Prop := Sk h h1 ∧ h1.length = h.length ∧ mSlots h1 = mSlots h ∧ ∀ a, a < lo ∨ lo + n ≤ a → h1[a]? = h[a]?
section F
variable {h h1 h2 : mHeap} {a b k lo n lo' n' : Nat}
theorem Sk.rf : Sk h h := ⟨fun _ => rfl, fun _ => rfl⟩
theorem Sk.tr (x : Sk h h1) (y : Sk h1 h2) : Sk h h2 := ⟨fun c => (y.1 c).trans (x.1 c), fun c => (y.2 c).trans (x.2 c)⟩
theorem Fr.rf : Fr lo n h h := ⟨Sk.rf, rfl, rfl, fun _ _ => rfl⟩
theorem Fr.tr (x : Fr lo n h h1) (y : Fr lo n h1 h2) : Fr lo n h h2 := ⟨x.1.tr y.1, y.2.1.trans x.2.1, y.2.2.1.trans x.2.2.1, fun a ha => (y.2.2.2 a ha).trans (x.2.2.2 a ha)⟩
theorem Fr.wide (x : Fr lo n h h1) (h1' : lo' ≤ lo) (h2' : lo + n ≤ lo' + n') : Fr lo' n' h h1 := ⟨x.1, x.2.1, x.2.2.1, fun a ha => x.2.2.2 a (by omega)⟩
theorem Fr.sF {x : Int32} (e : tgK (kd h a) k = some 0) : Fr a 1 h (sF h a k (.int x)) := ⟨⟨fun _ => kd_sF e, fun _ => xR_sF⟩, len_sF, sl_sF, fun b hb => by rw [sF_get, if_neg (by omega)]⟩
theorem Fr.sI {j w : Int32} : Fr a 1 h (sI h a j w) := ⟨⟨fun _ => kd_sI, fun _ => xR_sI⟩, len_sI, sl_sI, fun b hb => by rw [sI_get, if_neg (by omega)]⟩
theorem Fr.sB {j w : Int32} : Fr a 1 h (sB h a j w) := Fr.sI
theorem Fr.sJ {j : Int32} {w : Int64} : Fr a 1 h (sJ h a j w) := ⟨⟨fun _ => kd_sJ, fun _ => xR_sJ⟩, len_sJ, sl_sJ, fun b hb => by rw [sJ_get, if_neg (by omega)]⟩
theorem Fr.pW {w : Nat → Bool} (hW : WS h a) : Fr a 1 h (pW h a w) := ⟨⟨fun _ => kd_pW hW, fun _ => xR_pW⟩, len_pW, sl_pW, fun b hb => get_pW (by omega)⟩
theorem Sk.WS (x : Sk h h1) (hW : WS h a) : WS h1 a := ⟨hW.1, by rw [x.1]; exact hW.2⟩
theorem Fr.St (x : Fr lo n h h1) (hl : 64 ≤ lo) (hS : St h) : St h1 := St_get hS fun b hb => x.2.2.2 b (by omega)
/-! what a cell that stayed shows -/
theorem same_oF (e : h1[a]? = h[a]?) : oF h1 a = oF h a := by unfold oF; rw [e]
theorem same_fI (e : h1[a]? = h[a]?) (k : Nat) : fI h1 a k = fI h a k := by unfold fI; rw [same_oF e]
theorem same_fJ (e : h1[a]? = h[a]?) (k : Nat) : fJ h1 a k = fJ h a k := by unfold fJ; rw [same_oF e]
theorem same_xA (e : h1[a]? = h[a]?) : xA h1 a = xA h a := by funext i; unfold xA aI; rw [e]
theorem same_xJ (e : h1[a]? = h[a]?) : xJ h1 a = xJ h a := by funext i; unfold xJ aJ; rw [e]
theorem same_wo (e : h1[a]? = h[a]?) : wo h1 a = wo h a := by funext i; unfold wo; rw [same_fJ e, same_fJ e, same_fJ e, same_fJ e]
theorem same_kd (e : h1[a]? = h[a]?) : kd h1 a = kd h a := by unfold kd; rw [e]
theorem same_xR (e : h1[a]? = h[a]?) : xR h1 a = xR h a := by funext i; unfold xR aR; rw [e]
end F
/-! a moment: the day, the facts that are so, sides, the fallen, hours, what is held (0 the bridge) -/
abbrev Wd : Type := Nat → Bool
abbrev Mo : Type := Nat × Nat × (Nat → Bool) × (Nat → Bool) × (Nat → Nat) × (Nat → Wd)
def mo_d (m : Mo) : Nat := m.1
def mo_f (m : Mo) : Nat := m.2.1
def mo_s (m : Mo) : Nat → Bool := m.2.2.1
def mo_l (m : Mo) : Nat → Bool := m.2.2.2.1
def mo_h (m : Mo) : Nat → Nat := m.2.2.2.2.1
def mo_w (m : Mo) : Nat → Wd := m.2.2.2.2.2
def MoS (h : mHeap) (b : Nat) : Prop := 64 ≤ b ∧ kd h b = (4, 3, [0, 0, 0, 0, b + 4, b + 5]) ∧ kd h (b + 1) = (1, 1, [6]) ∧ kd h (b + 2) = (3, 10, [7]) ∧ (∀ i, i < 7 → xR h (b + 2) i = some (b + 3 + i)) ∧ ∀ i, i < 7 → WS h (b + 3 + i)
def MoC (h : mHeap) (b : Nat) (m : Mo) : Prop := fI h b 0 = ii (mo_d m) ∧ fI h b 1 = ii (mo_f m) ∧ fI h b 2 = ii (nb (mo_s m) 6) ∧ fI h b 3 = ii (nb (mo_l m) 6) ∧ (∀ p, p < 6 → xA h (b + 1) p = ii (mo_h m p)) ∧ ∀ i, i < 7 → wo h (b + 3 + i) = mo_w m i
def MoR (h : mHeap) (b : Nat) (m : Mo) : Prop := MoS h b ∧ MoC h b m
section M
variable {d : Nat} {h h1 : mHeap} {b : Nat} {m : Mo}
theorem Sk.MoS (x : Sk h h1) (hM : MoS h b) : MoS h1 b := ⟨hM.1, by rw [x.1]; exact hM.2.1, by rw [x.1]; exact hM.2.2.1, by rw [x.1]; exact hM.2.2.2.1, fun i hi => by rw [x.2]; exact hM.2.2.2.2.1 i hi, fun i hi => x.WS (hM.2.2.2.2.2 i hi)⟩
theorem MoC_same (hM : MoC h b m) (e : ∀ a, b ≤ a → a < b + 10 → h1[a]? = h[a]?) : MoC h1 b m := by
  have e0 := e b (by omega) (by omega)
  exact ⟨by rw [same_fI e0]; exact hM.1, by rw [same_fI e0]; exact hM.2.1, by rw [same_fI e0]; exact hM.2.2.1, by rw [same_fI e0]; exact hM.2.2.2.1, fun p hp => by rw [same_xA (e (b + 1) (by omega) (by omega))]; exact hM.2.2.2.2.1 p hp, fun i hi => by rw [same_wo (e (b + 3 + i) (by omega) (by omega))]; exact hM.2.2.2.2.2 i hi⟩
theorem MoR.fr {lo n : Nat} (hM : MoR h b m) (x : Fr lo n h h1) (e : b + 10 ≤ lo ∨ lo + n ≤ b) : MoR h1 b m := ⟨x.1.MoS hM.1, MoC_same hM.2 fun a h1 h2 => x.2.2.2 a (by omega)⟩
theorem MoS_t (hM : MoS h b) {k : Nat} (hk : k < 4) : tgK (kd h b) k = some 0 := by
  rw [hM.2.1]
  match k, hk with
  | 0, _ => rfl
  | 1, _ => rfl
  | 2, _ => rfl
  | 3, _ => rfl
theorem MoS_okF (hM : MoS h b) : okF h b 3 0 0 ∧ okF h b 3 1 0 ∧ okF h b 3 2 0 ∧ okF h b 3 3 0 ∧ okF h b 3 4 2 ∧ okF h b 3 5 2 ∧ fR h b 4 = b + 1 ∧ fR h b 5 = b + 2 ∧ oC h b = 3 := by
  have hk := hM.2.1
  refine ⟨?_, ?_, ?_, ?_, ?_, ?_, ?_, ?_, oC_kd hk⟩
  · rw [okF_kd, hk]; exact ⟨rfl, rfl, rfl⟩
  · rw [okF_kd, hk]; exact ⟨rfl, rfl, rfl⟩
  · rw [okF_kd, hk]; exact ⟨rfl, rfl, rfl⟩
  · rw [okF_kd, hk]; exact ⟨rfl, rfl, rfl⟩
  · rw [okF_kd, hk]; exact ⟨rfl, rfl, rfl⟩
  · rw [okF_kd, hk]; exact ⟨rfl, rfl, rfl⟩
  · rw [fR_kd, hk]; rfl
  · rw [fR_kd, hk]; rfl
theorem MoS_okP (hM : MoS h b) {k : Nat} (hk : k < 4) : okP h b 3 k := by
  rw [okP_kd, hM.2.1]
  exact ⟨hM.1, rfl, rfl, by show k < 6; omega⟩
theorem MoS_held (hM : MoS h b) {i : Nat} (hi : i < 7) : okR h (b + 2) (ii i) ∧ eR h (b + 2) (ii i) = b + 3 + i := by
  have hx : (ii (i : Nat)).toNatClampNeg = i := by rw [ix_ii (by omega) (by omega)]; rfl
  have he : eR h (b + 2) (ii i) = b + 3 + i := by rw [eR_xR, hx, hM.2.2.2.2.1 i hi]; rfl
  refine ⟨?_, he⟩
  rw [okR_kd, hM.2.2.2.1]
  refine ⟨⟨rfl, rfl⟩, ?_, ?_⟩
  · rw [ii_lt0 (by omega) (by omega)]; omega
  · rw [hx, hM.2.2.2.2.1 i hi]
    show 64 ≤ b + 3 + i
    have := hM.1
    omega
/-- the hours' row -/
theorem MoS_hours (hM : MoS h b) {p : Nat} (hp : p < 6) : okA h (b + 1) .int (ii p) ∧ eI h (b + 1) (ii p) = xA h (b + 1) p := by
  have hx : (ii (p : Nat)).toNatClampNeg = p := by rw [ix_ii (by omega) (by omega)]; rfl
  refine ⟨?_, by rw [eI_xA, hx]⟩
  rw [okA_kd, hM.2.2.1, hx]
  refine ⟨rfl, rfl, ?_, hp⟩
  rw [ii_lt0 (by omega) (by omega)]; omega
/-- heldBy -/
theorem c46 {K : Nat → mHeap → Prop} (hM : MoS h b) {z : Int} {i : Nat} (hz : z + 1 = i) (hi : i < 7) : GoCr (d + 1) 46 [.ref b, .int (ii z)] h K ↔ K (b + 3 + i) h := by
  rw [e46, b46_0, rR_s, ii_add, hz, (MoS_okF hM).2.2.2.2.2.2.2.1]
  simp only [MoS_okF hM, MoS_held hM hi, true_and]
theorem bit_nb {s : Nat → Bool} {n p : Nat} (hn : n < 31) (hp : p < n) : shr (ii (nb s n)) (ii p) &&& ii 1 = ii (if s p = true then 1 else 0) := by
  have := nb_lt s n
  have h2 : (2 : Nat) ^ n ≤ 2 ^ 30 := Nat.pow_le_pow_right (by decide) (by omega)
  rw [bit_ii (by omega) (by omega), nb_bit]
  simp [hp]
theorem bit_n {x p : Nat} (hx : x < 2147483648) (hp : p < 32) : shr (ii x) (ii p) &&& ii 1 = ii (if x.testBit p = true then 1 else 0) := bit_ii hx hp
theorem if_b {t : Bool} : (ii (if t = true then (1 : Int) else 0) = ii 0) ↔ t = false := by
  cases t
  · simp
  · simp; decide
/-- isFact -/
theorem c47 {K : Int32 → mHeap → Prop} (hM : MoR h b m) {f : Nat} (hf : f < 8) (hv : mo_f m < 256) : GoCi (d + 1) 47 [.ref b, .int (ii f)] h K ↔ K (if (mo_f m).testBit f = true then ii 1 else ii 0) h := by
  rw [e47, b47_0]
  simp only [MoS_okF hM.1, true_and, hM.2.2.1, bit_n (show mo_f m < 2147483648 by omega) (show f < 32 by omega), if_b, rI_s]
  cases (mo_f m).testBit f <;> simp
/-- sideOf -/
theorem c48 {K : Int32 → mHeap → Prop} (hM : MoR h b m) {p : Nat} (hp : p < 6) : GoCi (d + 1) 48 [.ref b, .int (ii p)] h K ↔ K (ii (if mo_s m p = true then 1 else 0)) h := by
  rw [e48, b48_0]
  simp only [MoS_okF hM.1, true_and, hM.2.2.2.1, bit_nb (show 6 < 31 by omega) hp, rI_s]
/-- hasFallen -/
theorem c49 {K : Int32 → mHeap → Prop} (hM : MoR h b m) {p : Nat} (hp : p < 6) : GoCi (d + 1) 49 [.ref b, .int (ii p)] h K ↔ K (if mo_l m p = true then ii 1 else ii 0) h := by
  rw [e49, b49_0]
  simp only [MoS_okF hM.1, true_and, hM.2.2.2.2.1, bit_nb (show 6 < 31 by omega) hp, rI_s, if_b]
  cases mo_l m p <;> simp
end M
