/-! THE REFERENCE'S REGION: its kinds stay as they are, in every run of its own methods -/
def K148 : List Nat := [0, 152, 153, 154, 155, 156, 157, 158, 159, 160, 161, 162, 163, 164, 165, 166, 167, 168, 169, 170, 171, 172, 173, 174, 175, 176, 177, 0, 0, 0, 0, 0, 0, 0, 0, 0, 0, 0, 178, 179, 180, 181, 182, 183, 184, 185, 186, 187, 188, 189, 190, 0, 0, 0, 191, 192, 193, 194, 195, 0, 0, 0, 196, 197, 198, 199, 200, 0, 0, 201, 202, 0, 0, 203, 204, 0, 0]
def kRef : List mKd := [(4, 12, K148), (1, 1, [9]), (1, 1, [6]), (1, 1, [6]), (1, 1, [6]), (1, 1, [6]), (1, 1, [6]), (1, 1, [6]), (1, 1, [10]), (1, 1, [10]), (1, 1, [10]), (1, 1, [8]), (1, 1, [8]), (1, 1, [10]), (1, 1, [10]), (1, 1, [56]), (1, 1, [6]), (1, 1, [6]), (1, 1, [6]), (1, 1, [6]), (1, 1, [6]), (1, 1, [6]), (1, 1, [10]), (1, 1, [10]), (1, 1, [10]), (1, 1, [8]), (1, 1, [8]), (1, 2, [400]), (1, 1, [1800]), (1, 1, [1800]), (1, 1, [6]), (1, 1, [72]), (1, 1, [72]), (1, 1, [72]), (1, 1, [402]), (1, 1, [192]), (1, 1, [88]), (1, 1, [88]), (1, 1, [8]), (1, 1, [11]), (2, 0, [10]), (2, 0, [300]), (1, 1, [36]), (1, 1, [1520]), (1, 1, [1]), (1, 1, [8]), (1, 1, [6]), (1, 1, [5]), (1, 1, [5]), (1, 1, [40]), (1, 1, [384]), (1, 1, [24]), (1, 1, [8800]), (1, 3, [4])]
def kCls : List mKd := [(4, 11, [68, 121, 122, 72, 126, 0, 100, 127, 128, 139]), (4, 9, [69, 0, 0, 70, 71, 0, 0]), (1, 2, [400]), (1, 1, [401]), (1, 1, [401]), (4, 8, [73, 0, 74, 75, 0, 0, 0]), (3, 10, [24]), (4, 10, [1, 1, 1, 1]), (1, 1, [24]), (4, 10, [1, 1, 1, 1]), (4, 10, [1, 1, 1, 1]), (4, 10, [1, 1, 1, 1]), (4, 10, [1, 1, 1, 1]), (4, 10, [1, 1, 1, 1]), (4, 10, [1, 1, 1, 1]), (4, 10, [1, 1, 1, 1]), (4, 10, [1, 1, 1, 1]), (4, 10, [1, 1, 1, 1]), (4, 10, [1, 1, 1, 1]), (4, 10, [1, 1, 1, 1]), (4, 10, [1, 1, 1, 1]), (4, 10, [1, 1, 1, 1]), (4, 10, [1, 1, 1, 1]), (4, 10, [1, 1, 1, 1]), (4, 10, [1, 1, 1, 1]), (4, 10, [1, 1, 1, 1]), (4, 10, [1, 1, 1, 1]), (4, 10, [1, 1, 1, 1]), (4, 10, [1, 1, 1, 1]), (4, 10, [1, 1, 1, 1]), (4, 10, [1, 1, 1, 1]), (4, 10, [1, 1, 1, 1]), (4, 10, [1, 1, 1, 1]), (4, 4, [101, 109, 119, 0, 0, 120, 0, 0]), (4, 2, [0, 0, 0, 0, 102, 103, 104, 0, 105, 0, 106, 0, 107, 108]), (1, 1, [6]), (1, 1, [6]), (1, 1, [6]), (1, 1, [6]), (1, 1, [36]), (1, 1, [8]), (1, 1, [8]), (4, 3, [0, 0, 0, 0, 110, 111]), (1, 1, [6]), (3, 10, [7]), (4, 10, [1, 1, 1, 1]), (4, 10, [1, 1, 1, 1]), (4, 10, [1, 1, 1, 1]), (4, 10, [1, 1, 1, 1]), (4, 10, [1, 1, 1, 1]), (4, 10, [1, 1, 1, 1]), (4, 10, [1, 1, 1, 1]), (3, 3, [20]), (1, 1, [10]), (4, 7, [68, 0]), (4, 6, [68, 123, 0, 0, 0, 124, 125]), (1, 1, [400]), (1, 1, [13]), (1, 1, [12]), (3, 5, [6]), (3, 4, [4]), (4, 0, [100, 72, 129, 130, 131, 132, 0, 133]), (4, 10, [1, 1, 1, 1]), (3, 10, [5]), (1, 1, [4]), (1, 1, [4]), (1, 1, [4096]), (4, 10, [1, 1, 1, 1]), (4, 10, [1, 1, 1, 1]), (4, 10, [1, 1, 1, 1]), (4, 10, [1, 1, 1, 1]), (4, 10, [1, 1, 1, 1]), (4, 1, [100, 72, 140, 141, 0, 0, 0]), (2, 0, [10]), (4, 3, [0, 0, 0, 0, 142, 143]), (1, 1, [6]), (3, 10, [7]), (4, 10, [1, 1, 1, 1]), (4, 10, [1, 1, 1, 1]), (4, 10, [1, 1, 1, 1]), (4, 10, [1, 1, 1, 1]), (4, 10, [1, 1, 1, 1]), (4, 10, [1, 1, 1, 1]), (4, 10, [1, 1, 1, 1])]
def rP (a : Nat) : Prop := 148 ≤ a ∧ a < 202
/-- the statics, and the kinds of the reference's cells -/
def RS (h : mHeap) : Prop := (∃ X, ∀ a, a < 64 → h[a]? = (mS0 X)[a]?) ∧ 202 ≤ h.length ∧ ∀ k, k < 54 → kd h (148 + k) = kRef.getD k (0, 0, [])
def refM (m : Nat) : Bool := (Nat.ble 183 m && Nat.ble m 316) || (Nat.ble 319 m && Nat.ble m 324) || Nat.beq m 327
def refI (i : Instr) : Bool := match i with
  | .newarray _ => false
  | .anewarray _ => false
  | .new _ => false
  | .invokedynamic _ => false
  | .aastore => false
  | .putfield q => Nat.beq (q / 128) 12 && Nat.beq (fTag 12 (q % 128)) 0
  | .invokevirtual q => refM (q / 512)
  | .invokespecial q => refM (q / 512)
  | .invokestatic q => refM (q / 512)
  | _ => true
theorem ref_all : (List.range 329).all (fun m => !refM m || (mCodes.getD m []).all (fun e => refI e.2.1)) = true := by decide +kernel
set_option maxRecDepth 100000 in
theorem mCodes_len : mCodes.length = 329 := rfl
theorem rP_ex {a : Nat} (h : rP a) : ∃ k, k < 54 ∧ a = 148 + k := ⟨a - 148, by have := h.1; have := h.2; omega, by have := h.1; omega⟩
theorem refI_at {m pc nx : Nat} {i : Instr} (hm : refM m = true) (hf : mFetch m pc = some (i, nx)) : refI i = true := by
  obtain ⟨c, hc, hi⟩ := mFetch_mem hf
  have hl : m < 329 := mCodes_len ▸ (List.getElem?_eq_some_iff.mp hc).1
  have h1 := List.all_eq_true.mp ref_all m (List.mem_range.mpr hl)
  rw [hm, List.getD_eq_getElem?_getD, hc] at h1
  exact List.all_eq_true.mp h1 _ hi
theorem K148_tags : ∀ k, k < 77 → fTag 12 k = 0 → K148[k]? = some 0 := by decide +kernel
theorem K148_refs : ∀ n ∈ K148, n < 3 ∨ (151 ≤ n ∧ n < 205) := by decide +kernel
theorem kRef_obj : ∀ k, k < 54 → (kRef.getD k (0, 0, [])).1 = 4 → k = 0 := by decide +kernel
theorem kRef_no3 : ∀ k, k < 54 → ¬ (kRef.getD k (0, 0, [])).1 = 3 := by decide +kernel
theorem RS_set {h : mHeap} {a : Nat} {x y : mCell} (hR : RS h) (ha : 64 ≤ a) (hy : h[a]? = some y) (hk : kdC x = kdC y) : RS (h.set a x) := by
  obtain ⟨⟨X, h1⟩, h2, h3⟩ := hR
  refine ⟨⟨X, fun b hb => ?_⟩, by rw [List.length_set]; exact h2, fun k hk' => ?_⟩
  · rw [List.getElem?_set_ne (by omega)]
    exact h1 b hb
  · rw [← h3 k hk']
    by_cases q : a = 148 + k
    · rw [← q, kd_some hy, kd_some (x := x) (by rw [List.getElem?_set_self (List.getElem?_eq_some_iff.mp hy).1]), hk]
    · unfold kd
      rw [List.getElem?_set_ne q]
theorem S0_safe {P : Nat → Prop} {X : List Int32} {a : Nat} {x : mCell} (ha : a < 64) (hx : (mS0 X)[a]? = some x) : sX P x := by
  by_cases h0 : a = 0
  · subst h0; cases hx; trivial
  · by_cases h1 : a = 1
    · subst h1; cases hx; trivial
    · by_cases h2 : a < 30
      · obtain ⟨i, rfl⟩ : ∃ i, a = 2 + i := ⟨a - 2, by omega⟩
        rw [mS0_str X (by omega)] at hx
        cases hx
        intro v hv
        simp only [List.mem_cons, List.not_mem_nil, or_false] at hv
        rcases hv with rfl | rfl
        · exact sv_st (by omega)
        · exact sv_int
      · by_cases h3 : a < 58
        · obtain ⟨i, rfl⟩ : ∃ i, a = 30 + i := ⟨a - 30, by omega⟩
          rw [mS0_byt X (by omega)] at hx
          cases hx
          trivial
        · obtain ⟨i, rfl⟩ : ∃ i, a = 58 + i := ⟨a - 58, by omega⟩
          rw [mS0_end X (by omega)] at hx
          cases hx
          intro v hv
          cases hv
theorem RS_sH {h : mHeap} (hR : RS h) : sH rP h := by
  obtain ⟨⟨X, h1⟩, h2, h3⟩ := hR
  intro a x ha hx
  rcases ha with ⟨g1, g2⟩ | ha
  · have hk := h3 (a - 148) (by omega)
    rw [show 148 + (a - 148) = a by omega, kd_some hx] at hk
    match x, hx, hk with
    | .inl _, _, _ => trivial
    | .inr (.inl _), _, _ => trivial
    | .inr (.inr (.inl _)), _, hk =>
      exact absurd (by rw [← hk]; rfl) (kRef_no3 (a - 148) (by omega))
    | .inr (.inr (.inr (c, fs))), _, hk =>
      have h0 := kRef_obj (a - 148) (by omega) (by rw [← hk]; rfl)
      rw [h0] at hk
      have hk : ((4, c, fs.map tgV) : mKd) = (4, 12, K148) := hk
      injection hk with _ hk
      injection hk with _ hk
      intro v hv b e
      subst e
      have : b + 3 ∈ K148 := by rw [← hk]; exact List.mem_map.mpr ⟨_, hv, rfl⟩
      rcases K148_refs _ this with q | q
      · omega
      · exact Or.inl ⟨by omega, by omega⟩
  · rw [h1 a ha] at hx
    exact S0_safe ha hx
set_option maxRecDepth 100000 in
set_option maxHeartbeats 8000000 in
theorem mStep_ref {N : Nat} {rt : Option FieldType} {i : Instr} {nx pc1 : Nat} {L L1 : mLoc} {st st1 : List Value} {h h1 : mHeap} (hst : mStep mTy mNf rt i nx L st h = some (.inl (pc1, L1, st1, h1))) (hi : refI i = true) (hS : sS (fun a => rP a ∨ N ≤ a) st) (hN : h.length = N) (hR : RS h) : RS h1 ∧ h1.length = h.length ∧ mSlots h1 = mSlots h := by
  cases i with
  | newarray t => cases hi
  | anewarray c => cases hi
  | new c => cases hi
  | invokedynamic k => cases hi
  | aastore => cases hi
  | putfield q =>
    simp only [mStep] at hst
    split at hst
    · rename_i v a st'
      split at hst
      · rename_i c fs hh
        split at hst
        · rename_i hc
          cases hst
          simp only [sS_cons] at hS
          obtain ⟨hc0, hc1, hc2, hc3⟩ := hc
          have hP : rP a := by
            rcases sv_ref64 hS.2.1 hc0 with q | q
            · exact q
            · have := (List.getElem?_eq_some_iff.mp hh).1
              exact absurd q (Nat.not_le.mpr (hN ▸ this))
          obtain ⟨k0, hk0, rfl⟩ := rP_ex hP
          have i1 : q / 128 = 12 := Nat.eq_of_beq_eq_true (Bool.and_eq_true_iff.mp hi).1
          have i2 : fTag 12 (q % 128) = 0 := Nat.eq_of_beq_eq_true (Bool.and_eq_true_iff.mp hi).2
          have hk := hR.2.2 k0 hk0
          rw [kd_some hh] at hk
          have h0 := kRef_obj k0 hk0 (by rw [← hk]; rfl)
          rw [h0] at hk
          have hk : ((4, c, fs.map tgV) : mKd) = (4, 12, K148) := hk
          injection hk with _ hk
          injection hk with _ hk
          have hl : q % 128 < 77 := by
            have : fs.length = 77 := by
              have := congrArg List.length hk
              rw [List.length_map] at this
              exact this
            omega
          have ht := K148_tags _ hl i2
          rw [← hk, List.getElem?_map, List.getElem?_eq_getElem hc2] at ht
          have ht : tgV fs[q % 128] = 0 := Option.some.inj ht
          have hv : tgV v = 0 := by
            rw [hc1, i1] at hc3
            unfold fTag at i2
            rw [if_neg (by decide)] at i2
            generalize mTy 12 (q % 128) = ty at i2 hc3
            cases ty <;> first | (cases i2; done) | (cases v <;> first | rfl | (cases hc3; done))
          have hke : kdC (mO c (fs.set (q % 128) v)) = kdC (mO c fs) := by
            show ((4, c, (fs.set (q % 128) v).map tgV) : mKd) = (4, c, fs.map tgV)
            rw [List.map_set, hv, ← ht]
            have e : (fs.map tgV).set (q % 128) (tgV fs[q % 128]) = fs.map tgV := by
              have e2 : tgV fs[q % 128] = (fs.map tgV)[q % 128]'(by rw [List.length_map]; exact hc2) := by rw [List.getElem_map]
              rw [e2, List.set_getElem_self]
            rw [e]
          exact ⟨RS_set hR hc0 hh hke, List.length_set, sl_set hh (by simp [mSz, mO])⟩
        · cases hst
      · cases hst
    · cases hst
  | iastore =>
    simp only [mStep] at hst
    split at hst
    · split at hst
      · rename_i xs hh
        split at hst
        · rename_i hc
          cases hst
          exact ⟨RS_set hR hc.1 hh (by simp [kdC, mI]), List.length_set, sl_set hh (by simp [mSz, mI])⟩
        · cases hst
      · cases hst
    · cases hst
  | bastore =>
    simp only [mStep] at hst
    split at hst
    · split at hst
      · rename_i xs hh
        split at hst
        · rename_i hc
          cases hst
          exact ⟨RS_set hR hc.1 hh (by simp [kdC, mI]), List.length_set, sl_set hh (by simp [mSz, mI])⟩
        · cases hst
      · rename_i xs hh
        split at hst
        · rename_i hc
          cases hst
          exact ⟨RS_set hR hc.1 hh (by simp [kdC, mI]), List.length_set, sl_set hh (by simp [mSz, mI])⟩
        · cases hst
      · cases hst
    · cases hst
  | lastore =>
    simp only [mStep] at hst
    split at hst
    · split at hst
      · rename_i xs hh
        split at hst
        · rename_i hc
          cases hst
          exact ⟨RS_set hR hc.1 hh (by simp [kdC, mJ]), List.length_set, sl_set hh (by simp [mSz, mJ])⟩
        · cases hst
      · cases hst
    · cases hst
  | iconst n => cases hst; exact ⟨hR, rfl, rfl⟩
  | jsr n => cases hst; exact ⟨hR, rfl, rfl⟩
  | jsr_w n => cases hst; exact ⟨hR, rfl, rfl⟩
  | aconst_null => cases hst; exact ⟨hR, rfl, rfl⟩
  | goto t => cases hst; exact ⟨hR, rfl, rfl⟩
  | _ =>
    first
    | (exact nomatch (show (none : Option mRes) = _ from hst))
    | (simp only [mStep] at hst
       (repeat' split at hst) <;> first | (exact nomatch (show (none : Option mRes) = _ from hst)) | (cases hst <;> exact ⟨hR, rfl, rfl⟩))
theorem mStep_q {rt : Option FieldType} {i : Instr} {nx q : Nat} {L : mLoc} {st as rest : List Value} {h : mHeap} (hst : mStep mTy mNf rt i nx L st h = some (.inr (.inr (q, as, rest)))) (hi : refI i = true) : refM (q / 512) = true := by
  cases i with
  | invokevirtual f =>
    simp only [mStep] at hst
    (repeat' split at hst) <;> first | (cases hst; exact hi) | cases hst
  | invokespecial f =>
    simp only [mStep] at hst
    (repeat' split at hst) <;> first | (cases hst; exact hi) | cases hst
  | invokestatic f =>
    simp only [mStep] at hst
    (repeat' split at hst) <;> first | (cases hst; exact hi) | cases hst
  | newarray t => cases hi
  | anewarray c => cases hi
  | new c => cases hi
  | invokedynamic k => cases hi
  | _ =>
    first
    | (exact nomatch (show (none : Option mRes) = _ from hst))
    | (simp only [mStep] at hst
       (repeat' split at hst) <;> first | (exact nomatch (show (none : Option mRes) = _ from hst)) | (exact nomatch hst))
/-- what a run of the reference's methods leaves as it was -/
def Out (h h1 : mHeap) : Prop := h1.length = h.length ∧ mSlots h1 = mSlots h ∧ ∀ a, ¬ rP a → h1[a]? = h[a]?
theorem Out.rf {h : mHeap} : Out h h := ⟨rfl, rfl, fun _ _ => rfl⟩
theorem Out.tr {h h1 h2 : mHeap} (a : Out h h1) (b : Out h1 h2) : Out h h2 := ⟨b.1.trans a.1, b.2.1.trans a.2.1, fun x hx => (b.2.2 x hx).trans (a.2.2 x hx)⟩
theorem RS_sH' {N : Nat} {h : mHeap} (hR : RS h) (hN : h.length = N) : sH (fun a => rP a ∨ N ≤ a) h := by
  intro a x ha hx
  have hl := (List.getElem?_eq_some_iff.mp hx).1
  have h0 := RS_sH hR a x (by
    rcases ha with (q | q) | q
    · exact Or.inl q
    · omega
    · exact Or.inr q) hx
  match x, h0 with
  | .inl _, _ => trivial
  | .inr (.inl _), _ => trivial
  | .inr (.inr (.inl _)), h0 => exact fun b hb => (h0 b hb).imp Or.inl id
  | .inr (.inr (.inr (c, fs))), h0 => exact fun v hv b e => (h0 v hv b e).imp Or.inl id
theorem tExec_ref {N : Nat} : ∀ (n d m pc : Nat) (L : mLoc) (st : List Value) (h : mHeap) (r : Option Value) (h1 : mHeap), tExec d n m pc L st h = some (r, h1) → refM m = true → sL (fun a => rP a ∨ N ≤ a) L → sS (fun a => rP a ∨ N ≤ a) st → h.length = N → RS h → RS h1 ∧ h1.length = N ∧ mSlots h1 = mSlots h ∧ (∀ w, r = some w → sv (fun a => rP a ∨ N ≤ a) w) ∧ ∀ a, ¬ (rP a ∨ N ≤ a) → h1[a]? = h[a]? := by
  intro n
  induction n with
  | zero => intro d m pc L st h r h1 hx; cases hx
  | succ n ih =>
    intro d m pc L st h r h1 hx hm hL hS hN hR
    unfold tExec at hx
    split at hx
    · cases hx
    · rename_i i nx hf
      have hj : ∀ n, i = .jsr n → n.toNat < 64 := fun n e => by subst e; exact jsr_at hf
      have hi := refI_at hm hf
      have hH := RS_sH' hR hN
      have hn : ∀ a, h.length ≤ a → (rP a ∨ N ≤ a) := fun a ha => Or.inr (hN ▸ ha)
      split at hx
      · cases hx
      · rename_i hs
        obtain ⟨g1, g2, g3, g4, g5⟩ := mStep_safe (tSt_mSt hs) hj hL hS hH hn
        obtain ⟨r1, r2, r3⟩ := mStep_ref (tSt_mSt hs) hi hS hN hR
        obtain ⟨k1, k2, k3, k4, k5⟩ := ih _ _ _ _ _ _ _ _ hx hm g1 g2 (r2.trans hN) r1
        exact ⟨k1, k2, k3.trans r3, k4, fun a ha => (k5 a ha).trans (g5 a ha)⟩
      · rename_i hs
        have g := mStep_safe (tSt_mSt hs) hj hL hS hH hn
        cases hx
        exact ⟨hR, hN, rfl, g, fun _ _ => rfl⟩
      · rename_i q as rest hs
        obtain ⟨g1, g2⟩ := mStep_safe (tSt_mSt hs) hj hL hS hH hn
        have hq := mStep_q (tSt_mSt hs) hi
        split at hx
        · cases hx
        · split at hx
          · split at hx
            · cases hx
            · rename_i v h2 hc
              obtain ⟨c1, c2, c3, c4, c5⟩ := ih _ _ _ _ _ _ _ _ hc hq (sL_pad (sL_ent _ g1)) sS_nil hN hR
              obtain ⟨k1, k2, k3, k4, k5⟩ := ih _ _ _ _ _ _ _ _ hx hm hL (by
                cases v with
                | none => exact g2
                | some w => exact sS_cons.mpr ⟨c4 w rfl, g2⟩) c2 c1
              exact ⟨k1, k2, k3.trans c3, k4, fun a ha => (k5 a ha).trans (c5 a ha)⟩
          · cases hx
theorem GoC_ref {d y : Nat} {as : List Value} {h : mHeap} {K : Option Value → mHeap → Prop} (hy : refM y = true) (hS : sS rP as) (hR : RS h) (g : GoC d y as h K) : GoC d y as h (fun r h1 => K r h1 ∧ RS h1 ∧ Out h h1) := by
  match d, g with
  | d1 + 1, ⟨hl, n, r, h1, e, q⟩ =>
    have hS' : sS (fun a => rP a ∨ h.length ≤ a) as := fun v hv a e => (hS v hv a e).imp Or.inl id
    obtain ⟨k1, k2, k3, k4, k5⟩ := tExec_ref (N := h.length) n d1 y 0 _ [] h r h1 e hy (sL_pad (sL_ent _ hS')) sS_nil rfl hR
    refine ⟨hl, n, r, h1, e, q, k1, k2, k3, fun a ha => ?_⟩
    by_cases c : h.length ≤ a
    · rw [List.getElem?_eq_none c, List.getElem?_eq_none (by rw [k2]; exact c)]
    · exact k5 a (fun q => q.elim ha c)
