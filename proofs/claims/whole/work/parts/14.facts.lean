def mTB : List Cond := lw_tbl.filter goodWord
theorem mTB_in {w : Cond} (h : w ∈ lw_tbl) (hg : goodWord w = true) : w ∈ mTB := List.mem_filter.mpr ⟨h, hg⟩
def mNests : List (Nat × Nat × Nat) := [(11, 9, 96), (8, 17, 115), (11, 15, 53), (4, 11, 29), (3, 21, 115), (0, 13, 115), (11, 86, 29), (7, 33, 115)]
def mStrs : List (Nat × Nat × Nat) := [(9, 60, 2), (12, 313, 3), (12, 201, 4), (12, 315, 5), (12, 317, 6), (12, 319, 7), (12, 296, 8), (12, 374, 9), (12, 376, 10), (12, 378, 11), (12, 380, 12), (12, 382, 13), (12, 384, 14), (12, 386, 15), (12, 388, 16), (12, 309, 17), (12, 311, 18), (12, 417, 19), (12, 203, 20), (12, 204, 21), (12, 205, 22), (12, 207, 23), (12, 209, 24), (12, 211, 25), (12, 213, 26), (12, 215, 27), (12, 217, 28), (12, 419, 29)]
theorem mCl_get {c : Nat} {r : vw_C} (h : mCl[c]? = some r) : r = (mOw c, mT c, mNf c) ∧ c < 13 := by
  match c, h with
  | 0, h => cases h; exact ⟨rfl, by decide⟩
  | 1, h => cases h; exact ⟨rfl, by decide⟩
  | 2, h => cases h; exact ⟨rfl, by decide⟩
  | 3, h => cases h; exact ⟨rfl, by decide⟩
  | 4, h => cases h; exact ⟨rfl, by decide⟩
  | 5, h => cases h; exact ⟨rfl, by decide⟩
  | 6, h => cases h; exact ⟨rfl, by decide⟩
  | 7, h => cases h; exact ⟨rfl, by decide⟩
  | 8, h => cases h; exact ⟨rfl, by decide⟩
  | 9, h => cases h; exact ⟨rfl, by decide⟩
  | 10, h => cases h; exact ⟨rfl, by decide⟩
  | 11, h => cases h; exact ⟨rfl, by decide⟩
  | 12, h => cases h; exact ⟨rfl, by decide⟩
  | n + 13, h => cases h
theorem mCl_at {c : Nat} (h : c < 13) : mCl[c]? = some (mOw c, mT c, mNf c) := by
  match c, h with
  | 0, _ => rfl
  | 1, _ => rfl
  | 2, _ => rfl
  | 3, _ => rfl
  | 4, _ => rfl
  | 5, _ => rfl
  | 6, _ => rfl
  | 7, _ => rfl
  | 8, _ => rfl
  | 9, _ => rfl
  | 10, _ => rfl
  | 11, _ => rfl
  | 12, _ => rfl
  | n + 13, h => omega
theorem mLay_0 : ∀ w ∈ u_ws (mOw 0) (mT 0) (mNf 0), w ∈ lw_tbl := by decide +kernel
theorem mLay_1 : ∀ w ∈ u_ws (mOw 1) (mT 1) (mNf 1), w ∈ lw_tbl := by decide +kernel
theorem mLay_2 : ∀ w ∈ u_ws (mOw 2) (mT 2) (mNf 2), w ∈ lw_tbl := by decide +kernel
theorem mLay_3 : ∀ w ∈ u_ws (mOw 3) (mT 3) (mNf 3), w ∈ lw_tbl := by decide +kernel
theorem mLay_4 : ∀ w ∈ u_ws (mOw 4) (mT 4) (mNf 4), w ∈ lw_tbl := by decide +kernel
theorem mLay_5 : ∀ w ∈ u_ws (mOw 5) (mT 5) (mNf 5), w ∈ lw_tbl := by decide +kernel
theorem mLay_6 : ∀ w ∈ u_ws (mOw 6) (mT 6) (mNf 6), w ∈ lw_tbl := by decide +kernel
theorem mLay_7 : ∀ w ∈ u_ws (mOw 7) (mT 7) (mNf 7), w ∈ lw_tbl := by decide +kernel
theorem mLay_8 : ∀ w ∈ u_ws (mOw 8) (mT 8) (mNf 8), w ∈ lw_tbl := by decide +kernel
theorem mLay_9 : ∀ w ∈ u_ws (mOw 9) (mT 9) (mNf 9), w ∈ lw_tbl := by decide +kernel
theorem mLay_10 : ∀ w ∈ u_ws (mOw 10) (mT 10) (mNf 10), w ∈ lw_tbl := by decide +kernel
theorem mLay_11 : ∀ w ∈ u_ws (mOw 11) (mT 11) (mNf 11), w ∈ lw_tbl := by decide +kernel
theorem mLay_12 : ∀ w ∈ u_ws (mOw 12) (mT 12) (mNf 12), w ∈ lw_tbl := by decide +kernel
theorem mLay_good {C : String} {T : u_T} {N : Nat} : ∀ w ∈ u_ws C T N, goodWord w = true := by
  intro w hw
  unfold u_ws at hw
  obtain ⟨k, -, rfl⟩ := List.mem_map.mp hw
  unfold u_lay
  split <;> rfl
theorem mLay {c : Nat} (h : c < 13) : ∀ w ∈ u_ws (mOw c) (mT c) (mNf c), w ∈ mTB := by
  intro w hw
  refine mTB_in ?_ (mLay_good w hw)
  match c, h with
  | 0, _ => exact mLay_0 w hw
  | 1, _ => exact mLay_1 w hw
  | 2, _ => exact mLay_2 w hw
  | 3, _ => exact mLay_3 w hw
  | 4, _ => exact mLay_4 w hw
  | 5, _ => exact mLay_5 w hw
  | 6, _ => exact mLay_6 w hw
  | 7, _ => exact mLay_7 w hw
  | 8, _ => exact mLay_8 w hw
  | 9, _ => exact mLay_9 w hw
  | 10, _ => exact mLay_10 w hw
  | 11, _ => exact mLay_11 w hw
  | 12, _ => exact mLay_12 w hw
  | n + 13, h => omega
theorem mTyok {c : Nat} (h : c < 13) : ∀ k, k < mNf c → parseFieldDescriptor (mT c k).2.2.1 = some (mTy c k) := by
  match c, h with
  | 0, _ => exact tyX0_ok
  | 1, _ => exact tyX1_ok
  | 2, _ => exact tyX2_ok
  | 3, _ => exact tyX3_ok
  | 4, _ => exact tyX4_ok
  | 5, _ => exact tyX5_ok
  | 6, _ => exact tyX6_ok
  | 7, _ => exact tyX7_ok
  | 8, _ => exact tyX8_ok
  | 9, _ => exact tyX9_ok
  | 10, _ => exact tyX10_ok
  | 11, _ => exact tyX11_ok
  | 12, _ => exact tyX12_ok
  | n + 13, h => omega
theorem mNmok {c : Nat} (h : c < 13) : ∀ a, a < mNf c → ∀ b, b < mNf c → a ≠ b → (mT c a).2.1 ≠ (mT c b).2.1 := by
  match c, h with
  | 0, _ => exact nmX0
  | 1, _ => exact nmX1
  | 2, _ => exact nmX2
  | 3, _ => exact nmX3
  | 4, _ => exact nmX4
  | 5, _ => exact nmX5
  | 6, _ => exact nmX6
  | 7, _ => exact nmX7
  | 8, _ => exact nmX8
  | 9, _ => exact nmX9
  | 10, _ => exact nmX10
  | 11, _ => exact nmX11
  | 12, _ => exact nmX12
  | n + 13, h => omega
theorem mDecl : ∀ c, c < 13 → ∀ k, k < mNf c → (mT c k).1 = mOw c := by decide +kernel
theorem mInst : ∀ c, c < 13 → Cond.instantiable (mOw c) (mNf c) ∈ lw_tbl ∧ Cond.initialized (mOw c) ∈ lw_tbl := by decide +kernel
def mPfk (q : Nat × Nat × Instr × Nat) : Bool := match q.2.2.1 with
  | .getfield f => decide ((f / 128 < 13 ∧ f % 128 < mNf (f / 128)) ∨ (f / 128 = 16 ∧ f % 128 < 2))
  | .new c => decide (c < 13)
  | .jsr a => decide ((q.1, q.2.1, a.toNat) ∈ mStrs ∧ a.toNat < 64)
  | .invokevirtual f => decide (f / 512 < 328 ∧ f / 16 % 32 = mOn (f / 512) ∧ mKi (f / 512) = 1 ∧ f % 16 = mAr (f / 512))
  | .invokespecial f => decide (f / 512 < 328 ∧ f / 16 % 32 = mOn (f / 512) ∧ mKi (f / 512) = 2 ∧ f % 16 = mAr (f / 512))
  | .invokestatic f => decide (f / 512 < 328 ∧ f / 16 % 32 = mOn (f / 512) ∧ mKi (f / 512) = 0 ∧ f % 16 = mAr (f / 512))
  | _ => true
theorem mPfk_all : mPools.all (fun l => l.all mPfk) = true := by decide +kernel
theorem mPl_fk {o k : Nat} {i : Instr} (h : mPl o k = some i) : mPfk (o, k, i, 0) = true := by
  unfold mPl at h
  split at h
  · rename_i q hq
    cases h
    have h1 := List.find?_some hq
    have h2 := List.mem_of_find?_eq_some hq
    unfold mPool at h2
    obtain ⟨l, h3, h4⟩ := List.mem_flatten.mp h2
    have h5 := List.all_eq_true.mp (List.all_eq_true.mp mPfk_all l h3) q h4
    obtain ⟨a, b, i, d⟩ := q
    simp only [Bool.and_eq_true, beq_iff_eq] at h1
    obtain ⟨rfl, rfl⟩ := h1
    exact h5
  · cases h
/-- what a state's tables say, beside the words: classes, nest mates, rows of references, String constants -/
def mKs (G : mG) (U : State) : Prop := va_K (gD G) mCl (mTys G) U ∧ (∀ q ∈ mNests, va_Nw (.methodLinkNest (mOw q.1) q.2.1 (mNm q.2.2) "TruthBridge") U) ∧ (va_AO RX10 U ∧ va_AO RX3 U ∧ va_AO RX5 U ∧ va_AO RX4 U) ∧ va_Nw (.castable "[I" "java/lang/Cloneable") U ∧ ∀ q ∈ mStrs, ∃ t, gS G q.2.2 = .ref t ∧ vk_R (mOw q.1) q.2.1 (mTx q.2.2) t U
theorem mKs.warm {G : mG} {s U : State} (hW : s.WarmedH U.vm) (h : mKs G s) : mKs G U := by
  obtain ⟨h1, h2, ⟨h3, h4, h5, h6⟩, h7, h8⟩ := h
  exact ⟨va_K.moved hW.alike h1, fun q hq => va_Nw.warmM hW (h2 q hq), ⟨va_AO.moved hW.alike h3, va_AO.moved hW.alike h4, va_AO.moved hW.alike h5, va_AO.moved hW.alike h6⟩, va_Nw.warmC hW h7, fun q hq => by
    obtain ⟨t, g1, g2⟩ := h8 q hq
    exact ⟨t, g1, g2.warm hW⟩⟩
theorem mKs.same {G : mG} {s U : State} (hv : s.vm = U.vm) (h : mKs G s) : mKs G U := by
  obtain ⟨h1, h2, ⟨h3, h4, h5, h6⟩, h7, h8⟩ := h
  have ha : s.vm.Alike U.vm := by rw [hv]; exact Vm.Alike.refl _
  exact ⟨va_K.moved ha h1, fun q hq => va_Nw.same rfl hv (h2 q hq), ⟨va_AO.moved ha h3, va_AO.moved ha h4, va_AO.moved ha h5, va_AO.moved ha h6⟩, va_Nw.same rfl hv h7, fun q hq => by
    obtain ⟨t, g1, g2⟩ := h8 q hq
    exact ⟨t, g1, g2.same hv.symm⟩⟩
/-- the static cells -/
def mStat1 (G : mG) (a : Nat) (x : mCell) (U : State) (H : Heap) : Prop := match x with
  | .inl q => (q.1 = .int ∨ q.1 = .byte) ∧ ∃ t, gS G a = .ref t ∧ va_T q.1 t q.2.length (fun j => .int (q.2.getD j 0)) (mA G) U H
  | .inr (.inl q) => ∃ t, gS G a = .ref t ∧ va_T .long t q.length (fun j => .long (q.getD j 0)) (mA G) U H
  | .inr (.inr (.inl _)) => False
  | .inr (.inr (.inr q)) => (q.2 = [] ∧ q.1 = 99) ∨ (q.1 = 16 ∧ ∃ t, gS G a = .ref t ∧ va_O "java/lang/String" t (mA G) U H ∧ ∀ k v, q.2[k]? = some v → va_OF "java/lang/String" (mStrT k).2.1 (mStrT k).2.2.1 (mV G v) t (mA G) U H)
def mSF (G : mG) (S0 : mHeap) (U : State) (H : Heap) : Prop := (∀ (a : Nat) (x : mCell), a < 64 → S0[a]? = some x → mStat1 G a x U H) ∧ va_Z "TruthBridge$Worlds" "LOW_FACTS" "[J" (mRho G 1) (mA G) U H ∧ va_Z "java/lang/String" "COMPACT_STRINGS" "Z" (.int 1) (mA G) U H ∧ va_Z "jdk/internal/util/Preconditions" "SIOOBE_FORMATTER" "Ljava/util/function/BiFunction;" (mRho G 63) (mA G) U H
theorem mSF.moved {G : mG} {S0 : mHeap} {u U : State} {H : Heap} (hvm : u.vm.Alike U.vm) (h : mSF G S0 u H) : mSF G S0 U H := by
  obtain ⟨h1, h2, h3, h4⟩ := h
  refine ⟨fun a x ha hx => ?_, h2.moved hvm, h3.moved hvm, h4.moved hvm⟩
  have h5 := h1 a x ha hx
  match x, h5 with
  | .inl q, ⟨g0, t, g1, g2⟩ => exact ⟨g0, t, g1, g2.moved hvm⟩
  | .inr (.inl q), ⟨t, g1, g2⟩ => exact ⟨t, g1, g2.moved hvm⟩
  | .inr (.inr (.inr q)), Or.inl g => exact Or.inl g
  | .inr (.inr (.inr q)), Or.inr ⟨g0, t, g1, g2, g3⟩ => exact Or.inr ⟨g0, t, g1, g2.moved hvm, fun k v hv => (g3 k v hv).moved hvm⟩
theorem mSF.kept {G : mG} {S0 : mHeap} {U : State} {H H1 : Heap} (h : mSF G S0 U H) (hq : ∀ a : Nat, a < H.size → ¬ mA G a → H1[a]? = H[a]?) : mSF G S0 U H1 := by
  obtain ⟨h1, h2, h3, h4⟩ := h
  refine ⟨fun a x ha hx => ?_, h2.kept hq, h3.kept hq, h4.kept hq⟩
  have h5 := h1 a x ha hx
  match x, h5 with
  | .inl q, ⟨g0, t, g1, g2⟩ => exact ⟨g0, t, g1, g2.kept hq⟩
  | .inr (.inl q), ⟨t, g1, g2⟩ => exact ⟨t, g1, g2.kept hq⟩
  | .inr (.inr (.inr q)), Or.inl g => exact Or.inl g
  | .inr (.inr (.inr q)), Or.inr ⟨g0, t, g1, g2, g3⟩ => exact Or.inr ⟨g0, t, g1, g2.kept hq, fun k v hv => (g3 k v hv).kept hq⟩
/-- what a method of class o knows in its frame -/
def mCtx (G : mG) (S0 : mHeap) (o nL : Nat) (p : Program) (s : State) (m : MethodId) (args : Array Value) (c : Code) (cc : ByteArray) : Prop :=
  p.tables.exec = Jvm.exec ∧ c.code = cc ∧ c.maxLocals = nL ∧ s.vm.findClass (mOw o) = some m.cls ∧ (∀ w ∈ mTB, w.before args s = true) ∧ mGok G ∧ mKs G s ∧ mSF G S0 s s.heap ∧ gB G ≤ s.heap.size
