def mNst (q : Nat × Nat × Instr × Nat) : Bool := match q.2.2.1 with
  | .invokespecial f => decide ((q.1, q.2.1, f / 512) ∈ mNests) || decide (lw_tbl[q.2.2.2]? = some (mWord q.1 q.2.1 q.2.2.1))
  | _ => true
theorem mNst_all : mPools.all (fun l => l.all mNst) = true := by decide +kernel
theorem mPl_nst {o k f : Nat} (h : mPl o k = some (.invokespecial f)) : (o, k, f / 512) ∈ mNests ∨ Cond.methodLink (mOw o) k (mNm (f / 512)) ∈ lw_tbl := by
  unfold mPl at h
  split at h
  · rename_i q hq
    have h0 : q.2.2.1 = .invokespecial f := Option.some.inj h
    have h1 := List.find?_some hq
    have h2 := List.mem_of_find?_eq_some hq
    unfold mPool at h2
    obtain ⟨l, h3, h4⟩ := List.mem_flatten.mp h2
    have h5 := List.all_eq_true.mp (List.all_eq_true.mp mNst_all l h3) q h4
    obtain ⟨a, b, i, d⟩ := q
    simp only [Bool.and_eq_true, beq_iff_eq] at h1
    obtain ⟨rfl, rfl⟩ := h1
    dsimp only at h0
    subst h0
    simp only [mNst, Bool.or_eq_true, decide_eq_true_eq] at h5
    rcases h5 with h5 | h5
    · exact Or.inl h5
    · exact Or.inr (List.mem_of_getElem? h5)
  · cases h
theorem mMax_all : (List.range 328).all (fun y => decide (mMax y ≤ 21)) = true := by decide +kernel
theorem mMax_le {y : Nat} (hy : y < 328) : mMax y ≤ 21 := by
  have := List.all_eq_true.mp mMax_all y (List.mem_range.mpr hy)
  simpa using this
theorem mDsc_at {y : Nat} (hy : y < 328) : (parseMethodDescriptor (mNm y).desc).map (fun d => d.parameters.length) = some (if mKi y = 0 then mAr y else mAr y - 1) := by
  have := List.all_eq_true.mp mDsc_all y (List.mem_range.mpr hy)
  exact of_decide_eq_true this
theorem mMw_spec {y : Nat} {pos : Nat × Nat × Nat × Nat} (h : mMw (mInfoAt y) pos = true) : Cond.initialized (mNm y).cls ∈ lw_tbl ∧ (mNm y).cls = mOw (mOn y) ∧ (mKi y = 0 → Cond.static (mNm y) ∈ lw_tbl) ∧ (mKi y = 1 → Cond.instanceMethod (mNm y) ∈ lw_tbl ∧ Cond.selects (mOw (mOn y)) (mNm y) (mNm y) ∈ lw_tbl ∧ (mOn y < 13 ∨ mOn y = 16)) ∧ (mKi y = 2 → Cond.instanceMethod (mNm y) ∈ lw_tbl ∧ (mNm y).name = "<init>" ∧ mRet y = none) ∧ ((mNm y).cls ≠ "java/lang/invoke/MethodHandle" ∧ (mNm y).cls ≠ "java/lang/invoke/VarHandle" ∧ Jvm.plainName (mNm y).cls = true) := by
  unfold mMw mInfoAt at h
  simp only [Bool.and_eq_true, decide_eq_true_eq] at h
  obtain ⟨⟨⟨h1, h2⟩, h3⟩, h4⟩ := h
  refine ⟨List.mem_of_getElem? h1, h2, fun hk => ?_, fun hk => ?_, fun hk => ?_, h4⟩
  · rw [hk] at h3
    simp only [decide_eq_true_eq] at h3
    exact List.mem_of_getElem? h3
  · rw [hk] at h3
    simp only [Bool.and_eq_true, decide_eq_true_eq] at h3
    exact ⟨List.mem_of_getElem? h3.1.1, List.mem_of_getElem? h3.1.2, h3.2⟩
  · rw [hk] at h3
    simp only [Bool.and_eq_true, decide_eq_true_eq] at h3
    exact ⟨List.mem_of_getElem? h3.1, h3.2.1, h3.2.2⟩
theorem mSt_split {st : List Value} {k : Nat} {v : Value} (hk : 0 < k) (h : st[k - 1]? = some v) : (st.take k).reverse = v :: (st.take (k - 1)).reverse ∧ st = st.take (k - 1) ++ v :: st.drop k ∧ (st.take (k - 1)).length = k - 1 := by
  obtain ⟨hl, hv⟩ := List.getElem?_eq_some_iff.mp h
  have e : st.take k = st.take (k - 1) ++ [v] := by
    have h1 : k = (k - 1) + 1 := by omega
    rw [h1, List.take_succ, h]
    rfl
  refine ⟨by rw [e, List.reverse_append]; rfl, ?_, by rw [List.length_take]; omega⟩
  have h2 := (List.take_append_drop k st).symm
  rw [e, List.append_assoc] at h2
  exact h2
section Call
variable {G : mG} {S0 : mHeap} {n0 z0 : Nat} {p : Program} {l : Launch} {e : Env} {R : Room} {s : State} {m : MethodId} {args : Array Value} {below : List Frame} {meth : Method} {c : Code} {Q : State → Prop} {cc : ByteArray} {o nL pc nx : Nat} {L : mLoc} {st : List Value} {h : mHeap}
/-- a method's contract out of the walk of its body -/
theorem mMet_of {y d : Nat} (hy : y < 328) (hG : mGok G) {as : List Value} {v : Option Value} {h2 : mHeap} (hlen : (mEnt as).length ≤ mMax y)
    (hc : ∀ {p : Program} {e : Env} {R : Room} {s : State} {m : MethodId} {args : Array Value} {below : List Frame} {meth : Method} {c : Code}, mCtx G S0 (mOn y) (mMax y) p s m args c (mBy y) → (mKi y = 2 → meth.name = "<init>") → d + 1 ≤ R.frames → 40 * (d + 1) ≤ R.locals → h2.length - h.length ≤ R.cells → mSlots h2 - mSlots h ≤ R.slots → meth.sig.returnType = mRet y → meth.locks = false → mW G S0 h.length (mSlots h) p l e R s m args below meth c (MQ below (fun _ => mPost G S0 h2 v) args s (h2.length - h.length) (mSlots h2 - mSlots h) (mA G)) 0 (mPad (mMax y) (mEnt as)) [] h) : mMet l G S0 d y as h v h2 := by
  obtain ⟨hcode, ⟨pos, hmw⟩, -⟩ := mLfs hy
  obtain ⟨w1, w2, w3, w4, w5, w6⟩ := mMw_spec hmw
  refine Met.ofW (cc := mBy y) (maxL := mMax y) (ret := mRet y) w6.2.2 rfl ?_
  intro p e s m args below meth c s₁ B hml hv
  obtain ⟨rfl, hH, hKs, hSF, hB⟩ := hv
  have hts := atoms_spec (ws := mWs y) B.pre
  have hown : s.vm.findClass (mNm y).cls = some m.cls := findClass_of_methodNamed B.named
  have C : mCtx G S0 (mOn y) (mMax y) p s m ((as.map (mV G)).toArray) c (mBy y) := ⟨B.exec, B.bytes, hml, by rw [← w2]; exact hown, fun w hw => hts w (List.mem_cons_of_mem _ hw), hG, hKs, hSF, hB⟩
  have hini : mKi y = 2 → meth.name = "<init>" := fun hk2 => (name_of_methodNamed B.named B.method).1.trans (w5 hk2).2.1
  rw [lg_entry_eq]
  have h9 := hc (e := e) (R := (headSpec (mWs y) (mRm d (h2.length - h.length) (mSlots h2 - mSlots h))).room) (below := below) C hini (Nat.le_refl _) (Nat.le_refl _) (Nat.le_refl _) (Nat.le_refl _) B.returns B.notSynchronized (Nat.le_refl _) (Nat.le_refl _) s.heap [] _ hH va_S.rf (mLR.entry hG hlen)
  rw [Nat.sub_self, Nat.sub_self] at h9
  exact h9
theorem mPre_at {H : Heap} {locs : List Loc} (hKs : mKs G s) (hSF : mSF G S0 s s.heap) (hB : gB G ≤ s.heap.size) (hH : mHR G S0 h H) (hS : va_S (mA G) s.heap H locs) {U : State} (hU : U.heap = H) (hW : s.WarmedH U.vm) : mPre G S0 h U := by
  refine ⟨by rw [hU]; exact hH, hKs.warm hW, ?_, by rw [hU]; exact Nat.le_trans hB hS.1⟩
  rw [hU]
  exact (mSF.moved hW.alike hSF).kept hS.2.1
end Call
