theorem cl_same : Cond.sameMethod "[I" "java/lang/Object" "clone" "()Ljava/lang/Object;" ∈ lw_tbl := List.mem_of_getElem? (i := 890) (by decide +kernel)
theorem cl_nat : Cond.native ⟨"java/lang/Object", "clone", "()Ljava/lang/Object;"⟩ ∈ lw_tbl := List.mem_of_getElem? (i := 891) (by decide +kernel)
theorem cl_inst : Cond.instanceMethod ⟨"java/lang/Object", "clone", "()Ljava/lang/Object;"⟩ ∈ lw_tbl := List.mem_of_getElem? (i := 892) (by decide +kernel)
theorem cl_sel : Cond.selects "[I" ⟨"[I", "clone", "()Ljava/lang/Object;"⟩ ⟨"java/lang/Object", "clone", "()Ljava/lang/Object;"⟩ ∈ lw_tbl := List.mem_of_getElem? (i := 893) (by decide +kernel)
theorem ac_nat : Cond.native arraycopyName ∈ lw_tbl := List.mem_of_getElem? (i := 901) (by decide +kernel)
theorem ac_stat : Cond.static arraycopyName ∈ lw_tbl := List.mem_of_getElem? (i := 900) (by decide +kernel)
theorem ac_init : Cond.initialized "java/lang/System" ∈ lw_tbl := List.mem_of_getElem? (i := 169) (by decide +kernel)
section Mk3
variable {G : mG} {S0 : mHeap} {n0 z0 : Nat} {p : Program} {l : Launch} {e : Env} {R : Room} {s : State} {m : MethodId} {args : Array Value} {below : List Frame} {meth : Method} {c : Code} {Q : State → Prop} {cc : ByteArray} {o nL pc nx : Nat} {L : mLoc} {st : List Value} {h : mHeap} {H H1 : Heap}
theorem sm_jsr (C : mCtx G S0 o nL p s m args c cc) {n : Int} (hk : mChk o cc (pc, .jsr n, nx) = true) (k : mW G S0 n0 z0 p l e R s m args below meth c Q (nx) L (.ref n.toNat :: st) (h)) : mW G S0 n0 z0 p l e R s m args below meth c Q (pc) L (st) (h) := by
  obtain ⟨hx, hb, hml, hown, hts, hG, hKs, hSF, hB⟩ := C
  obtain ⟨raw, len, h1, h2, h3⟩ := mChk_of hk
  simp only [mRel, Bool.or_eq_true] at h3
  intro a1 a2 H locs LS hH hS hL
  have h9 : W p l e R s m args below meth c H locs (h.length - n0) (mSlots h - z0) Q (F0 m nx LS (mRho G n.toNat :: st.map (mV G))) := k a1 a2 H locs LS hH hS hL
  rcases h3 with h3 | h3
  · split at h3
    · rename_i idx w hidx
      simp only [decide_eq_true_eq] at h3
      obtain ⟨hp, rfl⟩ := h3
      have hfk := mPl_fk hp
      simp only [mPfk, decide_eq_true_eq] at hfk
      obtain ⟨t, g1, g2⟩ := hKs.2.2.2.2 _ hfk.1
      have hlt := hfk.2
      rw [mRho_st (a := n.toNat) (by omega) g1] at h9
      rcases mLd_ok hidx with ⟨rfl, rfl⟩ | ⟨rfl, rfl⟩
      · subst h2; exact va_ldcS hx hb hown g2 h1 h9
      · subst h2
        intro T hT X
        obtain ⟨t2, b1, b2⟩ := h9 T hT X
        exact ⟨t2, X.ldcStringW hx hown (text := mTx n.toNat) (a := t) g2.1 g2.2 (g := F0 m pc LS (st.map (mV G))) rfl (by rw [hb]; exact h1) t2 b1, b2⟩
    · cases h3
  · split at h3
    · rename_i idx hidx
      simp only [decide_eq_true_eq] at h3
      obtain ⟨hp, rfl⟩ := h3
      have hraw := mGs_ok hidx
      subst hraw; subst h2
      have hsw := mPs_ok hp
      by_cases hn : n = 1
      · subst hn
        exact va_gets (ref := "TruthBridge$Worlds") hx hb hSF.2.1 hS hown (hts _ (mTB_in hsw rfl)) (fun _ z => z) h1 h9
      · by_cases hn2 : n = 63
        · subst hn2
          exact va_gets (ref := "jdk/internal/util/Preconditions") hx hb hSF.2.2.2 hS hown (hts _ (mTB_in hsw rfl)) (fun _ z => z) h1 h9
        · exact absurd hsw (by
            rw [show mSword o idx (.jsr n) = Cond.tt by
              unfold mSword
              split <;> first | rfl | (rename_i q; cases q <;> first | exact absurd rfl hn | exact absurd rfl hn2)]
            exact tt_notin)
    · cases h3
theorem sm_clone (C : mCtx G S0 o nL p s m args c cc) {a : Nat} {xs : List Int32} (ha : 64 ≤ a) (hh : h[a]? = some (mI .int xs)) (hLn : L.length = nL) (hst : mCat st ≤ 8) (hrf : 1 ≤ R.frames) (hrl : 22 ≤ R.locals) (hrc : h.length + 1 - n0 ≤ R.cells) (hrs : mSlots h + xs.length - z0 ≤ R.slots) (hk : mChk o cc (pc, .invokedynamic 1, nx) = true) (k : mW G S0 n0 z0 p l e R s m args below meth c Q (nx) L (.ref h.length :: st) (h ++ [mI .int xs])) : mW G S0 n0 z0 p l e R s m args below meth c Q (pc) L (.ref a :: st) (h) := by
  obtain ⟨hx, hb, hml, hown, hts, hG, hKs, hSF, hB⟩ := C
  obtain ⟨raw, len, h1, h2, h3⟩ := mChk_of hk
  simp only [mRel] at h3
  split at h3
  rotate_left
  · cases h3
  rename_i idx hidx
  simp only [decide_eq_true_eq] at h3
  obtain ⟨hp, rfl⟩ := h3
  have hraw := mIv_ok hidx
  subst hraw; subst h2
  have hlk : Cond.methodLink (mOw o) idx ⟨"[I", "clone", "()Ljava/lang/Object;"⟩ ∈ mTB := by
    rcases mPl_ok hp with g | g
    · exact mTB_in g rfl
    · exact absurd g tt_notin
  have hfk := mPl_fk hp
  intro a1 a2 H locs LS hH hS hL
  show W p l e R s m args below meth c H locs (h.length - n0) (mSlots h - z0) Q (F0 m pc LS (mRho G a :: st.map (mV G)))
  rw [mRho_dyn ha]
  have hat : H[gB G + (a - 64)]? = some (vp_cell (gA G .int) (xs.length, .inl (fun j => xs.getD j 0))) := hH.2.2.2 a _ ha hh
  obtain ⟨c0, t0', f1, f2, f3⟩ := Cond.castable_spec (va_Nw.use (A := args) rfl hKs.2.2.2.1)
  have hnm := va_nm_int (hKs.1.2 0 _ rfl).2
  cases hnm.symm.trans f1
  intro T hT X
  obtain ⟨-, kA, hkA, comp, hkind⟩ := State.isArrayOf_alike X.warmed.alike ((hKs.1.2 0 _ rfl).1 0 (fun _ => .null))
  obtain ⟨-, kS, hkS, compS, hkindS⟩ := (hKs.1.2 0 _ rfl).1 0 (fun _ => .null)
  have hsz0 : (vp_cell (gA G .int) (xs.length, .inl (fun j => xs.getD j 0))).slots.size = xs.length := arrV_size _ _ _
  obtain ⟨vm', X', step⟩ := X.cloneArray hx hown (hts _ hlk) (hts _ (mTB_in cl_same rfl)) (hts _ (mTB_in cl_nat rfl)) (hts _ (mTB_in cl_inst rfl)) (hts _ (mTB_in cl_sel rfl)) (a := gB G + (a - 64)) (cell := vp_cell (gA G .int) (xs.length, .inl (fun j => xs.getD j 0))) (by rw [hT]; exact hat) (fun k h => by cases h) (fun h => by cases h) hnm f2 f3
    (fun i v hv => by
      have hcl0 : (vp_cell (gA G .int) (xs.length, .inl (fun j => xs.getD j 0))).cls = gA G .int := rfl
      rw [hcl0]
      have hk' : T.vm.classes[gA G .int]? = some kA := hkA
      have hv2 := va_fit (ty := .int) (cA := gA G .int) (n := xs.length) (F := fun j => .int (xs.getD j 0)) (fun _ _ => rfl) i v hv
      simpa [State.fitsSlot, State.slotType?, hk', hkind] using hv2)
    (g := F0 m pc LS (.ref (gB G + (a - 64)) :: st.map (mV G))) rfl (by rw [hml, ← hLn]; exact hL.1) rfl (by rw [hb]; exact h1) hrf (by
      rw [show (F0 m pc LS (.ref (gB G + (a - 64)) :: st.map (mV G))).monitorRoom = 0 from rfl, mCat_map hG]
      omega) (by omega) (by rw [hsz0]; omega) (hloader := Vm.clonesLoader_of_array hkS hkindS)
  rw [hsz0] at X'
  have hcE : ({ cls := (vp_cell (gA G .int) (xs.length, .inl (fun j => xs.getD j 0))).cls, slots := (vp_cell (gA G .int) (xs.length, .inl (fun j => xs.getD j 0))).slots } : Cell) = vp_cell (gA G .int) (xs.length, .inl (fun j => xs.getD j 0)) := rfl
  rw [hcE] at X' step
  generalize hH1 : H.push (vp_cell (gA G .int) (xs.length, .inl (fun j => xs.getD j 0))) = H1
  have z1 : H1.size = H.size + 1 := by rw [← hH1, Array.size_push]
  have e1 : H1[H.size]? = some (vp_cell (gA G .int) (xs.length, .inl (fun j => xs.getD j 0))) := by rw [← hH1, Array.getElem?_push_size]
  have o1 : ∀ q : Nat, q < H.size → H1[q]? = H[q]? := fun q hq => by rw [← hH1, Array.getElem?_push, if_neg (Nat.ne_of_lt hq)]
  have hsz : mSlots (h ++ [mI .int xs]) = mSlots h + xs.length := mSlots_push
  have h9 := k (by rw [List.length_append]; omega) (by rw [hsz]; omega) H1 locs LS (hH.push z1 o1 e1) ⟨Nat.le_trans hS.1 (by omega), fun x g1 g2 => (o1 x (Nat.lt_of_lt_of_le g1 hS.1)).trans (hS.2.1 x g1 g2), hS.2.2⟩ hL
  rw [List.length_append, hsz, show h.length + [mI .int xs].length - n0 = h.length - n0 + 1 by show h.length + 1 - n0 = _; omega, show mSlots h + xs.length - z0 = mSlots h - z0 + xs.length by omega] at h9
  rw [List.map_cons, show mV G (.ref h.length) = .ref H.size from hH.ref] at h9
  obtain ⟨t, b1, b2⟩ := h9 _ (by rw [← hH1, ← hT]; rfl) X'
  refine ⟨t, step t ?_, b2⟩
  rw [hT]
  exact b1
theorem sm_copy (C : mCtx G S0 o nL p s m args c cc) {a0 a : Nat} {xs ys : List Int32} {n : Int32} (ha0 : 64 ≤ a0) (ha : 64 ≤ a) (hh0 : h[a0]? = some (mI .int xs)) (hh : h[a]? = some (mI .int ys)) (hLn : L.length = nL) (hn : ¬ n < 0) (hn1 : n.toNatClampNeg ≤ xs.length) (hn2 : n.toNatClampNeg ≤ ys.length) (hst : mCat st ≤ 8) (hrf : 1 ≤ R.frames) (hrl : 8 + (nativeFrameWords "java/lang/System" "arraycopy" 5 + 11) ≤ R.locals) (hk : mChk o cc (pc, .invokedynamic 2, nx) = true) (k : mW G S0 n0 z0 p l e R s m args below meth c Q (nx) L (st) (h.set a (mI .int (xs.take n.toNatClampNeg ++ ys.drop n.toNatClampNeg)))) : mW G S0 n0 z0 p l e R s m args below meth c Q (pc) L (.int n :: .int 0 :: .ref a :: .int 0 :: .ref a0 :: st) (h) := by
  obtain ⟨hx, hb, hml, hown, hts, hG, hKs, hSF, hB⟩ := C
  obtain ⟨raw, len, h1, h2, h3⟩ := mChk_of hk
  simp only [mRel] at h3
  split at h3
  rotate_left
  · cases h3
  rename_i idx hidx
  simp only [decide_eq_true_eq] at h3
  obtain ⟨hp, rfl⟩ := h3
  have hraw := mIt_ok hidx
  subst hraw; subst h2
  have hlk : Cond.methodLink (mOw o) idx arraycopyName ∈ mTB := by
    rcases mPl_ok hp with g | g
    · exact mTB_in g rfl
    · exact absurd g tt_notin
  have hfk := mPl_fk hp
  intro a1 a2 H locs LS hH hS hL
  show W p l e R s m args below meth c H locs (h.length - n0) (mSlots h - z0) Q (F0 m pc LS (.int n :: .int 0 :: mRho G a :: .int 0 :: mRho G a0 :: st.map (mV G)))
  rw [mRho_dyn ha, mRho_dyn ha0]
  have hc0 : H[gB G + (a0 - 64)]? = some (vp_cell (gA G .int) (xs.length, .inl (fun j => xs.getD j 0))) := hH.2.2.2 a0 _ ha0 hh0
  have hc1 : H[gB G + (a - 64)]? = some (vp_cell (gA G .int) (ys.length, .inl (fun j => ys.getD j 0))) := hH.2.2.2 a _ ha hh
  have hnn : n.toInt = (n.toNatClampNeg : Int) := by
    have hz0 : (0 : Int) ≤ n.toInt := by
      have := Int32.not_lt.mp hn
      simpa using Int32.le_iff_toInt_le.mp this
    show n.toInt = ((n.toInt.toNat : Nat) : Int)
    omega
  intro T hT X
  obtain ⟨-, k0, hk0, cm0, hkk0⟩ := (hKs.1.2 0 _ rfl).1 xs.length (fun j => .int (xs.getD j 0))
  obtain ⟨vm', X', step⟩ := X.arraycopy hx hown (hts _ hlk) (hts _ (mTB_in ac_nat rfl)) (hts _ (mTB_in ac_stat rfl)) (hts _ (mTB_in ac_init rfl)) (src := gB G + (a0 - 64)) (dst := gB G + (a - 64)) (cs := vp_cell (gA G .int) (xs.length, .inl (fun j => xs.getD j 0))) (cd := vp_cell (gA G .int) (ys.length, .inl (fun j => ys.getD j 0))) (srcPos := 0) (destPos := 0) (n := n) (by rw [hT]; exact hc0) (by rw [hT]; exact hc1)
    (fun _ h => by cases h) (fun _ h => by cases h) (fun h => by cases h) (fun h => by cases h) hk0 hk0 hkk0 hkk0 (by simp [refKind]) (by decide) (by decide) hn
    (by rw [hnn]; show ¬ ((0 : Int32).toInt + (n.toNatClampNeg : Int) > ((arrV (gA G .int) xs.length (fun j => .int (xs.getD j 0))).slots.size : Int)); rw [arrV_size, show (0 : Int32).toInt = 0 from rfl]; omega)
    (by rw [hnn]; show ¬ ((0 : Int32).toInt + (n.toNatClampNeg : Int) > ((arrV (gA G .int) ys.length (fun j => .int (ys.getD j 0))).slots.size : Int)); rw [arrV_size, show (0 : Int32).toInt = 0 from rfl]; omega)
    (fun vm₁ _ i hi => by
      have e : (vp_cell (gA G .int) (xs.length, .inl (fun j => xs.getD j 0))).slots.getD ((0 : Int32).toNatClampNeg + i) .null = .int (xs.getD i 0) := by
        show (arrV (gA G .int) xs.length (fun j => .int (xs.getD j 0))).slots.getD _ _ = _
        rw [show (0 : Int32).toNatClampNeg = 0 from rfl, Nat.zero_add, Array.getD_eq_getD_getElem?, arrV_read _ _ (by omega)]
        rfl
      refine ⟨?_, ?_⟩
      · rw [e]
        rfl
      · rw [e]
        exact trivial)
    (g := F0 m pc LS (.int n :: .int 0 :: .ref (gB G + (a - 64)) :: .int 0 :: .ref (gB G + (a0 - 64)) :: st.map (mV G))) rfl (by rw [hml, ← hLn]; exact hL.1) (rest := st.map (mV G)) rfl (by rw [hb]; exact h1) hrf (by
      rw [show (F0 m pc LS (.int n :: .int 0 :: .ref (gB G + (a - 64)) :: .int 0 :: .ref (gB G + (a0 - 64)) :: st.map (mV G))).monitorRoom = 0 from rfl, mCat_map hG]
      omega)
  have e1 : copied (vp_cell (gA G .int) (xs.length, .inl (fun j => xs.getD j 0))) (vp_cell (gA G .int) (ys.length, .inl (fun j => ys.getD j 0))) 0 0 n = vp_cell (gA G .int) ((xs.take n.toNatClampNeg ++ ys.drop n.toNatClampNeg).length, .inl (fun j => (xs.take n.toNatClampNeg ++ ys.drop n.toNatClampNeg).getD j 0)) := by
    have e0 : copied (vp_cell (gA G .int) (xs.length, .inl (fun j => xs.getD j 0))) (vp_cell (gA G .int) (ys.length, .inl (fun j => ys.getD j 0))) 0 0 n = vp_cell (gA G .int) (ys.length, .inl (va_cpy (fun j => xs.getD j 0) (fun j => ys.getD j 0) (0 : Int32).toNatClampNeg (0 : Int32).toNatClampNeg n.toNatClampNeg)) := va_copied (fun z => .int z) (gA G .int) (gA G .int) (fun j => xs.getD j 0) (fun j => ys.getD j 0) (by show 0 + _ ≤ _; omega)
    rw [e0]
    have hlen : (xs.take n.toNatClampNeg ++ ys.drop n.toNatClampNeg).length = ys.length := by
      rw [List.length_append, List.length_take, List.length_drop]; omega
    rw [vp_cell_i, vp_cell_i, hlen]
    congr 1
    funext j
    show Value.int (va_cpy _ _ _ _ _ _) = Value.int _
    congr 1
    unfold va_cpy
    rw [show (0 : Int32).toNatClampNeg = 0 from rfl]
    by_cases hj : j < n.toNatClampNeg
    · rw [if_pos ⟨Nat.zero_le _, by omega⟩]
      dsimp only
      rw [List.getD_eq_getElem?_getD, List.getD_eq_getElem?_getD, List.getElem?_append_left (by rw [List.length_take]; omega), List.getElem?_take_of_lt hj, Nat.zero_add, Nat.sub_zero]
    · rw [if_neg (by omega)]
      dsimp only
      rw [List.getD_eq_getElem?_getD, List.getD_eq_getElem?_getD, List.getElem?_append_right (by rw [List.length_take]; omega), List.length_take, List.getElem?_drop, show n.toNatClampNeg + (j - min n.toNatClampNeg xs.length) = j by omega]
  rw [e1] at X' step
  generalize hcell : vp_cell (gA G .int) ((xs.take n.toNatClampNeg ++ ys.drop n.toNatClampNeg).length, .inl (fun j => (xs.take n.toNatClampNeg ++ ys.drop n.toNatClampNeg).getD j 0)) = cell at X' step
  have hl : gB G + (a - 64) < H.size := (Array.getElem?_eq_some_iff.mp hc1).1
  have hheap : ((T.setVm vm').setCell (gB G + (a - 64)) cell).heap = H.setIfInBounds (gB G + (a - 64)) cell := by rw [← hT]; rfl
  have oq : ∀ q : Nat, q ≠ gB G + (a - 64) → (H.setIfInBounds (gB G + (a - 64)) cell)[q]? = H[q]? := fun q hq => by simp [Array.getElem?_setIfInBounds, Ne.symm hq]
  have hz : mSlots (h.set a (mI .int (xs.take n.toNatClampNeg ++ ys.drop n.toNatClampNeg))) = mSlots h := mSlots_set hh (by show (xs.take _ ++ ys.drop _).length = ys.length; rw [List.length_append, List.length_take, List.length_drop]; omega)
  have h9 : ∀ locs1, va_S (mA G) s.heap (H.setIfInBounds (gB G + (a - 64)) cell) locs1 → W p l e R s m args below meth c (H.setIfInBounds (gB G + (a - 64)) cell) locs1 (h.length - n0) (mSlots h - z0) Q (F0 m (pc + 3) LS (st.map (mV G))) := by
    intro locs1 hl1
    have h8 := k (by rw [List.length_set]; exact a1) (by rw [hz]; exact a2) (H.setIfInBounds (gB G + (a - 64)) cell) locs1 LS (hH.set hh ha (by simp) oq (by
      show (H.setIfInBounds (gB G + (a - 64)) cell)[gB G + (a - 64)]? = some (vp_cell (gA G .int) ((xs.take n.toNatClampNeg ++ ys.drop n.toNatClampNeg).length, .inl (fun j => (xs.take n.toNatClampNeg ++ ys.drop n.toNatClampNeg).getD j 0)))
      rw [hcell]
      simp [Array.getElem?_setIfInBounds, hl])) hl1 hL
    rw [List.length_set, hz] at h8
    exact h8
  obtain ⟨t, b1, b2⟩ := h9 _ ⟨by simp; exact hS.1, fun q g1 g2 => by
      rw [oq q (fun e => g2 (by rw [e]; exact Nat.le_add_right _ _))]
      exact hS.2.1 q g1 g2, fun q hq => by
      rcases List.mem_append.mp hq with h | h
      · exact hS.2.2 q h
      · obtain ⟨z, -, hz⟩ := List.mem_map.mp h
        rw [← hz]
        exact Nat.le_add_right _ _⟩ _ hheap X'
  exact ⟨t, step t b1, b2⟩
end Mk3
