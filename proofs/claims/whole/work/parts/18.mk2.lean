theorem oi_inst : Cond.instanceMethod objectInit ∈ lw_tbl := List.mem_of_getElem? (i := 178) (by decide +kernel)
set_option maxRecDepth 100000 in
theorem oi_code : Cond.code objectInit ⟨#[0xb1]⟩ 1 none ∈ lw_tbl := List.mem_of_getElem? (i := 179) rfl
theorem mm_init : Cond.initialized "java/lang/Math" ∈ lw_tbl := List.mem_of_getElem? (i := 168) (by decide +kernel)
theorem mm_max_st : Cond.static Lib.Math.max.name ∈ lw_tbl := List.mem_of_getElem? (i := 1215) (by decide +kernel)
set_option maxRecDepth 100000 in
theorem mm_max_code : Cond.code Lib.Math.max.name Lib.Math.max.code 2 (some .int) ∈ lw_tbl := List.mem_of_getElem? (i := 1216) rfl
theorem mm_min_st : Cond.static Lib.Math.min.name ∈ lw_tbl := List.mem_of_getElem? (i := 897) (by decide +kernel)
set_option maxRecDepth 100000 in
theorem mm_min_code : Cond.code Lib.Math.min.name Lib.Math.min.code 2 (some .int) ∈ lw_tbl := List.mem_of_getElem? (i := 898) rfl
theorem mZero_ok : ∀ c, c < 13 → ∀ k, k < mNf c → defaultValue (mTy c k) = mZero (mTy c k) := by decide +kernel
section Mk2
variable {G : mG} {S0 : mHeap} {n0 z0 : Nat} {p : Program} {l : Launch} {e : Env} {R : Room} {s : State} {m : MethodId} {args : Array Value} {below : List Frame} {meth : Method} {c : Code} {Q : State → Prop} {cc : ByteArray} {o nL pc nx : Nat} {L : mLoc} {st : List Value} {h : mHeap} {H H1 : Heap}
theorem mZero_V (ty : FieldType) : mV G (mZero ty) = mZero ty := by cases ty <;> rfl
theorem sm_anewarray (C : mCtx G S0 o nL p s m args c cc) {n : Int32} {r : Nat} (hr : mRc r = true) (h0 : ¬ n < 0) (hn : n.toNatClampNeg ≤ 100000) (hrc : h.length + 1 - n0 ≤ R.cells) (hrs : mSlots h + n.toNatClampNeg - z0 ≤ R.slots) (hk : mChk o cc (pc, .anewarray r, nx) = true) (k : mW G S0 n0 z0 p l e R s m args below meth c Q (nx) L (.ref h.length :: st) (h ++ [mR r (List.replicate n.toNatClampNeg none)])) : mW G S0 n0 z0 p l e R s m args below meth c Q (pc) L (.int n :: st) (h) := by
  obtain ⟨hx, hb, hml, hown, hts, hG, hKs, hSF, hB⟩ := C
  obtain ⟨raw, len, h1, h2, h3⟩ := mChk_of hk
  simp only [mRel] at h3
  split at h3
  rotate_left
  · cases h3
  rename_i idx hidx
  simp only [decide_eq_true_eq] at h3
  obtain ⟨hp, rfl⟩ := h3
  have hraw := mAn_ok hidx
  subst hraw; subst h2
  have hlk : Cond.classLink (mOw o) idx (mOw r) ∈ mTB := by
    rcases mPl_ok hp with g | g
    · exact mTB_in g rfl
    · exact absurd g tt_notin
  have hfk := mPl_fk hp
  intro a1 a2 H locs LS hH hS hL
  show W p l e R s m args below meth c H locs (h.length - n0) (mSlots h - z0) Q (F0 m pc LS (.int n :: st.map (mV G)))
  obtain ⟨t0, ht⟩ := mRc_ty (G := G) hr
  obtain ⟨-, -, -, -, -, hra⟩ := (hKs.1.2 t0 _ ht).2
  refine W.anew hx hb hown (hts _ hlk) (va_AO.use (mRc_ao hr hKs)) rfl h1 rfl h0 (by omega) (by omega) (by omega) fun cA kA comp f1 f2 f3 f4 => ?_
  have hcA : cA = gR G r := Option.some.inj (f1.symm.trans hra)
  subst hcA
  generalize hH1 : H.push ({ cls := gR G r, slots := Array.replicate n.toNatClampNeg .null, vm := .none } : Cell) = H1
  have z1 : H1.size = H.size + 1 := by rw [← hH1, Array.size_push]
  have e1 : H1[H.size]? = some (arrV (gR G r) n.toNatClampNeg (fun _ => .null)) := by rw [← hH1, Array.getElem?_push_size, ← arrV_new]
  have o1 : ∀ q : Nat, q < H.size → H1[q]? = H[q]? := fun q hq => by rw [← hH1, Array.getElem?_push, if_neg (Nat.ne_of_lt hq)]
  have hsz : mSlots (h ++ [mR r (List.replicate n.toNatClampNeg none)]) = mSlots h + n.toNatClampNeg := by
    rw [mSlots_push]
    show _ + (List.replicate _ _).length = _
    rw [List.length_replicate]
  have h9 := k (by rw [List.length_append]; omega) (by rw [hsz]; omega) H1 locs LS (hH.push z1 o1 (by
    show H1[H.size]? = some (arrV (gR G r) (List.replicate n.toNatClampNeg (none : Option Nat)).length (fun j => va_rf (((List.replicate n.toNatClampNeg (none : Option Nat)).getD j none).map (fun b => gB G + (b - 64)))))
    rw [e1, List.length_replicate]
    congr 2
    funext j
    rw [List.getD_eq_getElem?_getD, List.getElem?_replicate]
    split <;> rfl)) ⟨Nat.le_trans hS.1 (by omega), fun x g1 g2 => (o1 x (Nat.lt_of_lt_of_le g1 hS.1)).trans (hS.2.1 x g1 g2), hS.2.2⟩ hL
  rw [List.length_append, hsz, show h.length + [mR r (List.replicate n.toNatClampNeg none)].length - n0 = h.length - n0 + 1 by show h.length + 1 - n0 = _; omega, show mSlots h + n.toNatClampNeg - z0 = mSlots h - z0 + n.toNatClampNeg by omega] at h9
  rw [List.map_cons, show mV G (.ref h.length) = .ref H.size from hH.ref] at h9
  exact h9
theorem sm_new (C : mCtx G S0 o nL p s m args c cc) {r : Nat} (hrc : h.length + 1 - n0 ≤ R.cells) (hrs : mSlots h + mNf r - z0 ≤ R.slots) (hk : mChk o cc (pc, .new r, nx) = true) (k : mW G S0 n0 z0 p l e R s m args below meth c Q (nx) L (.ref h.length :: st) (h ++ [mNew mNf mTy r])) : mW G S0 n0 z0 p l e R s m args below meth c Q (pc) L (st) (h) := by
  obtain ⟨hx, hb, hml, hown, hts, hG, hKs, hSF, hB⟩ := C
  obtain ⟨raw, len, h1, h2, h3⟩ := mChk_of hk
  simp only [mRel] at h3
  split at h3
  rotate_left
  · cases h3
  rename_i idx hidx
  simp only [decide_eq_true_eq] at h3
  obtain ⟨hp, rfl⟩ := h3
  have hraw := mNw_ok hidx
  subst hraw; subst h2
  have hlk : Cond.classLink (mOw o) idx (mOw r) ∈ mTB := by
    rcases mPl_ok hp with g | g
    · exact mTB_in g rfl
    · exact absurd g tt_notin
  have hfk := mPl_fk hp
  simp only [mPfk, decide_eq_true_eq] at hfk
  intro a1 a2 H locs LS hH hS hL
  have hKn := hKs.1.1 r _ (mCl_at hfk)
  refine W.newcK hx hb hown (hts _ hlk) (hts _ (mTB_in (mInst r hfk).1 rfl)) (hts _ (mTB_in (mInst r hfk).2 rfl)) rfl h1 (by omega) (by omega) hKn.2.1 rfl fun H1 kC hkC e1 z1 o1 => ?_
  have hln : ((List.range (mNf r)).map (fun k => mZero (mTy r k))).length = mNf r := by rw [List.length_map, List.length_range]
  have hsz : mSlots (h ++ [mNew mNf mTy r]) = mSlots h + mNf r := by
    rw [mSlots_push]
    show _ + ((List.range (mNf r)).map (fun k => mZero (mTy r k))).length = _
    rw [hln]
  have h9 := k (by rw [List.length_append]; omega) (by rw [hsz]; omega) H1 locs LS (hH.push z1 o1 ⟨_, mCl_at hfk, (u_born (mTy r) hts (mLay hfk) hKn hkC e1 (mTyok hfk)).to (fun j hj => by
    rw [mZero_ok r hfk j hj]
    show _ = (((List.range (mNf r)).map (fun k => mZero (mTy r k))).map (mV G)).getD j .null
    rw [List.getD_eq_getElem?_getD, List.getElem?_map, List.getElem?_map, List.getElem?_range hj]
    exact (mZero_V _).symm)⟩) ⟨Nat.le_trans hS.1 (by omega), fun x g1 g2 => (o1 x (Nat.lt_of_lt_of_le g1 hS.1)).trans (hS.2.1 x g1 g2), hS.2.2⟩ hL
  rw [List.length_append, hsz, show h.length + [mNew mNf mTy r].length - n0 = h.length - n0 + 1 by show h.length + 1 - n0 = _; omega, show mSlots h + mNf r - z0 = mSlots h - z0 + mNf r by omega] at h9
  rw [List.map_cons, show mV G (.ref h.length) = .ref H.size from hH.ref] at h9
  exact h9
theorem sm_objInit (C : mCtx G S0 o nL p s m args c cc) {a : Nat} (ha : 64 ≤ a) (hLn : L.length = nL) (hst : mCat st ≤ 8) (hrf : 1 ≤ R.frames) (hrl : 20 ≤ R.locals) (hk : mChk o cc (pc, .invokedynamic 0, nx) = true) (k : mW G S0 n0 z0 p l e R s m args below meth c Q (nx) L (st) (h)) : mW G S0 n0 z0 p l e R s m args below meth c Q (pc) L (.ref a :: st) (h) := by
  obtain ⟨hx, hb, hml, hown, hts, hG, hKs, hSF, hB⟩ := C
  obtain ⟨raw, len, h1, h2, h3⟩ := mChk_of hk
  simp only [mRel] at h3
  split at h3
  rotate_left
  · cases h3
  rename_i idx hidx
  simp only [decide_eq_true_eq] at h3
  obtain ⟨hp, rfl⟩ := h3
  have hraw := mIs_ok hidx
  subst hraw; subst h2
  have hlk : Cond.methodLink (mOw o) idx objectInit ∈ mTB := by
    rcases mPl_ok hp with g | g
    · exact mTB_in g rfl
    · exact absurd g tt_notin
  have hfk := mPl_fk hp
  intro a1 a2 H locs LS hH hS hL
  have h9 := k a1 a2 H locs LS hH hS hL
  show W p l e R s m args below meth c H locs (h.length - n0) (mSlots h - z0) Q (F0 m pc LS (mRho G a :: st.map (mV G)))
  rw [mRho_dyn ha]
  exact W.objInit hx hb hown (hts _ hlk) (hts _ (mTB_in oi_inst rfl)) (hts _ (mTB_in oi_code rfl)) rfl (by rw [hml, ← hLn]; exact hL.1) rfl h1 hrf (by
    rw [show (F0 m pc LS (.ref (gB G + (a - 64)) :: st.map (mV G))).monitorRoom = 0 from rfl, mCat_map hG]
    omega) h9
theorem sm_max (C : mCtx G S0 o nL p s m args c cc) {x y : Int32} (hLn : L.length = nL) (hst : mCat st ≤ 8) (hrf : 1 ≤ R.frames) (hrl : 21 ≤ R.locals) (hrc : h.length - n0 ≤ R.cells) (hrs : mSlots h - z0 ≤ R.slots) (hk : mChk o cc (pc, .invokedynamic 3, nx) = true) (k : mW G S0 n0 z0 p l e R s m args below meth c Q (nx) L (.int (if x < y then y else x) :: st) (h)) : mW G S0 n0 z0 p l e R s m args below meth c Q (pc) L (.int y :: .int x :: st) (h) := by
  obtain ⟨hx, hb, hml, hown, hts, hG, hKs, hSF, hB⟩ := C
  obtain ⟨raw, len, h1, h2, h3⟩ := mChk_of hk
  simp only [mRel] at h3
  split at h3
  rotate_left
  · cases h3
  rename_i idx hidx
  simp only [decide_eq_true_eq] at h3
  obtain ⟨hp, rfl⟩ := h3
  have hraw := mIt_ok hidx
  subst hraw; subst h2
  have hlk : Cond.methodLink (mOw o) idx Lib.Math.max.name ∈ mTB := by
    rcases mPl_ok hp with g | g
    · exact mTB_in g rfl
    · exact absurd g tt_notin
  have hfk := mPl_fk hp
  intro a1 a2 H locs LS hH hS hL
  have h9 := k a1 a2 H locs LS hH hS hL
  exact va_mmax hx hb (by rw [hml, ← hLn]; exact hL.1.symm) hown (hts _ hlk) (hts _ (mTB_in mm_max_st rfl)) (hts _ (mTB_in mm_init rfl)) (hts _ (mTB_in mm_max_code rfl)) hrf (by rw [mCat_map hG]; omega) hrc hrs h1 h9
theorem sm_min (C : mCtx G S0 o nL p s m args c cc) {x y : Int32} (hLn : L.length = nL) (hst : mCat st ≤ 8) (hrf : 1 ≤ R.frames) (hrl : 21 ≤ R.locals) (hrc : h.length - n0 ≤ R.cells) (hrs : mSlots h - z0 ≤ R.slots) (hk : mChk o cc (pc, .invokedynamic 4, nx) = true) (k : mW G S0 n0 z0 p l e R s m args below meth c Q (nx) L (.int (if y < x then y else x) :: st) (h)) : mW G S0 n0 z0 p l e R s m args below meth c Q (pc) L (.int y :: .int x :: st) (h) := by
  obtain ⟨hx, hb, hml, hown, hts, hG, hKs, hSF, hB⟩ := C
  obtain ⟨raw, len, h1, h2, h3⟩ := mChk_of hk
  simp only [mRel] at h3
  split at h3
  rotate_left
  · cases h3
  rename_i idx hidx
  simp only [decide_eq_true_eq] at h3
  obtain ⟨hp, rfl⟩ := h3
  have hraw := mIt_ok hidx
  subst hraw; subst h2
  have hlk : Cond.methodLink (mOw o) idx Lib.Math.min.name ∈ mTB := by
    rcases mPl_ok hp with g | g
    · exact mTB_in g rfl
    · exact absurd g tt_notin
  have hfk := mPl_fk hp
  intro a1 a2 H locs LS hH hS hL
  have h9 := k a1 a2 H locs LS hH hS hL
  exact va_mmin hx hb (by rw [hml, ← hLn]; exact hL.1.symm) hown (hts _ hlk) (hts _ (mTB_in mm_min_st rfl)) (hts _ (mTB_in mm_init rfl)) (hts _ (mTB_in mm_min_code rfl)) hrf (by rw [mCat_map hG]; omega) hrc hrs h1 h9
theorem sm_checkcast (C : mCtx G S0 o nL p s m args c cc) {a r : Nat} {xs : List Int32} (ha : 64 ≤ a) (hh : h[a]? = some (mI .int xs)) (hk : mChk o cc (pc, .checkcast r, nx) = true) (k : mW G S0 n0 z0 p l e R s m args below meth c Q (nx) L (.ref a :: st) (h)) : mW G S0 n0 z0 p l e R s m args below meth c Q (pc) L (.ref a :: st) (h) := by
  obtain ⟨hx, hb, hml, hown, hts, hG, hKs, hSF, hB⟩ := C
  obtain ⟨raw, len, h1, h2, h3⟩ := mChk_of hk
  simp only [mRel] at h3
  split at h3
  rotate_left
  · cases h3
  rename_i idx hidx
  simp only [decide_eq_true_eq] at h3
  obtain ⟨hp, rfl⟩ := h3
  have hraw := mCc_ok hidx
  subst hraw; subst h2
  have hlk : Cond.classLink (mOw o) idx "[I" ∈ mTB := by
    rcases mPl_ok hp with g | g
    · exact mTB_in g rfl
    · exact absurd g tt_notin
  have hfk := mPl_fk hp
  intro a1 a2 H locs LS hH hS hL
  have h9 : W p l e R s m args below meth c H locs (h.length - n0) (mSlots h - z0) Q (F0 m (pc + 3) LS (mRho G a :: st.map (mV G))) := k a1 a2 H locs LS hH hS hL
  show W p l e R s m args below meth c H locs (h.length - n0) (mSlots h - z0) Q (F0 m pc LS (mRho G a :: st.map (mV G)))
  rw [mRho_dyn ha] at h9 ⊢
  exact va_castA hx hb hown (hts _ hlk) (mP1 (hH.2.2.2 a _ ha hh)) 0 rfl (va_nm_int (hKs.1.2 0 _ rfl).2) h1 h9
theorem sm_ifnullN (hx : p.tables.exec = Jvm.exec) (hb : c.code = cc) {t : Int} (hk : mChk o cc (pc, .ifnull t, nx) = true) (k : mW G S0 n0 z0 p l e R s m args below meth c Q (t.toNat) L (st) (h)) : mW G S0 n0 z0 p l e R s m args below meth c Q (pc) L (.null :: st) (h) := by
  obtain ⟨raw, len, h1, h2, h3⟩ := mChk_of hk
  simp only [mRel, decide_eq_true_eq] at h3
  obtain ⟨rfl, rfl, h4⟩ := h3
  subst h2
  exact fun a1 a2 H locs LS hH hS hL => lv_ifnullN (tgt := t.toNat) hx hb h1 (by omega) (k a1 a2 H locs LS hH hS hL)
theorem sm_ifnullR (hx : p.tables.exec = Jvm.exec) (hb : c.code = cc) {t : Int} {a : Nat} (ha : 64 ≤ a) (hk : mChk o cc (pc, .ifnull t, nx) = true) (k : mW G S0 n0 z0 p l e R s m args below meth c Q (nx) L (st) (h)) : mW G S0 n0 z0 p l e R s m args below meth c Q (pc) L (.ref a :: st) (h) := by
  obtain ⟨raw, len, h1, h2, h3⟩ := mChk_of hk
  simp only [mRel, decide_eq_true_eq] at h3
  obtain ⟨rfl, rfl, h4⟩ := h3
  subst h2
  intro a1 a2 H locs LS hH hS hL
  have h9 := k a1 a2 H locs LS hH hS hL
  show W p l e R s m args below meth c H locs (h.length - n0) (mSlots h - z0) Q (F0 m pc LS (mRho G a :: st.map (mV G)))
  rw [mRho_dyn ha]
  exact lv_ifnull hx hb h1 h9
theorem sm_ifnonnullN (hx : p.tables.exec = Jvm.exec) (hb : c.code = cc) {t : Int} (hk : mChk o cc (pc, .ifnonnull t, nx) = true) (k : mW G S0 n0 z0 p l e R s m args below meth c Q (nx) L (st) (h)) : mW G S0 n0 z0 p l e R s m args below meth c Q (pc) L (.null :: st) (h) := by
  obtain ⟨raw, len, h1, h2, h3⟩ := mChk_of hk
  simp only [mRel, decide_eq_true_eq] at h3
  obtain ⟨rfl, rfl, h4⟩ := h3
  subst h2
  exact fun a1 a2 H locs LS hH hS hL => lv_ifnonnullN hx hb h1 (k a1 a2 H locs LS hH hS hL)
theorem sm_ifnonnullR (hx : p.tables.exec = Jvm.exec) (hb : c.code = cc) {t : Int} {a : Nat} (ha : 64 ≤ a) (hk : mChk o cc (pc, .ifnonnull t, nx) = true) (k : mW G S0 n0 z0 p l e R s m args below meth c Q (t.toNat) L (st) (h)) : mW G S0 n0 z0 p l e R s m args below meth c Q (pc) L (.ref a :: st) (h) := by
  obtain ⟨raw, len, h1, h2, h3⟩ := mChk_of hk
  simp only [mRel, decide_eq_true_eq] at h3
  obtain ⟨rfl, rfl, h4⟩ := h3
  subst h2
  intro a1 a2 H locs LS hH hS hL
  have h9 := k a1 a2 H locs LS hH hS hL
  show W p l e R s m args below meth c H locs (h.length - n0) (mSlots h - z0) Q (F0 m pc LS (mRho G a :: st.map (mV G)))
  rw [mRho_dyn ha]
  exact lv_ifnonnull (tgt := t.toNat) hx hb h1 (by omega) h9
theorem sm_tsw (hx : p.tables.exec = Jvm.exec) (hb : c.code = cc) {d lo hi : Int} {os : Array Int} {x : Int32} {t : Int} (ht : ((x.toInt < lo ∨ hi < x.toInt) ∧ t = d) ∨ (¬ (x.toInt < lo ∨ hi < x.toInt) ∧ os[(x.toInt - lo).toNat]? = some t)) (hk : mChk o cc (pc, .tableswitch d lo hi os, nx) = true) (k : mW G S0 n0 z0 p l e R s m args below meth c Q (t.toNat) L (st) (h)) : mW G S0 n0 z0 p l e R s m args below meth c Q (pc) L (.int x :: st) (h) := by
  obtain ⟨raw, len, h1, h2, h3⟩ := mChk_of hk
  simp only [mRel, decide_eq_true_eq] at h3
  obtain ⟨rfl, h4, h5⟩ := h3
  intro a1 a2 H locs LS hH hS hL
  have h9 := k a1 a2 H locs LS hH hS hL
  rcases ht with ⟨g, rfl⟩ | ⟨g, g2⟩
  · exact lv_tableOut (tgt := t.toNat) hx hb h1 g (by omega) h9
  · have h6 : 0 ≤ t := by
      have := Array.all_eq_true_iff_forall_mem.mp h5 t (Array.mem_of_getElem? g2)
      simpa using this
    exact lv_tableIn (tgt := t.toNat) (off := t - pc) hx hb h1 (fun q => g (Or.inl q)) (fun q => g (Or.inr q)) (by rw [Array.getElem?_map, g2]; rfl) (by omega) h9
theorem mOff (pc : Int) (x : Int) : ∀ (ps : List (Int × Int)) (d : Int), Op.lookupswitch.offset (ps.map (fun q => (q.1, q.2 - pc))) (d - pc) x = Op.lookupswitch.offset ps d x - pc
  | [], d => rfl
  | q :: r, d => by
    rw [List.map_cons, Op.lookupswitch.offset_cons, Op.lookupswitch.offset_cons]
    split
    · rfl
    · exact mOff pc x r d
theorem mOff_nn (x : Int) : ∀ (ps : List (Int × Int)) (d : Int), 0 ≤ d → (∀ q ∈ ps, 0 ≤ q.2) → 0 ≤ Op.lookupswitch.offset ps d x
  | [], d, h, _ => h
  | q :: r, d, h, h2 => by
    rw [Op.lookupswitch.offset_cons]
    split
    · exact h2 q List.mem_cons_self
    · exact mOff_nn x r d h (fun y hy => h2 y (List.mem_cons_of_mem _ hy))
theorem sm_lsw (hx : p.tables.exec = Jvm.exec) (hb : c.code = cc) {d : Int} {ps : Array (Int × Int)} {x : Int32} (hk : mChk o cc (pc, .lookupswitch d ps, nx) = true) (k : mW G S0 n0 z0 p l e R s m args below meth c Q ((Op.lookupswitch.offset ps.toList d x.toInt).toNat) L (st) (h)) : mW G S0 n0 z0 p l e R s m args below meth c Q (pc) L (.int x :: st) (h) := by
  obtain ⟨raw, len, h1, h2, h3⟩ := mChk_of hk
  simp only [mRel, decide_eq_true_eq] at h3
  obtain ⟨rfl, h4, h5, h6⟩ := h3
  have h7 : 0 ≤ Op.lookupswitch.offset ps.toList d x.toInt := mOff_nn _ _ _ h4 (fun q hq => by
    have := Array.all_eq_true_iff_forall_mem.mp h5 q (Array.mem_toList_iff.mp hq)
    simpa using this)
  exact fun a1 a2 H locs LS hH hS hL => lv_lookup (tgt := (Op.lookupswitch.offset ps.toList d x.toInt).toNat) (off := Op.lookupswitch.offset ps.toList d x.toInt - pc) hx hb h1 h6 (by rw [Array.toList_map]; exact mOff pc x.toInt ps.toList d) (by omega) (k a1 a2 H locs LS hH hS hL)
theorem sm_iconst (C : mCtx G S0 o nL p s m args c cc) {n : Int} (hk : mChk o cc (pc, .iconst n, nx) = true) (k : mW G S0 n0 z0 p l e R s m args below meth c Q (nx) L (.int (Int32.ofInt n) :: st) (h)) : mW G S0 n0 z0 p l e R s m args below meth c Q (pc) L (st) (h) := by
  obtain ⟨hx, hb, hml, hown, hts, hG, hKs, hSF, hB⟩ := C
  obtain ⟨raw, len, h1, h2, h3⟩ := mChk_of hk
  simp only [mRel, Bool.or_eq_true, decide_eq_true_eq] at h3
  intro a1 a2 H locs LS hH hS hL
  have h9 : W p l e R s m args below meth c H locs (h.length - n0) (mSlots h - z0) Q (F0 m nx LS (.int (Int32.ofInt n) :: st.map (mV G))) := k a1 a2 H locs LS hH hS hL
  rcases h3 with (((⟨rfl, rfl⟩ | ⟨rfl, rfl, h4⟩) | ⟨rfl, rfl, h4⟩) | h3) | h3
  · subst h2; exact lv_iconst hx hb h1 rfl h9
  · subst h2; exact lv_bipush hx hb h1 h4 h9
  · subst h2; exact lv_sipush hx hb h1 h4 h9
  · split at h3
    · rename_i idx w hidx
      simp only [decide_eq_true_eq] at h3
      obtain ⟨hp, rfl⟩ := h3
      have hlk : Cond.constant (mOw o) idx (Int32.ofInt n) ∈ mTB := by
        rcases mPl_ok hp with g | g
        · exact mTB_in g rfl
        · exact absurd g tt_notin
      rcases mLd_ok hidx with ⟨rfl, rfl⟩ | ⟨rfl, rfl⟩
      · subst h2; exact lv_ldc hx hb hown (hts _ hlk) h1 h9
      · subst h2; exact lv_ldcw hx hb hown (hts _ hlk) h1 h9
    · cases h3
  · split at h3
    · rename_i idx hidx
      simp only [decide_eq_true_eq] at h3
      obtain ⟨hp, rfl⟩ := h3
      have hraw := mGs_ok hidx
      subst hraw; subst h2
      by_cases hn : n = 1
      · subst hn
        exact va_gets (ref := "java/lang/String") hx hb hSF.2.2.1 hS hown (hts _ (mTB_in (mPs_ok hp) rfl)) (fun _ z => z) h1 h9
      · exact absurd (mPs_ok hp) (by
          rw [show mSword o idx (.iconst n) = Cond.tt by
            unfold mSword
            split <;> first | rfl | (rename_i q; cases q <;> exact absurd rfl hn)]
          exact tt_notin)
    · cases h3
theorem sm_jsr_w (C : mCtx G S0 o nL p s m args c cc) {n : Int} (hk : mChk o cc (pc, .jsr_w n, nx) = true) (k : mW G S0 n0 z0 p l e R s m args below meth c Q (nx) L (.long (Int64.ofInt n) :: st) (h)) : mW G S0 n0 z0 p l e R s m args below meth c Q (pc) L (st) (h) := by
  obtain ⟨hx, hb, hml, hown, hts, hG, hKs, hSF, hB⟩ := C
  obtain ⟨raw, len, h1, h2, h3⟩ := mChk_of hk
  simp only [mRel, Bool.or_eq_true, decide_eq_true_eq] at h3
  intro a1 a2 H locs LS hH hS hL
  have h9 : W p l e R s m args below meth c H locs (h.length - n0) (mSlots h - z0) Q (F0 m nx LS (.long (Int64.ofInt n) :: st.map (mV G))) := k a1 a2 H locs LS hH hS hL
  rcases h3 with (⟨rfl, rfl, rfl⟩ | ⟨rfl, rfl, rfl⟩) | h3
  · subst h2; exact lv_lconst hx hb h1 (by decide) h9
  · subst h2; exact lv_lconst hx hb h1 (by decide) h9
  · split at h3
    · rename_i idx hidx
      simp only [decide_eq_true_eq] at h3
      obtain ⟨hp, rfl⟩ := h3
      have hraw := mL2_ok hidx
      subst hraw; subst h2
      have hlk : Cond.constantLong (mOw o) idx (Int64.ofInt n) ∈ mTB := by
        rcases mPl_ok hp with g | g
        · exact mTB_in g rfl
        · exact absurd g tt_notin
      exact lv_ldc2 hx hb hown (hts _ hlk) h1 h9
    · cases h3
end Mk2
