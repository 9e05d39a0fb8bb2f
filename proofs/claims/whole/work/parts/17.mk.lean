theorem ac_byte : Cond.arrayClass .byte ∈ lw_tbl := List.mem_of_getElem? (i := 210) (by decide +kernel)
theorem ac_int : Cond.arrayClass .int ∈ lw_tbl := List.mem_of_getElem? (i := 211) (by decide +kernel)
theorem ac_long : Cond.arrayClass .long ∈ lw_tbl := List.mem_of_getElem? (i := 527) (by decide +kernel)
theorem ac_boolean : Cond.arrayClass .boolean ∈ lw_tbl := List.mem_of_getElem? (i := 1650) (by decide +kernel)
section Mk
variable {G : mG} {S0 : mHeap} {n0 z0 : Nat} {p : Program} {l : Launch} {e : Env} {R : Room} {s : State} {m : MethodId} {args : Array Value} {below : List Frame} {meth : Method} {c : Code} {Q : State → Prop} {cc : ByteArray} {o nL pc nx : Nat} {L : mLoc} {st : List Value} {h : mHeap} {H H1 : Heap}
theorem mRc_ty {r : Nat} (h : mRc r = true) : ∃ t0 : Nat, (mTys G)[t0]? = some (gR G r, FieldType.object (mOw r)) := by
  simp only [mRc, decide_eq_true_eq] at h
  rcases h with rfl | rfl | rfl | rfl
  · exact ⟨4, rfl⟩
  · exact ⟨5, rfl⟩
  · exact ⟨6, rfl⟩
  · exact ⟨7, rfl⟩
theorem mRc_lt {r : Nat} (h : mRc r = true) : r < 13 := by
  simp only [mRc, decide_eq_true_eq] at h
  omega
theorem mRc_ao {r : Nat} (h : mRc r = true) (hK : mKs G s) : va_AO (mOw r) s := by
  simp only [mRc, decide_eq_true_eq] at h
  obtain ⟨-, -, ⟨h3, h4, h5, h6⟩, -⟩ := hK
  rcases h with rfl | rfl | rfl | rfl
  · exact h3
  · exact h4
  · exact h5
  · exact h6
theorem sm_aaload (C : mCtx G S0 o nL p s m args c cc) {a r : Nat} {xs : List (Option Nat)} {j : Int32} {x : Option Nat} {v : Value} (hh : h[a]? = some (mR r xs)) (hr : mRc r = true) (h0 : ¬ j < 0) (hx0 : xs[j.toNatClampNeg]? = some x) (hv : (x = none ∧ v = .null) ∨ ∃ b, 64 ≤ b ∧ x = some b ∧ v = .ref b) (hk : mChk o cc (pc, .aaload, nx) = true) (k : mW G S0 n0 z0 p l e R s m args below meth c Q (nx) L (v :: st) (h)) : mW G S0 n0 z0 p l e R s m args below meth c Q (pc) L (.int j :: .ref a :: st) (h) := by
  obtain ⟨hx, hb, hml, hown, hts, hG, hKs, hSF, hB⟩ := C
  obtain ⟨hd, rfl⟩ := ck_aaload hk
  intro a1 a2 H locs LS hH hS hL
  have h9 : W p l e R s m args below meth c H locs (h.length - n0) (mSlots h - z0) Q (F0 m (pc + 1) LS (mV G v :: st.map (mV G))) := k a1 a2 H locs LS hH hS hL
  show W p l e R s m args below meth c H locs (h.length - n0) (mSlots h - z0) Q (F0 m pc LS (.int j :: mRho G a :: st.map (mV G)))
  have hin := mIn h0 hx0
  by_cases ha : 64 ≤ a
  · rw [mRho_dyn ha]
    obtain ⟨t0, ht⟩ := mRc_ty (G := G) hr
    refine va_aldq hx hb hKs.1 (mP1 (hH.2.2.2 a _ ha hh)) 0 t0 rfl ht hin hd ?_
    rw [mGetD hx0]
    rcases hv with ⟨rfl, rfl⟩ | ⟨b, hb64, rfl, rfl⟩
    · exact h9
    · rw [show mV G (.ref b) = .ref (gB G + (b - 64)) from mRho_dyn hb64] at h9
      exact h9
  · exact False.elim (hSF.1 a (mR r xs) (by omega) (by rw [← hH.2.2.1 a (by omega)]; exact hh))
theorem sm_aastore (C : mCtx G S0 o nL p s m args c cc) {a v r : Nat} {xs : List (Option Nat)} {fs : List Value} {j : Int32} (hh : h[a]? = some (mR r xs)) (hhv : h[v]? = some (mO r fs)) (ha : 64 ≤ a) (hv64 : 64 ≤ v) (hr : mRc r = true) (h0 : ¬ j < 0) (hl : j.toNatClampNeg < xs.length) (hk : mChk o cc (pc, .aastore, nx) = true) (k : mW G S0 n0 z0 p l e R s m args below meth c Q (nx) L (st) (h.set a (mR r (xs.set j.toNatClampNeg (some v))))) : mW G S0 n0 z0 p l e R s m args below meth c Q (pc) L (.ref v :: .int j :: .ref a :: st) (h) := by
  obtain ⟨hx, hb, hml, hown, hts, hG, hKs, hSF, hB⟩ := C
  obtain ⟨hd, rfl⟩ := ck_aastore hk
  intro a1 a2 H locs LS hH hS hL
  show W p l e R s m args below meth c H locs (h.length - n0) (mSlots h - z0) Q (F0 m pc LS (mRho G v :: .int j :: mRho G a :: st.map (mV G)))
  rw [mRho_dyn ha, mRho_dyn hv64]
  have hlt := mRc_lt hr
  obtain ⟨t0, ht⟩ := mRc_ty (G := G) hr
  obtain ⟨r', hr', cellV, g1, g2, g3, -⟩ := hH.2.2.2 v _ hv64 hhv
  have hcls := (hKs.1.1 r _ (mCl_at hlt)).2
  obtain ⟨kA, comp, k1, k2, k3, -⟩ := (hKs.1.2 t0 _ ht).2
  have hcomp : comp = (gD G).1 r := Option.some.inj (k3.symm.trans hcls.1)
  subst hcomp
  obtain ⟨kC, hkC, -⟩ := hcls.2
  have hat : H[gB G + (a - 64)]? = some (vp_cell (gR G r) (xs.length, .inr (.inr (.inr (.inr (fun i => (xs.getD i none).map (fun b => gB G + (b - 64)))))))) := hH.2.2.2 a _ ha hh
  refine W.aast hx hb hat (fun q h => by cases h) (fun h => by cases h) k1 k2 rfl hkC ⟨h0, by show _ < (arrV _ _ _).slots.size; rw [arrV_size]; exact hl⟩ g1 (fun q h => by rw [g3] at h; cases h) (by rw [g2]; exact hkC) (by rw [g2]; exact va_assign hcls) rfl rfl hd fun H1 e1 z oq => ?_
  have hz : mSlots (h.set a (mR r (xs.set j.toNatClampNeg (some v)))) = mSlots h := mSlots_set hh (by show (xs.set _ _).length = _; rw [List.length_set]; rfl)
  have h9 := k (by rw [List.length_set]; exact a1) (by rw [hz]; exact a2) H1 (locs ++ [⟨gB G + (a - 64), j.toNatClampNeg⟩]) LS (hH.set hh ha z oq (by
    show H1[gB G + (a - 64)]? = some (vp_cell (gR G r) ((xs.set j.toNatClampNeg (some v)).length, .inr (.inr (.inr (.inr (fun i => ((xs.set j.toNatClampNeg (some v)).getD i none).map (fun b => gB G + (b - 64))))))))
    rw [e1, List.length_set]
    rw [vp_cell_q, vp_cell_q, arrV_store]
    congr 2
    funext i
    unfold updV
    by_cases hi : i = j.toNatClampNeg
    · subst hi
      rw [if_pos rfl, mGetD (List.getElem?_set_self hl)]
      rfl
    · rw [if_neg hi]
      dsimp only
      rw [List.getD_eq_getElem?_getD, List.getD_eq_getElem?_getD, List.getElem?_set_ne (fun q => hi q.symm)])) (hS.put z oq (Nat.le_add_right _ _)) hL
  rw [List.length_set, hz] at h9
  exact h9
theorem sm_alenI (C : mCtx G S0 o nL p s m args c cc) {a : Nat} {ty : FieldType} {xs : List Int32} (hty : ty = .int ∨ ty = .byte ∨ ty = .boolean) (hh : h[a]? = some (mI ty xs)) (hk : mChk o cc (pc, .arraylength, nx) = true) (k : mW G S0 n0 z0 p l e R s m args below meth c Q (nx) L (.int (Int32.ofNat xs.length) :: st) (h)) : mW G S0 n0 z0 p l e R s m args below meth c Q (pc) L (.ref a :: st) (h) := by
  obtain ⟨hx, hb, hml, hown, hts, hG, hKs, hSF, hB⟩ := C
  obtain ⟨hd, rfl⟩ := ck_arraylength hk
  intro a1 a2 H locs LS hH hS hL
  have h9 := k a1 a2 H locs LS hH hS hL
  show W p l e R s m args below meth c H locs (h.length - n0) (mSlots h - z0) Q (F0 m pc LS (mRho G a :: st.map (mV G)))
  by_cases ha : 64 ≤ a
  · rw [mRho_dyn ha]
    obtain ⟨t0, ht⟩ : ∃ t0 : Nat, (mTys G)[t0]? = some (gA G ty, ty) := by
      rcases hty with rfl | rfl | rfl
      · exact ⟨0, rfl⟩
      · exact ⟨1, rfl⟩
      · exact ⟨2, rfl⟩
    exact va_alen hx hb hKs.1 (mP1 (hH.2.2.2 a _ ha hh)) 0 t0 rfl ht rfl hd h9
  · have hs0 := hSF.1 a _ (by omega) (by rw [← hH.2.2.1 a (by omega)]; exact hh)
    obtain ⟨-, t, g1, g2⟩ := hs0
    rw [mRho_st ha g1]
    exact va_tlen hx hb g2 hS rfl hd h9
theorem sm_alenJ (C : mCtx G S0 o nL p s m args c cc) {a : Nat} {xs : List Int64} (hh : h[a]? = some (mJ xs)) (hk : mChk o cc (pc, .arraylength, nx) = true) (k : mW G S0 n0 z0 p l e R s m args below meth c Q (nx) L (.int (Int32.ofNat xs.length) :: st) (h)) : mW G S0 n0 z0 p l e R s m args below meth c Q (pc) L (.ref a :: st) (h) := by
  obtain ⟨hx, hb, hml, hown, hts, hG, hKs, hSF, hB⟩ := C
  obtain ⟨hd, rfl⟩ := ck_arraylength hk
  intro a1 a2 H locs LS hH hS hL
  have h9 := k a1 a2 H locs LS hH hS hL
  show W p l e R s m args below meth c H locs (h.length - n0) (mSlots h - z0) Q (F0 m pc LS (mRho G a :: st.map (mV G)))
  by_cases ha : 64 ≤ a
  · rw [mRho_dyn ha]
    have ht : (mTys G)[3]? = some (gA G .long, .long) := rfl
    generalize 3 = t0 at ht
    exact va_alen hx hb hKs.1 (mP1 (hH.2.2.2 a _ ha hh)) 0 t0 rfl ht rfl hd h9
  · have hs0 := hSF.1 a _ (by omega) (by rw [← hH.2.2.1 a (by omega)]; exact hh)
    obtain ⟨t, g1, g2⟩ := hs0
    rw [mRho_st ha g1]
    exact va_tlen hx hb g2 hS rfl hd h9
theorem sm_alenR (C : mCtx G S0 o nL p s m args c cc) {a : Nat} {r : Nat} {xs : List (Option Nat)} (hr : mRc r = true) (hh : h[a]? = some (mR r xs)) (hk : mChk o cc (pc, .arraylength, nx) = true) (k : mW G S0 n0 z0 p l e R s m args below meth c Q (nx) L (.int (Int32.ofNat xs.length) :: st) (h)) : mW G S0 n0 z0 p l e R s m args below meth c Q (pc) L (.ref a :: st) (h) := by
  obtain ⟨hx, hb, hml, hown, hts, hG, hKs, hSF, hB⟩ := C
  obtain ⟨hd, rfl⟩ := ck_arraylength hk
  intro a1 a2 H locs LS hH hS hL
  have h9 := k a1 a2 H locs LS hH hS hL
  show W p l e R s m args below meth c H locs (h.length - n0) (mSlots h - z0) Q (F0 m pc LS (mRho G a :: st.map (mV G)))
  by_cases ha : 64 ≤ a
  · rw [mRho_dyn ha]
    obtain ⟨t0, ht⟩ := mRc_ty (G := G) hr
    exact va_alen hx hb hKs.1 (mP1 (hH.2.2.2 a _ ha hh)) 0 t0 rfl ht rfl hd h9
  · have hs0 := hSF.1 a _ (by omega) (by rw [← hH.2.2.1 a (by omega)]; exact hh)
    exact hs0.elim
theorem sm_newarray_int (C : mCtx G S0 o nL p s m args c cc) {n : Int32} (h0 : ¬ n < 0) (hn : n.toNatClampNeg ≤ 100000) (hrc : h.length + 1 - n0 ≤ R.cells) (hrs : mSlots h + n.toNatClampNeg - z0 ≤ R.slots) (hk : mChk o cc (pc, .newarray .int, nx) = true) (k : mW G S0 n0 z0 p l e R s m args below meth c Q (nx) L (.ref h.length :: st) (h ++ [mI .int (List.replicate n.toNatClampNeg 0)])) : mW G S0 n0 z0 p l e R s m args below meth c Q (pc) L (.int n :: st) (h) := by
  obtain ⟨hx, hb, hml, hown, hts, hG, hKs, hSF, hB⟩ := C
  obtain ⟨raw, len, h1, h2, h3⟩ := mChk_of hk
  simp only [mRel, decide_eq_true_eq] at h3
  obtain ⟨rfl, rfl⟩ := h3
  subst h2
  intro a1 a2 H locs LS hH hS hL
  show W p l e R s m args below meth c H locs (h.length - n0) (mSlots h - z0) Q (F0 m pc LS (.int n :: st.map (mV G)))
  refine va_newaK (atype := .int) hx hb (hts _ (mTB_in ac_int rfl)) rfl h1 rfl h0 rfl (by show n.toNatClampNeg * 4 ≤ _; omega) (by omega) (by omega) rfl fun H1 cA e1 z1 o1 hAr hNm => ?_
  have hcA : cA = gA G .int := Option.some.inj (hNm.symm.trans (hKs.1.2 0 _ rfl).2)
  subst hcA
  have hsz : mSlots (h ++ [mI .int (List.replicate n.toNatClampNeg 0)]) = mSlots h + n.toNatClampNeg := by
    rw [mSlots_push]
    show _ + (List.replicate _ _).length = _
    rw [List.length_replicate]
  have h9 := k (by rw [List.length_append]; omega) (by rw [hsz]; omega) H1 locs LS (hH.push z1 o1 (by
    show H1[H.size]? = some (arrV (gA G .int) (List.replicate n.toNatClampNeg 0).length (fun j => .int ((List.replicate n.toNatClampNeg 0).getD j 0)))
    rw [e1, List.length_replicate]
    congr 2
    funext j
    show Value.int 0 = _
    congr 1
    rw [List.getD_eq_getElem?_getD, List.getElem?_replicate]
    split <;> rfl)) ⟨Nat.le_trans hS.1 (by omega), fun x g1 g2 => (o1 x (Nat.lt_of_lt_of_le g1 hS.1)).trans (hS.2.1 x g1 g2), hS.2.2⟩ hL
  rw [List.length_append, hsz, show h.length + [mI .int (List.replicate n.toNatClampNeg 0)].length - n0 = h.length - n0 + 1 by show h.length + 1 - n0 = _; omega, show mSlots h + n.toNatClampNeg - z0 = mSlots h - z0 + n.toNatClampNeg by omega] at h9
  rw [List.map_cons, show mV G (.ref h.length) = .ref H.size from hH.ref] at h9
  exact h9
theorem sm_newarray_byte (C : mCtx G S0 o nL p s m args c cc) {n : Int32} (h0 : ¬ n < 0) (hn : n.toNatClampNeg ≤ 100000) (hrc : h.length + 1 - n0 ≤ R.cells) (hrs : mSlots h + n.toNatClampNeg - z0 ≤ R.slots) (hk : mChk o cc (pc, .newarray .byte, nx) = true) (k : mW G S0 n0 z0 p l e R s m args below meth c Q (nx) L (.ref h.length :: st) (h ++ [mI .byte (List.replicate n.toNatClampNeg 0)])) : mW G S0 n0 z0 p l e R s m args below meth c Q (pc) L (.int n :: st) (h) := by
  obtain ⟨hx, hb, hml, hown, hts, hG, hKs, hSF, hB⟩ := C
  obtain ⟨raw, len, h1, h2, h3⟩ := mChk_of hk
  simp only [mRel, decide_eq_true_eq] at h3
  obtain ⟨rfl, rfl⟩ := h3
  subst h2
  intro a1 a2 H locs LS hH hS hL
  show W p l e R s m args below meth c H locs (h.length - n0) (mSlots h - z0) Q (F0 m pc LS (.int n :: st.map (mV G)))
  refine va_newaK (atype := .byte) hx hb (hts _ (mTB_in ac_byte rfl)) rfl h1 rfl h0 rfl (by show n.toNatClampNeg * 1 ≤ _; omega) (by omega) (by omega) rfl fun H1 cA e1 z1 o1 hAr hNm => ?_
  have hcA : cA = gA G .byte := Option.some.inj (hNm.symm.trans (hKs.1.2 1 _ rfl).2)
  subst hcA
  have hsz : mSlots (h ++ [mI .byte (List.replicate n.toNatClampNeg 0)]) = mSlots h + n.toNatClampNeg := by
    rw [mSlots_push]
    show _ + (List.replicate _ _).length = _
    rw [List.length_replicate]
  have h9 := k (by rw [List.length_append]; omega) (by rw [hsz]; omega) H1 locs LS (hH.push z1 o1 (by
    show H1[H.size]? = some (arrV (gA G .byte) (List.replicate n.toNatClampNeg 0).length (fun j => .int ((List.replicate n.toNatClampNeg 0).getD j 0)))
    rw [e1, List.length_replicate]
    congr 2
    funext j
    show Value.int 0 = _
    congr 1
    rw [List.getD_eq_getElem?_getD, List.getElem?_replicate]
    split <;> rfl)) ⟨Nat.le_trans hS.1 (by omega), fun x g1 g2 => (o1 x (Nat.lt_of_lt_of_le g1 hS.1)).trans (hS.2.1 x g1 g2), hS.2.2⟩ hL
  rw [List.length_append, hsz, show h.length + [mI .byte (List.replicate n.toNatClampNeg 0)].length - n0 = h.length - n0 + 1 by show h.length + 1 - n0 = _; omega, show mSlots h + n.toNatClampNeg - z0 = mSlots h - z0 + n.toNatClampNeg by omega] at h9
  rw [List.map_cons, show mV G (.ref h.length) = .ref H.size from hH.ref] at h9
  exact h9
theorem sm_newarray_boolean (C : mCtx G S0 o nL p s m args c cc) {n : Int32} (h0 : ¬ n < 0) (hn : n.toNatClampNeg ≤ 100000) (hrc : h.length + 1 - n0 ≤ R.cells) (hrs : mSlots h + n.toNatClampNeg - z0 ≤ R.slots) (hk : mChk o cc (pc, .newarray .boolean, nx) = true) (k : mW G S0 n0 z0 p l e R s m args below meth c Q (nx) L (.ref h.length :: st) (h ++ [mI .boolean (List.replicate n.toNatClampNeg 0)])) : mW G S0 n0 z0 p l e R s m args below meth c Q (pc) L (.int n :: st) (h) := by
  obtain ⟨hx, hb, hml, hown, hts, hG, hKs, hSF, hB⟩ := C
  obtain ⟨raw, len, h1, h2, h3⟩ := mChk_of hk
  simp only [mRel, decide_eq_true_eq] at h3
  obtain ⟨rfl, rfl⟩ := h3
  subst h2
  intro a1 a2 H locs LS hH hS hL
  show W p l e R s m args below meth c H locs (h.length - n0) (mSlots h - z0) Q (F0 m pc LS (.int n :: st.map (mV G)))
  refine va_newaK (atype := .boolean) hx hb (hts _ (mTB_in ac_boolean rfl)) rfl h1 rfl h0 rfl (by show n.toNatClampNeg * 1 ≤ _; omega) (by omega) (by omega) rfl fun H1 cA e1 z1 o1 hAr hNm => ?_
  have hcA : cA = gA G .boolean := Option.some.inj (hNm.symm.trans (hKs.1.2 2 _ rfl).2)
  subst hcA
  have hsz : mSlots (h ++ [mI .boolean (List.replicate n.toNatClampNeg 0)]) = mSlots h + n.toNatClampNeg := by
    rw [mSlots_push]
    show _ + (List.replicate _ _).length = _
    rw [List.length_replicate]
  have h9 := k (by rw [List.length_append]; omega) (by rw [hsz]; omega) H1 locs LS (hH.push z1 o1 (by
    show H1[H.size]? = some (arrV (gA G .boolean) (List.replicate n.toNatClampNeg 0).length (fun j => .int ((List.replicate n.toNatClampNeg 0).getD j 0)))
    rw [e1, List.length_replicate]
    congr 2
    funext j
    show Value.int 0 = _
    congr 1
    rw [List.getD_eq_getElem?_getD, List.getElem?_replicate]
    split <;> rfl)) ⟨Nat.le_trans hS.1 (by omega), fun x g1 g2 => (o1 x (Nat.lt_of_lt_of_le g1 hS.1)).trans (hS.2.1 x g1 g2), hS.2.2⟩ hL
  rw [List.length_append, hsz, show h.length + [mI .boolean (List.replicate n.toNatClampNeg 0)].length - n0 = h.length - n0 + 1 by show h.length + 1 - n0 = _; omega, show mSlots h + n.toNatClampNeg - z0 = mSlots h - z0 + n.toNatClampNeg by omega] at h9
  rw [List.map_cons, show mV G (.ref h.length) = .ref H.size from hH.ref] at h9
  exact h9
theorem sm_newarray_long (C : mCtx G S0 o nL p s m args c cc) {n : Int32} (h0 : ¬ n < 0) (hn : n.toNatClampNeg ≤ 100000) (hrc : h.length + 1 - n0 ≤ R.cells) (hrs : mSlots h + n.toNatClampNeg - z0 ≤ R.slots) (hk : mChk o cc (pc, .newarray .long, nx) = true) (k : mW G S0 n0 z0 p l e R s m args below meth c Q (nx) L (.ref h.length :: st) (h ++ [mJ (List.replicate n.toNatClampNeg 0)])) : mW G S0 n0 z0 p l e R s m args below meth c Q (pc) L (.int n :: st) (h) := by
  obtain ⟨hx, hb, hml, hown, hts, hG, hKs, hSF, hB⟩ := C
  obtain ⟨raw, len, h1, h2, h3⟩ := mChk_of hk
  simp only [mRel, decide_eq_true_eq] at h3
  obtain ⟨rfl, rfl⟩ := h3
  subst h2
  intro a1 a2 H locs LS hH hS hL
  show W p l e R s m args below meth c H locs (h.length - n0) (mSlots h - z0) Q (F0 m pc LS (.int n :: st.map (mV G)))
  refine va_newaK (atype := .long) hx hb (hts _ (mTB_in ac_long rfl)) rfl h1 rfl h0 rfl (by show n.toNatClampNeg * 8 ≤ _; omega) (by omega) (by omega) rfl fun H1 cA e1 z1 o1 hAr hNm => ?_
  have hcA : cA = gA G .long := Option.some.inj (hNm.symm.trans (hKs.1.2 3 _ rfl).2)
  subst hcA
  have hsz : mSlots (h ++ [mJ (List.replicate n.toNatClampNeg 0)]) = mSlots h + n.toNatClampNeg := by
    rw [mSlots_push]
    show _ + (List.replicate _ _).length = _
    rw [List.length_replicate]
  have h9 := k (by rw [List.length_append]; omega) (by rw [hsz]; omega) H1 locs LS (hH.push z1 o1 (by
    show H1[H.size]? = some (arrV (gA G .long) (List.replicate n.toNatClampNeg 0).length (fun j => .long ((List.replicate n.toNatClampNeg 0).getD j 0)))
    rw [e1, List.length_replicate]
    congr 2
    funext j
    show Value.long 0 = _
    congr 1
    rw [List.getD_eq_getElem?_getD, List.getElem?_replicate]
    split <;> rfl)) ⟨Nat.le_trans hS.1 (by omega), fun x g1 g2 => (o1 x (Nat.lt_of_lt_of_le g1 hS.1)).trans (hS.2.1 x g1 g2), hS.2.2⟩ hL
  rw [List.length_append, hsz, show h.length + [mJ (List.replicate n.toNatClampNeg 0)].length - n0 = h.length - n0 + 1 by show h.length + 1 - n0 = _; omega, show mSlots h + n.toNatClampNeg - z0 = mSlots h - z0 + n.toNatClampNeg by omega] at h9
  rw [List.map_cons, show mV G (.ref h.length) = .ref H.size from hH.ref] at h9
  exact h9
end Mk
