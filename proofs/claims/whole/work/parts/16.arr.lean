section Arr
variable {G : mG} {S0 : mHeap} {n0 z0 : Nat} {p : Program} {l : Launch} {e : Env} {R : Room} {s : State} {m : MethodId} {args : Array Value} {below : List Frame} {meth : Method} {c : Code} {Q : State → Prop} {cc : ByteArray} {o nL pc nx : Nat} {L : mLoc} {st : List Value} {h : mHeap} {H H1 : Heap}
theorem mRho_st {a : Nat} {v : Value} (ha : ¬ 64 ≤ a) (g : gS G a = v) : mRho G a = v := by
  unfold mRho
  rw [if_pos (by omega)]
  exact g
theorem mIn {α : Type} {xs : List α} {j : Int32} {x : α} (h0 : ¬ j < 0) (hx : xs[j.toNatClampNeg]? = some x) : vp_in j xs.length := fun q => by
  rcases q with q | q
  · exact h0 q
  · exact absurd (List.getElem?_eq_some_iff.mp hx).1 (by omega)
theorem mGetD {α : Type} {xs : List α} {j : Nat} {x d : α} (hx : xs[j]? = some x) : xs.getD j d = x := by
  rw [List.getD_eq_getElem?_getD, hx]
  rfl
theorem sm_iaload (C : mCtx G S0 o nL p s m args c cc) {a : Nat} {xs : List Int32} {j : Int32} {x : Int32} (hh : h[a]? = some (mI .int xs)) (h0 : ¬ j < 0) (hx0 : xs[j.toNatClampNeg]? = some x) (hk : mChk o cc (pc, .iaload, nx) = true) (k : mW G S0 n0 z0 p l e R s m args below meth c Q (nx) L (.int x :: st) (h)) : mW G S0 n0 z0 p l e R s m args below meth c Q (pc) L (.int j :: .ref a :: st) (h) := by
  obtain ⟨hx, hb, hml, hown, hts, hG, hKs, hSF, hB⟩ := C
  obtain ⟨hd, rfl⟩ := ck_iaload hk
  intro a1 a2 H locs LS hH hS hL
  have h9 := k a1 a2 H locs LS hH hS hL
  show W p l e R s m args below meth c H locs (h.length - n0) (mSlots h - z0) Q (F0 m pc LS (.int j :: mRho G a :: st.map (mV G)))
  have hin := mIn h0 hx0
  by_cases ha : 64 ≤ a
  · rw [mRho_dyn ha]
    refine va_iald hx hb hKs.1 (mP1 (hH.2.2.2 a _ ha hh)) 0 0 rfl rfl hin hd ?_
    rw [mGetD hx0]
    exact h9
  · have hs0 := hSF.1 a _ (by omega) (by rw [← hH.2.2.1 a (by omega)]; exact hh)
    obtain ⟨-, t, g1, g2⟩ := hs0
    rw [mRho_st ha g1]
    exact va_ti hx hb g2 hS hin (by show Value.int _ = Value.int x; rw [mGetD hx0]) hd h9
theorem sm_baload (C : mCtx G S0 o nL p s m args c cc) {a : Nat} {xs : List Int32} {j : Int32} {x : Int32} (hh : h[a]? = some (mI .byte xs)) (h0 : ¬ j < 0) (hx0 : xs[j.toNatClampNeg]? = some x) (hk : mChk o cc (pc, .baload, nx) = true) (k : mW G S0 n0 z0 p l e R s m args below meth c Q (nx) L (.int x :: st) (h)) : mW G S0 n0 z0 p l e R s m args below meth c Q (pc) L (.int j :: .ref a :: st) (h) := by
  obtain ⟨hx, hb, hml, hown, hts, hG, hKs, hSF, hB⟩ := C
  obtain ⟨hd, rfl⟩ := ck_baload hk
  intro a1 a2 H locs LS hH hS hL
  have h9 := k a1 a2 H locs LS hH hS hL
  show W p l e R s m args below meth c H locs (h.length - n0) (mSlots h - z0) Q (F0 m pc LS (.int j :: mRho G a :: st.map (mV G)))
  have hin := mIn h0 hx0
  by_cases ha : 64 ≤ a
  · rw [mRho_dyn ha]
    refine va_bald hx hb hKs.1 (mP1 (hH.2.2.2 a _ ha hh)) 0 1 rfl rfl hin hd ?_
    rw [mGetD hx0]
    exact h9
  · have hs0 := hSF.1 a _ (by omega) (by rw [← hH.2.2.1 a (by omega)]; exact hh)
    obtain ⟨-, t, g1, g2⟩ := hs0
    rw [mRho_st ha g1]
    exact va_tb hx hb g2 hS hin (by show Value.int _ = Value.int x; rw [mGetD hx0]) hd h9
theorem sm_baloadZ (C : mCtx G S0 o nL p s m args c cc) {a : Nat} {xs : List Int32} {j : Int32} {x : Int32} (hh : h[a]? = some (mI .boolean xs)) (h0 : ¬ j < 0) (hx0 : xs[j.toNatClampNeg]? = some x) (hk : mChk o cc (pc, .baload, nx) = true) (k : mW G S0 n0 z0 p l e R s m args below meth c Q (nx) L (.int x :: st) (h)) : mW G S0 n0 z0 p l e R s m args below meth c Q (pc) L (.int j :: .ref a :: st) (h) := by
  obtain ⟨hx, hb, hml, hown, hts, hG, hKs, hSF, hB⟩ := C
  obtain ⟨hd, rfl⟩ := ck_baload hk
  intro a1 a2 H locs LS hH hS hL
  have h9 := k a1 a2 H locs LS hH hS hL
  show W p l e R s m args below meth c H locs (h.length - n0) (mSlots h - z0) Q (F0 m pc LS (.int j :: mRho G a :: st.map (mV G)))
  have hin := mIn h0 hx0
  by_cases ha : 64 ≤ a
  · rw [mRho_dyn ha]
    refine va_zald hx hb hKs.1 (mP1 (hH.2.2.2 a _ ha hh)) 0 2 rfl rfl hin hd ?_
    rw [mGetD hx0]
    exact h9
  · have hs0 := hSF.1 a _ (by omega) (by rw [← hH.2.2.1 a (by omega)]; exact hh)
    rcases hs0.1 with g | g <;> cases g
theorem sm_laload (C : mCtx G S0 o nL p s m args c cc) {a : Nat} {xs : List Int64} {j : Int32} {x : Int64} (hh : h[a]? = some (mJ xs)) (h0 : ¬ j < 0) (hx0 : xs[j.toNatClampNeg]? = some x) (hk : mChk o cc (pc, .laload, nx) = true) (k : mW G S0 n0 z0 p l e R s m args below meth c Q (nx) L (.long x :: st) (h)) : mW G S0 n0 z0 p l e R s m args below meth c Q (pc) L (.int j :: .ref a :: st) (h) := by
  obtain ⟨hx, hb, hml, hown, hts, hG, hKs, hSF, hB⟩ := C
  obtain ⟨hd, rfl⟩ := ck_laload hk
  intro a1 a2 H locs LS hH hS hL
  have h9 := k a1 a2 H locs LS hH hS hL
  show W p l e R s m args below meth c H locs (h.length - n0) (mSlots h - z0) Q (F0 m pc LS (.int j :: mRho G a :: st.map (mV G)))
  have hin := mIn h0 hx0
  by_cases ha : 64 ≤ a
  · rw [mRho_dyn ha]
    refine va_lald hx hb hKs.1 (mP1 (hH.2.2.2 a _ ha hh)) 0 3 rfl rfl hin hd ?_
    rw [mGetD hx0]
    exact h9
  · have hs0 := hSF.1 a _ (by omega) (by rw [← hH.2.2.1 a (by omega)]; exact hh)
    obtain ⟨t, g1, g2⟩ := hs0
    rw [mRho_st ha g1]
    exact va_tl hx hb g2 hS hin (by show Value.long _ = Value.long x; rw [mGetD hx0]) hd h9
theorem sm_iastore (C : mCtx G S0 o nL p s m args c cc) {a : Nat} {xs : List Int32} {j : Int32} {x : Int32} (hh : h[a]? = some (mI .int xs)) (ha : 64 ≤ a) (h0 : ¬ j < 0) (hl : j.toNatClampNeg < xs.length) (hk : mChk o cc (pc, .iastore, nx) = true) (k : mW G S0 n0 z0 p l e R s m args below meth c Q (nx) L (st) (h.set a (mI .int (xs.set j.toNatClampNeg x)))) : mW G S0 n0 z0 p l e R s m args below meth c Q (pc) L (.int x :: .int j :: .ref a :: st) (h) := by
  obtain ⟨hx, hb, hml, hown, hts, hG, hKs, hSF, hB⟩ := C
  obtain ⟨hd, rfl⟩ := ck_iastore hk
  intro a1 a2 H locs LS hH hS hL
  show W p l e R s m args below meth c H locs (h.length - n0) (mSlots h - z0) Q (F0 m pc LS (.int x :: .int j :: mRho G a :: st.map (mV G)))
  rw [mRho_dyn ha]
  have hat : H[gB G + (a - 64)]? = some (vp_cell (gA G .int) (xs.length, .inl (fun i => (xs).getD i 0))) := hH.2.2.2 a _ ha hh
  refine W.iast hx hb hat ((hKs.1.2 0 _ rfl).1 xs.length (fun i => .int (xs.getD i 0))) (fun q => by cases q) (by show ¬ (j < 0 ∨ (arrV _ _ _).slots.size ≤ _); rw [arrV_size]; exact fun q => q.elim h0 (fun q => by omega)) rfl rfl hd fun H1 e1 z oq => ?_
  have hz : mSlots (h.set a (mI .int (xs.set j.toNatClampNeg x))) = mSlots h := mSlots_set hh (by show (xs.set _ _).length = _; rw [List.length_set]; rfl)
  have h9 := k (by rw [List.length_set]; exact a1) (by rw [hz]; exact a2) H1 (locs ++ [⟨gB G + (a - 64), j.toNatClampNeg⟩]) LS (hH.set hh ha z oq (by
    show H1[gB G + (a - 64)]? = some (vp_cell (gA G .int) ((xs.set j.toNatClampNeg x).length, .inl (fun i => ((xs.set j.toNatClampNeg x)).getD i 0)))
    rw [e1, List.length_set]
    rw [vp_cell_i, vp_cell_i, arrV_store]
    congr 2
    funext i
    unfold updV
    by_cases hi : i = j.toNatClampNeg
    · subst hi
      rw [if_pos rfl, mGetD (List.getElem?_set_self hl)]
      skip
    · rw [if_neg hi]
      dsimp only
      rw [List.getD_eq_getElem?_getD, List.getD_eq_getElem?_getD, List.getElem?_set_ne (fun q => hi q.symm)])) (hS.put z oq (Nat.le_add_right _ _)) hL
  rw [List.length_set, hz] at h9
  exact h9
theorem sm_bastore (C : mCtx G S0 o nL p s m args c cc) {a : Nat} {xs : List Int32} {j : Int32} {x : Int32} (hh : h[a]? = some (mI .byte xs)) (ha : 64 ≤ a) (h0 : ¬ j < 0) (hl : j.toNatClampNeg < xs.length) (hk : mChk o cc (pc, .bastore, nx) = true) (k : mW G S0 n0 z0 p l e R s m args below meth c Q (nx) L (st) (h.set a (mI .byte (xs.set j.toNatClampNeg (vp_nar .byte x))))) : mW G S0 n0 z0 p l e R s m args below meth c Q (pc) L (.int x :: .int j :: .ref a :: st) (h) := by
  obtain ⟨hx, hb, hml, hown, hts, hG, hKs, hSF, hB⟩ := C
  obtain ⟨hd, rfl⟩ := ck_bastore hk
  intro a1 a2 H locs LS hH hS hL
  show W p l e R s m args below meth c H locs (h.length - n0) (mSlots h - z0) Q (F0 m pc LS (.int x :: .int j :: mRho G a :: st.map (mV G)))
  rw [mRho_dyn ha]
  have hat : H[gB G + (a - 64)]? = some (vp_cell (gA G .byte) (xs.length, .inl (fun i => (xs).getD i 0))) := hH.2.2.2 a _ ha hh
  refine W.bast hx hb hat ((hKs.1.2 1 _ rfl).1 xs.length (fun i => .int (xs.getD i 0))) (fun q => by cases q) (by show ¬ (j < 0 ∨ (arrV _ _ _).slots.size ≤ _); rw [arrV_size]; exact fun q => q.elim h0 (fun q => by omega)) rfl rfl hd fun H1 e1 z oq => ?_
  have hz : mSlots (h.set a (mI .byte (xs.set j.toNatClampNeg (vp_nar .byte x)))) = mSlots h := mSlots_set hh (by show (xs.set _ _).length = _; rw [List.length_set]; rfl)
  have h9 := k (by rw [List.length_set]; exact a1) (by rw [hz]; exact a2) H1 (locs ++ [⟨gB G + (a - 64), j.toNatClampNeg⟩]) LS (hH.set hh ha z oq (by
    show H1[gB G + (a - 64)]? = some (vp_cell (gA G .byte) ((xs.set j.toNatClampNeg (vp_nar .byte x)).length, .inl (fun i => ((xs.set j.toNatClampNeg (vp_nar .byte x))).getD i 0)))
    rw [e1, List.length_set]
    rw [vp_cell_i, vp_cell_i, arrV_store]
    congr 2
    funext i
    unfold updV
    by_cases hi : i = j.toNatClampNeg
    · subst hi
      rw [if_pos rfl, mGetD (List.getElem?_set_self hl)]
      rfl
    · rw [if_neg hi]
      dsimp only
      rw [List.getD_eq_getElem?_getD, List.getD_eq_getElem?_getD, List.getElem?_set_ne (fun q => hi q.symm)])) (hS.put z oq (Nat.le_add_right _ _)) hL
  rw [List.length_set, hz] at h9
  exact h9
theorem sm_bastoreZ (C : mCtx G S0 o nL p s m args c cc) {a : Nat} {xs : List Int32} {j : Int32} {x : Int32} (hh : h[a]? = some (mI .boolean xs)) (ha : 64 ≤ a) (h0 : ¬ j < 0) (hl : j.toNatClampNeg < xs.length) (hk : mChk o cc (pc, .bastore, nx) = true) (k : mW G S0 n0 z0 p l e R s m args below meth c Q (nx) L (st) (h.set a (mI .boolean (xs.set j.toNatClampNeg (vp_nar .boolean x))))) : mW G S0 n0 z0 p l e R s m args below meth c Q (pc) L (.int x :: .int j :: .ref a :: st) (h) := by
  obtain ⟨hx, hb, hml, hown, hts, hG, hKs, hSF, hB⟩ := C
  obtain ⟨hd, rfl⟩ := ck_bastore hk
  intro a1 a2 H locs LS hH hS hL
  show W p l e R s m args below meth c H locs (h.length - n0) (mSlots h - z0) Q (F0 m pc LS (.int x :: .int j :: mRho G a :: st.map (mV G)))
  rw [mRho_dyn ha]
  have hat : H[gB G + (a - 64)]? = some (vp_cell (gA G .boolean) (xs.length, .inl (fun i => (xs).getD i 0))) := hH.2.2.2 a _ ha hh
  refine W.zast hx hb hat ((hKs.1.2 2 _ rfl).1 xs.length (fun i => .int (xs.getD i 0))) (fun q => by cases q) (by show ¬ (j < 0 ∨ (arrV _ _ _).slots.size ≤ _); rw [arrV_size]; exact fun q => q.elim h0 (fun q => by omega)) rfl rfl hd fun H1 e1 z oq => ?_
  have hz : mSlots (h.set a (mI .boolean (xs.set j.toNatClampNeg (vp_nar .boolean x)))) = mSlots h := mSlots_set hh (by show (xs.set _ _).length = _; rw [List.length_set]; rfl)
  have h9 := k (by rw [List.length_set]; exact a1) (by rw [hz]; exact a2) H1 (locs ++ [⟨gB G + (a - 64), j.toNatClampNeg⟩]) LS (hH.set hh ha z oq (by
    show H1[gB G + (a - 64)]? = some (vp_cell (gA G .boolean) ((xs.set j.toNatClampNeg (vp_nar .boolean x)).length, .inl (fun i => ((xs.set j.toNatClampNeg (vp_nar .boolean x))).getD i 0)))
    rw [e1, List.length_set]
    rw [vp_cell_i, vp_cell_i, arrV_store]
    congr 2
    funext i
    unfold updV
    by_cases hi : i = j.toNatClampNeg
    · subst hi
      rw [if_pos rfl, mGetD (List.getElem?_set_self hl)]
      rfl
    · rw [if_neg hi]
      dsimp only
      rw [List.getD_eq_getElem?_getD, List.getD_eq_getElem?_getD, List.getElem?_set_ne (fun q => hi q.symm)])) (hS.put z oq (Nat.le_add_right _ _)) hL
  rw [List.length_set, hz] at h9
  exact h9
theorem sm_lastore (C : mCtx G S0 o nL p s m args c cc) {a : Nat} {xs : List Int64} {j : Int32} {x : Int64} (hh : h[a]? = some (mJ xs)) (ha : 64 ≤ a) (h0 : ¬ j < 0) (hl : j.toNatClampNeg < xs.length) (hk : mChk o cc (pc, .lastore, nx) = true) (k : mW G S0 n0 z0 p l e R s m args below meth c Q (nx) L (st) (h.set a (mJ (xs.set j.toNatClampNeg x)))) : mW G S0 n0 z0 p l e R s m args below meth c Q (pc) L (.long x :: .int j :: .ref a :: st) (h) := by
  obtain ⟨hx, hb, hml, hown, hts, hG, hKs, hSF, hB⟩ := C
  obtain ⟨hd, rfl⟩ := ck_lastore hk
  intro a1 a2 H locs LS hH hS hL
  show W p l e R s m args below meth c H locs (h.length - n0) (mSlots h - z0) Q (F0 m pc LS (.long x :: .int j :: mRho G a :: st.map (mV G)))
  rw [mRho_dyn ha]
  have hat : H[gB G + (a - 64)]? = some (vp_cell (gA G .long) (xs.length, .inr (.inl (fun i => (xs).getD i 0)))) := hH.2.2.2 a _ ha hh
  refine W.last hx hb hat ((hKs.1.2 3 _ rfl).1 xs.length (fun i => .long (xs.getD i 0))) (fun q => by cases q) (by show ¬ (j < 0 ∨ (arrV _ _ _).slots.size ≤ _); rw [arrV_size]; exact fun q => q.elim h0 (fun q => by omega)) rfl rfl hd fun H1 e1 z oq => ?_
  have hz : mSlots (h.set a (mJ (xs.set j.toNatClampNeg x))) = mSlots h := mSlots_set hh (by show (xs.set _ _).length = _; rw [List.length_set]; rfl)
  have h9 := k (by rw [List.length_set]; exact a1) (by rw [hz]; exact a2) H1 (locs ++ [⟨gB G + (a - 64), j.toNatClampNeg⟩]) LS (hH.set hh ha z oq (by
    show H1[gB G + (a - 64)]? = some (vp_cell (gA G .long) ((xs.set j.toNatClampNeg x).length, .inr (.inl (fun i => ((xs.set j.toNatClampNeg x)).getD i 0))))
    rw [e1, List.length_set]
    rw [vp_cell_l, vp_cell_l, arrV_store]
    congr 2
    funext i
    unfold updV
    by_cases hi : i = j.toNatClampNeg
    · subst hi
      rw [if_pos rfl, mGetD (List.getElem?_set_self hl)]
      skip
    · rw [if_neg hi]
      dsimp only
      rw [List.getD_eq_getElem?_getD, List.getD_eq_getElem?_getD, List.getElem?_set_ne (fun q => hi q.symm)])) (hS.put z oq (Nat.le_add_right _ _)) hL
  rw [List.length_set, hz] at h9
  exact h9
end Arr
