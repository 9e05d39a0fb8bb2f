section Calls3
variable {G : mG} {S0 : mHeap} {n0 z0 : Nat} {p : Program} {l : Launch} {e : Env} {R : Room} {s : State} {m : MethodId} {args : Array Value} {below : List Frame} {meth : Method} {c : Code} {Q : State → Prop} {cc : ByteArray} {o nL pc nx : Nat} {L : mLoc} {st : List Value} {h : mHeap}
theorem mArith {a b c0 r : Nat} (h1 : a ≤ b) (h2 : b ≤ c0) (h3 : c0 - a ≤ r) : b - a + (c0 - b) ≤ r ∧ b - a + (c0 - b) = c0 - a := by omega
/-- a static call -/
theorem mCallT (C : mCtx G S0 o nL p s m args c cc) {q d : Nat} {v : Option Value} {h2 : mHeap} (hk : mChk o cc (pc, .invokestatic q, nx) = true) (hq : q % 16 ≤ st.length) (hcat : mCat (st.drop (q % 16)) ≤ 8) (hLn : L.length = nL)
    (hM : mMet l G S0 d (q / 512) ((st.take (q % 16)).reverse) h v h2) (hg : h.length ≤ h2.length ∧ mSlots h ≤ mSlots h2) (hrf : d + 2 ≤ R.frames) (hrl : 40 * (d + 2) ≤ R.locals) (hrc : h2.length - n0 ≤ R.cells) (hrs : mSlots h2 - z0 ≤ R.slots)
    (k : mW G S0 n0 z0 p l e R s m args below meth c Q nx L (v.toList ++ st.drop (q % 16)) h2) : mW G S0 n0 z0 p l e R s m args below meth c Q pc L st h := by
  obtain ⟨hx, hb, hml, hown, hts, hG, hKs, hSF, hB⟩ := C
  obtain ⟨raw, len, h1, hn, h3⟩ := mChk_of hk
  simp only [mRel] at h3
  split at h3
  rotate_left
  · cases h3
  rename_i idx hidx
  simp only [decide_eq_true_eq] at h3
  obtain ⟨hp, rfl⟩ := h3
  have hraw := mIt_ok hidx
  subst hraw; subst hn
  have hfk := mPl_fk hp
  simp only [mPfk, decide_eq_true_eq] at hfk
  obtain ⟨hy, hon, hki, har⟩ := hfk
  have hlk : Cond.methodLink (mOw o) idx (mNm (q / 512)) ∈ mTB := by
    rcases mPl_ok hp with g | g
    · exact mTB_in g rfl
    · exact absurd g tt_notin
  obtain ⟨hcode, ⟨pos, hmw⟩, -⟩ := mLfs hy
  obtain ⟨w1, w2, w3, w4, w5, w6⟩ := mMw_spec hmw
  have hd := mDsc_at hy
  rw [if_pos hki, ← har] at hd
  intro a1 a2 H locs LS hH hS hL
  have hgi : GoodIn mTB (va_wsS (mOw o) idx (mNm (q / 512)) (mWs (q / 512))) := by
    intro w hw
    unfold va_wsS at hw
    simp only [List.cons_append, List.nil_append, List.mem_cons] at hw
    have hm : w ∈ mTB := by
      rcases hw with rfl | rfl | rfl | hw
      · exact hlk
      · exact mTB_in (w3 hki) rfl
      · exact mTB_in w1 rfl
      · exact mWs_in hy hw
    exact ⟨hm, good_of_word (mTB_good w hm)⟩
  have hml2 := mMax_le hy
  have hst : st = st.take (q % 16) ++ st.drop (q % 16) := (List.take_append_drop _ _).symm
  obtain ⟨m1, m2⟩ := mArith a1 hg.1 hrc
  obtain ⟨m3, m4⟩ := mArith a2 hg.2 hrs
  refine mCallW (h1 := h2) (r := v) (va_runS (Ts := mTB) (own := mOw o) (index := idx) (As := ((st.take (q % 16)).reverse).map (mV G)) (rest := (st.drop (q % 16)).map (mV G)) ⟨hx, hb, hml, hown, hts⟩ hM (va_cwS (q % 16) hts hgi rfl rfl rfl ⟨w6.1, w6.2.1, hd⟩ ⟨by show d + 1 + 1 ≤ _; omega, by show 8 + (mMax (q / 512) + 11) + 40 * (d + 1) ≤ _; omega⟩) ⟨mPre_blind, fun U hU hW => ⟨rfl, mPre_at hKs hSF hB hH hS hU hW⟩⟩ rfl (by rw [List.length_map, List.length_reverse, List.length_take]; omega) (hL.1.trans hLn) (by
      show st.map (mV G) = _
      rw [List.map_reverse, List.reverse_reverse, ← List.map_append, ← hst]) (lv_room (by rw [mCat_map hG]; exact hcat)) h1 ⟨m1, m3⟩) hS (fun H1 locs1 hH1 hS1 => ?_)
  rw [m2, m4]
  have h9 := k (Nat.le_trans a1 hg.1) (Nat.le_trans a2 hg.2) H1 locs1 LS hH1 hS1 hL
  rw [List.map_append] at h9
  cases v <;> exact h9
/-- a virtual call: the receiver is an object of the method's class -/
theorem mCallV (C : mCtx G S0 o nL p s m args c cc) {q d a : Nat} {fs : List Value} {v : Option Value} {h2 : mHeap} (hk : mChk o cc (pc, .invokevirtual q, nx) = true) (hq : 0 < q % 16) (hrec : st[q % 16 - 1]? = some (.ref a)) (hcell : h[a]? = some (mO (q / 16 % 32) fs)) (hcat : mCat (st.drop (q % 16)) ≤ 8) (hLn : L.length = nL)
    (hM : mMet l G S0 d (q / 512) ((st.take (q % 16)).reverse) h v h2) (hg : h.length ≤ h2.length ∧ mSlots h ≤ mSlots h2) (hrf : d + 2 ≤ R.frames) (hrl : 40 * (d + 2) ≤ R.locals) (hrc : h2.length - n0 ≤ R.cells) (hrs : mSlots h2 - z0 ≤ R.slots)
    (k : mW G S0 n0 z0 p l e R s m args below meth c Q nx L (v.toList ++ st.drop (q % 16)) h2) : mW G S0 n0 z0 p l e R s m args below meth c Q pc L st h := by
  obtain ⟨hx, hb, hml, hown, hts, hG, hKs, hSF, hB⟩ := C
  obtain ⟨raw, len, h1, hn, h3⟩ := mChk_of hk
  simp only [mRel] at h3
  split at h3
  rotate_left
  · cases h3
  rename_i idx hidx
  simp only [decide_eq_true_eq] at h3
  obtain ⟨hp, rfl⟩ := h3
  have hraw := mIv_ok hidx
  subst hraw; subst hn
  have hfk := mPl_fk hp
  simp only [mPfk, decide_eq_true_eq] at hfk
  obtain ⟨hy, hon, hki, har⟩ := hfk
  have hlk : Cond.methodLink (mOw o) idx (mNm (q / 512)) ∈ mTB := by
    rcases mPl_ok hp with g | g
    · exact mTB_in g rfl
    · exact absurd g tt_notin
  obtain ⟨hcode, ⟨pos, hmw⟩, -⟩ := mLfs hy
  obtain ⟨w1, w2, w3, w4, w5, w6⟩ := mMw_spec hmw
  obtain ⟨v1, v2, v3⟩ := w4 hki
  have hd := mDsc_at hy
  rw [if_neg (by rw [hki]; decide), ← har] at hd
  intro a1 a2 H locs LS hH hS hL
  have hgi : GoodIn mTB (wsV (mOw o) idx (mOw (mOn (q / 512))) (mNm (q / 512)) (mWs (q / 512))) := by
    intro w hw
    unfold wsV at hw
    simp only [List.cons_append, List.nil_append, List.mem_cons] at hw
    have hm : w ∈ mTB := by
      rcases hw with rfl | rfl | rfl | rfl | hw
      · exact hlk
      · exact mTB_in v1 rfl
      · exact mTB_in v2 rfl
      · rw [← w2]; exact mTB_in w1 rfl
      · exact mWs_in hy hw
    exact ⟨hm, good_of_word (mTB_good w hm)⟩
  have hml2 := mMax_le hy
  obtain ⟨s1, s2, s3⟩ := mSt_split hq hrec
  obtain ⟨m1, m2⟩ := mArith a1 hg.1 hrc
  obtain ⟨m3, m4⟩ := mArith a2 hg.2 hrs
  obtain ⟨b, hb2, hcB⟩ : ∃ b, mRho G a = .ref b ∧ ∃ cellB : Cell, H[b]? = some cellB ∧ cellB.vm.isStatics = false ∧ s.vm.findClass (mOw (mOn (q / 512))) = some cellB.cls := by
    rw [← hon]
    by_cases ha : 64 ≤ a
    · have hat := hH.2.2.2 a _ ha hcell
      obtain ⟨r, hr, -⟩ := id hat
      obtain ⟨-, hlt⟩ := mCl_get hr
      exact ⟨_, mRho_dyn ha, va_recv hKs.1 (mP1 hat) (mCl_at hlt) (q0 := 0) rfl⟩
    · have hs0 := hSF.1 a _ (by omega) (by rw [← hH.2.2.1 a (by omega)]; exact hcell)
      rcases hs0 with ⟨g1, g2⟩ | ⟨g0, t, g1, g2, g3⟩
      · have g3 : q / 16 % 32 = 99 := g2
        omega
      · refine ⟨t, mRho_st ha g1, ?_⟩
        rw [show q / 16 % 32 = 16 from g0]
        obtain ⟨cell, k1, k2, k3, -⟩ := g2.kept hS.2.1
        exact ⟨cell, k1, k2, k3⟩
  refine mCallW (h1 := h2) (r := v) (va_runV (Ts := mTB) (own := mOw o) (C := mOw (mOn (q / 512))) (index := idx) (b := b) (As := ((st.take (q % 16 - 1)).reverse).map (mV G)) (rest := (st.drop (q % 16)).map (mV G)) ⟨hx, hb, hml, hown, hts⟩ hM (cwV (q % 16 - 1) hts hgi rfl rfl rfl ⟨w2, w6.1, w6.2.1, hd⟩ ⟨by show d + 1 + 1 ≤ _; omega, by show 8 + (mMax (q / 512) + 11) + 40 * (d + 1) ≤ _; omega⟩) ⟨mPre_blind, hcB, fun U hU hW => ⟨by
      rw [s1, List.map_cons]
      show _ = (mRho G a :: _).toArray
      rw [hb2], mPre_at hKs hSF hB hH hS hU hW⟩⟩ rfl (by rw [List.length_map, List.length_reverse]; exact s3) (hL.1.trans hLn) (by
      show st.map (mV G) = _
      rw [List.map_reverse, List.reverse_reverse]
      conv => lhs; rw [s2]
      rw [List.map_append, List.map_cons]
      show _ ++ mRho G a :: _ = _
      rw [hb2]) (lv_room (by rw [mCat_map hG]; exact hcat)) h1 ⟨m1, m3⟩) hS (fun H1 locs1 hH1 hS1 => ?_)
  rw [m2, m4]
  have h9 := k (Nat.le_trans a1 hg.1) (Nat.le_trans a2 hg.2) H1 locs1 LS hH1 hS1 hL
  rw [List.map_append] at h9
  cases v <;> exact h9
/-- a constructor -/
theorem mCallI (C : mCtx G S0 o nL p s m args c cc) {q d a : Nat} {v : Option Value} {h2 : mHeap} (hk : mChk o cc (pc, .invokespecial q, nx) = true) (hq : 0 < q % 16) (hrec : st[q % 16 - 1]? = some (.ref a)) (ha : 64 ≤ a) (hcat : mCat (st.drop (q % 16)) ≤ 8) (hLn : L.length = nL)
    (hM : mMet l G S0 d (q / 512) ((st.take (q % 16)).reverse) h v h2) (hg : h.length ≤ h2.length ∧ mSlots h ≤ mSlots h2) (hrf : d + 2 ≤ R.frames) (hrl : 40 * (d + 2) ≤ R.locals) (hrc : h2.length - n0 ≤ R.cells) (hrs : mSlots h2 - z0 ≤ R.slots)
    (k : mW G S0 n0 z0 p l e R s m args below meth c Q nx L (v.toList ++ st.drop (q % 16)) h2) : mW G S0 n0 z0 p l e R s m args below meth c Q pc L st h := by
  obtain ⟨hx, hb, hml, hown, hts, hG, hKs, hSF, hB⟩ := C
  obtain ⟨raw, len, h1, hn, h3⟩ := mChk_of hk
  simp only [mRel] at h3
  split at h3
  rotate_left
  · cases h3
  rename_i idx hidx
  simp only [decide_eq_true_eq] at h3
  obtain ⟨hp, rfl⟩ := h3
  have hraw := mIs_ok hidx
  subst hraw; subst hn
  have hfk := mPl_fk hp
  simp only [mPfk, decide_eq_true_eq] at hfk
  obtain ⟨hy, hon, hki, har⟩ := hfk
  have hnst := mPl_nst hp
  obtain ⟨hcode, ⟨pos, hmw⟩, -⟩ := mLfs hy
  obtain ⟨w1, w2, w3, w4, w5, w6⟩ := mMw_spec hmw
  obtain ⟨v1, v2, v3⟩ := w5 hki
  have hd := mDsc_at hy
  rw [if_neg (by rw [hki]; decide), ← har] at hd
  intro a1 a2 H locs LS hH hS hL
  have hml2 := mMax_le hy
  obtain ⟨s1, s2, s3⟩ := mSt_split hq hrec
  obtain ⟨m1, m2⟩ := mArith a1 hg.1 hrc
  obtain ⟨m3, m4⟩ := mArith a2 hg.2 hrs
  have hb2 : mRho G a = .ref (gB G + (a - 64)) := mRho_dyn ha
  have hw0 : mWs (q / 512) = Cond.code (mNm (q / 512)) (mBy (q / 512)) (mMax (q / 512)) none :: mTB := by
    unfold mWs
    rw [v3]
  have hR : (mRm d (h2.length - h.length) (mSlots h2 - mSlots h)).frames + 1 ≤ R.frames ∧ 8 + (mMax (q / 512) + 11) + (mRm d (h2.length - h.length) (mSlots h2 - mSlots h)).locals ≤ R.locals := ⟨by show d + 1 + 1 ≤ _; omega, by show 8 + (mMax (q / 512) + 11) + 40 * (d + 1) ≤ _; omega⟩
  have hpre : PreS s H (va_Pc (((st.take (q % 16)).reverse).map (mV G)) (mPre G S0 h)) (.ref (gB G + (a - 64)) :: ((st.take (q % 16 - 1)).reverse).map (mV G)) := ⟨mPre_blind, fun U hU hW => ⟨by
      rw [s1, List.map_cons]
      show _ = (mRho G a :: _).toArray
      rw [hb2], mPre_at hKs hSF hB hH hS hU hW⟩⟩
  have hstk : st.map (mV G) = (((st.take (q % 16 - 1)).reverse).map (mV G)).reverse ++ .ref (gB G + (a - 64)) :: (st.drop (q % 16)).map (mV G) := by
    rw [List.map_reverse, List.reverse_reverse]
    conv => lhs; rw [s2]
    rw [List.map_append, List.map_cons]
    show _ ++ mRho G a :: _ = _
    rw [hb2]
  have hrun : va_Run p l e R s m args below meth c H locs (h.length - n0) (mSlots h - z0) (h2.length - h.length) (mSlots h2 - mSlots h) (F0 m pc LS (st.map (mV G))) ((st.drop (q % 16)).map (mV G)) (mPost G S0 h2 v) (mA G) := by
    rcases hnst with hne | hl
    · have hnw := hKs.2.1 _ hne
      exact va_runIN (Ts := mTB) (own := mOw o) (host := "TruthBridge") (index := idx) (b := gB G + (a - 64)) (As := ((st.take (q % 16 - 1)).reverse).map (mV G)) (rest := (st.drop (q % 16)).map (mV G)) ⟨hx, hb, hml, hown, hts⟩ hM ⟨va_cnB (q % 16 - 1) hts (mWs_good hy) hw0 rfl rfl hnw (hts _ (mTB_in w1 rfl)) ⟨w6.1, w6.2.1, hd⟩ hR, v2, hts _ (mTB_in v1 rfl)⟩ hpre rfl (by rw [List.length_map, List.length_reverse]; exact s3) (hL.1.trans hLn) hstk (lv_room (by rw [mCat_map hG]; exact hcat)) h1 ⟨m1, m3⟩
    · exact va_runI (Ts := mTB) (own := mOw o) (index := idx) (b := gB G + (a - 64)) (As := ((st.take (q % 16 - 1)).reverse).map (mV G)) (rest := (st.drop (q % 16)).map (mV G)) ⟨hx, hb, hml, hown, hts⟩ hM (cwI (q % 16 - 1) hts (mWs_good hy) hw0 rfl rfl (hts _ (mTB_in w1 rfl)) (hts _ (mTB_in hl rfl)) (hts _ (mTB_in v1 rfl)) v2 ⟨w6.1, w6.2.1, hd⟩ hR) hpre rfl (by rw [List.length_map, List.length_reverse]; exact s3) (hL.1.trans hLn) hstk (lv_room (by rw [mCat_map hG]; exact hcat)) h1 ⟨m1, m3⟩
  refine mCallW (h1 := h2) (r := v) hrun hS (fun H1 locs1 hH1 hS1 => ?_)
  rw [m2, m4]
  have h9 := k (Nat.le_trans a1 hg.1) (Nat.le_trans a2 hg.2) H1 locs1 LS hH1 hS1 hL
  rw [List.map_append] at h9
  cases v <;> exact h9
end Calls3
