section Heap
variable {G : mG} {S0 : mHeap} {n0 z0 : Nat} {p : Program} {l : Launch} {e : Env} {R : Room} {s : State} {m : MethodId} {args : Array Value} {below : List Frame} {meth : Method} {c : Code} {Q : State → Prop} {cc : ByteArray} {o nL pc nx : Nat} {L : mLoc} {st : List Value} {h : mHeap} {H H1 : Heap}
theorem mP1 {D : va_G} {cl : List vw_C} {q : Nat × va_E} (h : va_at D cl q H) : va_P D cl [q] H := fun k x hx => by
  match k, hx with
  | 0, hx => cases hx; exact h
  | n + 1, hx => cases hx
theorem mSlots_set {a : Nat} {x x0 : mCell} (hx : h[a]? = some x0) (hz : mSz x = mSz x0) : mSlots (h.set a x) = mSlots h := by
  unfold mSlots
  induction h generalizing a with
  | nil => cases hx
  | cons y0 t ih =>
    cases a with
    | zero =>
      have hx2 : y0 = x0 := Option.some.inj hx
      subst hx2
      show mSz x + (t.map mSz).sum = mSz y0 + (t.map mSz).sum
      rw [hz]
    | succ a =>
      show mSz y0 + ((t.set a x).map mSz).sum = mSz y0 + (t.map mSz).sum
      rw [ih hx]
theorem mSlots_push {x : mCell} : mSlots (h ++ [x]) = mSlots h + mSz x := by
  unfold mSlots
  rw [List.map_append, List.sum_append]
  simp
theorem mHR.set {a : Nat} {x x0 : mCell} (hH : mHR G S0 h H) (hx : h[a]? = some x0) (ha : 64 ≤ a) (z : H1.size = H.size) (oq : ∀ q : Nat, q ≠ gB G + (a - 64) → H1[q]? = H[q]?) (hat : va_at (gD G) mCl (gB G + (a - 64), mE G x) H1) : mHR G S0 (h.set a x) H1 := by
  obtain ⟨g1, g2, g3, g4⟩ := hH
  refine ⟨by rw [List.length_set]; exact g1, by rw [List.length_set, z]; exact g2, fun i hi => ?_, fun i y hi hy => ?_⟩
  · rw [List.getElem?_set_ne (by omega)]
    exact g3 i hi
  · by_cases hia : i = a
    · subst hia
      rw [List.getElem?_set_self (List.getElem?_eq_some_iff.mp hx).1] at hy
      cases hy
      exact hat
    · rw [List.getElem?_set_ne (fun q => hia q.symm)] at hy
      exact (g4 i y hi hy).kept (oq _ (by show gB G + (i - 64) ≠ gB G + (a - 64); omega))
theorem mHR.push {x : mCell} (hH : mHR G S0 h H) (z : H1.size = H.size + 1) (oq : ∀ q : Nat, q < H.size → H1[q]? = H[q]?) (hat : va_at (gD G) mCl (H.size, mE G x) H1) : mHR G S0 (h ++ [x]) H1 := by
  obtain ⟨g1, g2, g3, g4⟩ := hH
  refine ⟨by rw [List.length_append]; omega, by rw [List.length_append, z]; simp; omega, fun i hi => ?_, fun i y hi hy => ?_⟩
  · rw [List.getElem?_append_left (by omega)]
    exact g3 i hi
  · by_cases hl : i < h.length
    · rw [List.getElem?_append_left hl] at hy
      exact (g4 i y hi hy).kept (oq _ (by show gB G + (i - 64) < H.size; omega))
    · rw [List.getElem?_append_right (by omega)] at hy
      have hz : i - h.length < 1 := (List.getElem?_eq_some_iff.mp hy).1
      have hi0 : i = h.length := by omega
      subst hi0
      rw [Nat.sub_self] at hy
      cases hy
      rw [show gB G + (h.length - 64) = H.size by omega]
      exact hat
theorem mHR.ref (hH : mHR G S0 h H) : mRho G h.length = .ref H.size := by
  obtain ⟨g1, g2, -, -⟩ := hH
  rw [mRho_dyn g1, show gB G + (h.length - 64) = H.size by omega]
theorem mFit_ok {ty : FieldType} {v : Value} (hG : mGok G) (h : mFit ty v = true) : narrow ty (mV G v) = mV G v ∧ fits ty (mV G v) = true := by
  have hr : ∀ a, (∀ C, narrow (.object C) (mRho G a) = mRho G a ∧ fits (.object C) (mRho G a) = true) ∧ ∀ C, narrow (.array C) (mRho G a) = mRho G a ∧ fits (.array C) (mRho G a) = true := by
    intro a
    rcases mRho_or hG a with h | ⟨q, h⟩ <;> rw [h] <;> exact ⟨fun _ => ⟨rfl, rfl⟩, fun _ => ⟨rfl, rfl⟩⟩
  unfold mFit at h
  split at h
  · exact ⟨rfl, rfl⟩
  · exact ⟨rfl, rfl⟩
  · rename_i x
    simp only [decide_eq_true_eq] at h
    rcases h with rfl | rfl
    · exact ⟨(by decide : narrow .boolean (.int 0) = .int 0), rfl⟩
    · exact ⟨(by decide : narrow .boolean (.int 1) = .int 1), rfl⟩
  · exact (hr _).1 _
  · exact ⟨rfl, rfl⟩
  · exact (hr _).2 _
  · exact ⟨rfl, rfl⟩
  · cases h
theorem sm_getfield (C : mCtx G S0 o nL p s m args c cc) {a q : Nat} {fs : List Value} {v : Value} (hh : h[a]? = some (mO (q / 128) fs)) (hv : fs[q % 128]? = some v) (hk : mChk o cc (pc, .getfield q, nx) = true) (k : mW G S0 n0 z0 p l e R s m args below meth c Q (nx) L (v :: st) (h)) : mW G S0 n0 z0 p l e R s m args below meth c Q (pc) L (.ref a :: st) (h) := by
  obtain ⟨hx, hb, hml, hown, hts, hG, hKs, hSF, hB⟩ := C
  obtain ⟨raw, len, h1, h2, h3⟩ := mChk_of hk
  simp only [mRel] at h3
  split at h3
  · rename_i idx hidx
    simp only [decide_eq_true_eq] at h3
    obtain ⟨hp, rfl⟩ := h3
    have hraw := mGf_ok hidx
    subst hraw; subst h2
    have hlk : Cond.fieldLink (mOw o) idx (mOw (q / 128)) (mT (q / 128) (q % 128)).2.1 (mT (q / 128) (q % 128)).2.2.1 ∈ mTB := by
      rcases mPl_ok hp with g | g
      · exact mTB_in g rfl
      · exact absurd g tt_notin
    have hfk := mPl_fk hp
    simp only [mPfk, decide_eq_true_eq] at hfk
    intro a1 a2 H locs LS hH hS hL
    have h9 := k a1 a2 H locs LS hH hS hL
    show W p l e R s m args below meth c H locs (h.length - n0) (mSlots h - z0) Q (F0 m pc LS (mRho G a :: st.map (mV G)))
    by_cases ha : 64 ≤ a
    · have hat := hH.2.2.2 a _ ha hh
      obtain ⟨r, hr, hob⟩ := id hat
      obtain ⟨hr2, hlt⟩ := mCl_get hr
      have hN : q % 128 < mNf (q / 128) := by
        rcases hfk with g | g
        · exact g.2
        · omega
      rw [mRho_dyn ha]
      exact va_get (C := mOw (q / 128)) (T := mT (q / 128)) (N := mNf (q / 128)) (ci := q / 128) (ref := mOw (q / 128)) (index := idx) hx hb hts (mLay hlt) hown hKs.1 (mP1 hat) 0 rfl (mCl_at hlt) (q % 128) hN (hts _ hlk) (fun x hx => by rw [mDecl _ hlt _ hN] at hx; exact hx) (v := mV G v) (by rw [List.getElem?_map, hv]; rfl) h1 h9
    · have hs0 := hSF.1 a _ (by omega) (by rw [← hH.2.2.1 a (by omega)]; exact hh)
      rcases hs0 with ⟨g1, g2⟩ | ⟨g0, t, g1, g2, g3⟩
      · rw [show fs = [] from g1] at hv
        simp at hv
      · have hF := g3 _ _ hv
        rw [show mRho G a = .ref t by unfold mRho; rw [if_pos (by omega)]; exact g1]
        have hl2 := hts _ hlk
        rw [show q / 128 = 16 from g0] at hl2
        exact vk_getf (ref := "java/lang/String") (index := idx) hx hb hF hS hown hl2 (fun _ z => z) h1 h9
  · cases h3
theorem sm_putfield (C : mCtx G S0 o nL p s m args c cc) {a q : Nat} {fs : List Value} {v : Value} (hh : h[a]? = some (mO (q / 128) fs)) (ha : 64 ≤ a) (hl : q % 128 < fs.length) (hfit : mFit (mTy (q / 128) (q % 128)) v = true) (hfin : (mT (q / 128) (q % 128)).2.2.2 = false ∨ ((mT (q / 128) (q % 128)).2.2.2 = true ∧ meth.name = "<init>" ∧ o = q / 128)) (hk : mChk o cc (pc, .putfield q, nx) = true) (k : mW G S0 n0 z0 p l e R s m args below meth c Q (nx) L (st) (h.set a (mO (q / 128) (fs.set (q % 128) v)))) : mW G S0 n0 z0 p l e R s m args below meth c Q (pc) L (v :: .ref a :: st) (h) := by
  obtain ⟨hx, hb, hml, hown, hts, hG, hKs, hSF, hB⟩ := C
  obtain ⟨raw, len, h1, h2, h3⟩ := mChk_of hk
  simp only [mRel] at h3
  split at h3
  · rename_i idx hidx
    simp only [decide_eq_true_eq] at h3
    obtain ⟨hp, rfl⟩ := h3
    have hraw := mPf_ok hidx
    subst hraw; subst h2
    have hlk : Cond.fieldLink (mOw o) idx (mOw (q / 128)) (mT (q / 128) (q % 128)).2.1 (mT (q / 128) (q % 128)).2.2.1 ∈ mTB := by
      rcases mPl_ok hp with g | g
      · exact mTB_in g rfl
      · exact absurd g tt_notin
    have hfk := mPl_fk hp
    simp only [mPfk, decide_eq_true_eq] at hfk
    intro a1 a2 H locs LS hH hS hL
    have hat := hH.2.2.2 a _ ha hh
    obtain ⟨r, hr, cell, q1, q2, q3, q4⟩ := id hat
    obtain ⟨hr2, hlt⟩ := mCl_get hr
    subst hr2
    have hN : q % 128 < mNf (q / 128) := by
      rcases hfk with g | g
      · exact g.2
      · omega
    have hap := va_apart (own := mOw o) hts (mLay hlt) (mTy (q / 128)) (mTyok hlt) (mNmok hlt) hKs.1 (mCl_at hlt)
    obtain ⟨hSl, hfc, kC, hkC, hkind⟩ := hKs.1.1 (q / 128) _ (mCl_at hlt)
    obtain ⟨cf, kf, fi, f, hi, hsl⟩ := hSl (q % 128) hN
    have hi2 : s.fieldFound? (mOw (q / 128)) (mT (q / 128) (q % 128)).2.1 (mT (q / 128) (q % 128)).2.2.1 = some (cf, kf, fi, f) := by
      have hi3 := hi
      rw [mDecl _ hlt _ hN] at hi3
      exact hi3
    have hst := (u_facts hfc hkC (u_lays hts (mLay hlt) hN) hi).1
    obtain ⟨f1, f2⟩ := mFit_ok hG hfit
    have hd := mTyok hlt _ hN
    have hlay := hts _ (mLay hlt _ (u_in_lay hN))
    have end_ : ∀ H' : Heap, H'[gB G + (a - 64)]? = some (cell.setSlot f.slot (mV G v)) → H'.size = H.size → (∀ q_1, q_1 ≠ gB G + (a - 64) → H'[q_1]? = H[q_1]?) → W p l e R s m args below meth c H' (locs ++ [⟨gB G + (a - 64), f.slot⟩]) (h.length - n0) (mSlots h - z0) Q (F0 m (pc + 3) LS (st.map (mV G))) := by
      intro H' e1 e2 e3
      rw [hsl] at e1 ⊢
      have hz : mSlots (h.set a (mO (q / 128) (fs.set (q % 128) v))) = mSlots h := mSlots_set hh (by show (fs.set _ _).length = _; rw [List.length_set]; rfl)
      have h9 := k (by rw [List.length_set]; exact a1) (by rw [hz]; exact a2) H' (locs ++ [⟨gB G + (a - 64), (gD G).2 (q / 128) (q % 128)⟩]) LS (hH.set hh ha e2 e3 ⟨_, mCl_at hlt, t_OB.to (V := updV (vp_V (fs.map (mV G))) (q % 128) (mV G v)) ⟨_, e1, q2, q3, t_set q4 hap hN _⟩ (fun j _ => by
        rw [vp_updV_set (by rw [List.length_map]; exact hl)]
        show vp_V ((fs.map (mV G)).set (q % 128) (mV G v)) j = vp_V ((fs.set (q % 128) v).map (mV G)) j
        rw [List.map_set])⟩) (hS.put e2 e3 (Nat.le_add_right _ _)) hL
      rw [List.length_set, hz] at h9
      exact h9
    show W p l e R s m args below meth c H locs (h.length - n0) (mSlots h - z0) Q (F0 m pc LS (mV G v :: mRho G a :: st.map (mV G)))
    rw [mRho_dyn ha]
    rcases hfin with hfin | ⟨hfin, hini, hoo⟩
    · unfold u_lay at hlay
      rw [if_neg (by rw [hfin]; decide)] at hlay
      have h6 := u_store hfc hkC hkind hlay hi hd f1 f2
      exact W.putK hx hb (f := f) ⟨hown, hts _ hlk, ⟨_, _, _, hi2⟩, hst⟩ (by rw [q2]; exact h6) q1 q3 (by rw [hsl]; exact k2_hasslot (q4 _ hN)) rfl rfl h1 end_
    · unfold u_lay at hlay
      rw [if_pos hfin] at hlay
      have hcf : m.cls = cf := by
        obtain ⟨_, _, c', _, _, _, -, -, hf', -, -, -, hown2, -⟩ := Cond.laysFinal_spec hlay
        have e1 : c' = cf := by have := hi.symm.trans hf'; simp at this; exact this.1.symm
        rw [mDecl _ hlt _ hN, ← hoo] at hown2
        rw [← e1]; exact Option.some.inj (hown.symm.trans hown2)
      have h6 := u_fits hfc hkC hkind (Or.inr hlay) hi hd f1 f2
      exact W.putFinK hx hb hown (hts _ hlk) hi2 hst hcf hini (by rw [q2]; exact h6) q1 q3 (by rw [hsl]; exact k2_hasslot (q4 _ hN)) rfl rfl h1 end_
  · cases h3
end Heap
