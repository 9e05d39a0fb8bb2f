/-! RULES: FIELDS, ARRAYS, CALLS, RETURNS -/
theorem oF_at {h : mHeap} {a c : Nat} {fs : List Value} (e : h[a]? = some (mO c fs)) : oF h a = fs ∧ oC h a = c := by
  unfold oF oC
  rw [e]
  exact ⟨rfl, rfl⟩
theorem oF_of {h : mHeap} {a k : Nat} {v : Value} (e : (oF h a)[k]? = some v) : h[a]? = some (mO (oC h a) (oF h a)) := by
  unfold oF at e
  split at e
  · rename_i c fs he
    rw [(oF_at he).1, (oF_at he).2, he]
  · cases e
theorem oF_lt {h : mHeap} {a k : Nat} (e : k < (oF h a).length) : h[a]? = some (mO (oC h a) (oF h a)) := oF_of (List.getElem?_eq_getElem e)
theorem oC_of {h : mHeap} {a : Nat} (e : ¬ oC h a = 999) : h[a]? = some (mO (oC h a) (oF h a)) := by
  unfold oC at e
  split at e
  · rename_i c fs he
    rw [(oF_at he).1, (oF_at he).2, he]
  · exact absurd rfl e
theorem aI_at {h : mHeap} {a : Nat} {ty : FieldType} {xs : List Int32} (e : h[a]? = some (mI ty xs)) : aI h a = xs ∧ aT h a = ty := by
  unfold aI aT
  rw [e]
  exact ⟨rfl, rfl⟩
theorem aI_of {h : mHeap} {a : Nat} (e : 0 < (aI h a).length) : h[a]? = some (mI (aT h a) (aI h a)) := by
  unfold aI at e
  split at e
  · rename_i ty xs he
    rw [(aI_at he).1, (aI_at he).2, he]
  · cases e
theorem aT_of {h : mHeap} {a : Nat} (e : ¬ aT h a = .float) : h[a]? = some (mI (aT h a) (aI h a)) := by
  unfold aT at e
  split at e
  · rename_i ty xs he
    rw [(aI_at he).1, (aI_at he).2, he]
  · exact absurd rfl e
theorem aJ_at {h : mHeap} {a : Nat} {xs : List Int64} (e : h[a]? = some (mJ xs)) : aJ h a = xs := by
  unfold aJ
  rw [e]
theorem aJ_of {h : mHeap} {a : Nat} (e : 0 < (aJ h a).length) : h[a]? = some (mJ (aJ h a)) := by
  unfold aJ at e
  split at e
  · rename_i xs he
    rw [aJ_at he, he]
  · cases e
theorem aR_at {h : mHeap} {a c : Nat} {xs : List (Option Nat)} (e : h[a]? = some (mR c xs)) : aR h a = xs ∧ rC h a = c := by
  unfold aR rC
  rw [e]
  exact ⟨rfl, rfl⟩
theorem rC_of {h : mHeap} {a : Nat} (e : mRc (rC h a) = true) : h[a]? = some (mR (rC h a) (aR h a)) := by
  unfold rC at e
  split at e
  · rename_i c xs he
    rw [(aR_at he).1, (aR_at he).2, he]
  · exact absurd e (by decide)
section R
variable {d m pc nx : Nat} {L : mLoc} {st : List Value} {h : mHeap} {Q : Option Value → mHeap → Prop}
theorem G_get {q c k a : Nat} (t : Nat) (V : Value) (hc : q / 128 = c) (hk : q % 128 = k) (ht : fTag c k = t) (hv : ∀ v, (oF h a)[k]? = some v → mTag v = t → v = V) (hf : mFetch m pc = some (.getfield q, nx)) : Go d m pc L (.ref a :: st) h Q ↔ (okF h a c k t ∧ Go d m nx L (V :: st) h Q) := by
  subst hc hk
  by_cases co : okF h a (q / 128) (q % 128) t
  · obtain ⟨c1, c2⟩ := co
    obtain ⟨v, hv1, hv2⟩ := Option.map_eq_some_iff.mp c2
    have hh := oF_of hv1
    rw [c1] at hh
    have := hv v hv1 hv2
    subst this
    rw [Go_step (pc1 := nx) (L1 := L) (st1 := v :: st) (h1 := h) hf (tSt_of (by simp only [tOk, hh, hv1]; rw [hv2, ht]; simp) (by simp only [mStep, hh, hv1]; simp))]
    exact ⟨fun g => ⟨⟨c1, c2⟩, g⟩, fun g => g.2⟩
  · have : tSt m (.getfield q) nx L (.ref a :: st) h = none := by
      unfold tSt
      split
      · rename_i hok
        simp only [tOk] at hok
        split at hok
        · rename_i c0 fs hh
          split at hok
          · rename_i v hv1
            simp only [mSt, mStep, hh, hv1]
            split
            · rename_i hc0
              exfalso
              refine co ⟨by rw [(oF_at hh).2, hc0], ?_⟩
              rw [(oF_at hh).1, hv1]
              show some (mTag v) = some t
              rw [of_decide_eq_true hok, ht]
            · rfl
          · cases hok
        · cases hok
      · rfl
    rw [Go_stuck hf this]
    exact ⟨False.elim, fun g => co g.1⟩
theorem G_getI {q c k a : Nat} (hc : q / 128 = c) (hk : q % 128 = k) (ht : fTag c k = 0) (hf : mFetch m pc = some (.getfield q, nx)) : Go d m pc L (.ref a :: st) h Q ↔ (okF h a c k 0 ∧ Go d m nx L (.int (fI h a k) :: st) h Q) := G_get 0 _ hc hk ht (fun v e hm => by
  unfold fI; rw [e]; cases v <;> first | rfl | cases hm) hf
theorem G_getJ {q c k a : Nat} (hc : q / 128 = c) (hk : q % 128 = k) (ht : fTag c k = 1) (hf : mFetch m pc = some (.getfield q, nx)) : Go d m pc L (.ref a :: st) h Q ↔ (okF h a c k 1 ∧ Go d m nx L (.long (fJ h a k) :: st) h Q) := G_get 1 _ hc hk ht (fun v e hm => by
  unfold fJ; rw [e]; cases v <;> first | rfl | cases hm) hf
theorem G_getR {q c k a : Nat} (hc : q / 128 = c) (hk : q % 128 = k) (ht : fTag c k = 2) (hf : mFetch m pc = some (.getfield q, nx)) : Go d m pc L (.ref a :: st) h Q ↔ (okF h a c k 2 ∧ Go d m nx L (.ref (fR h a k) :: st) h Q) := G_get 2 _ hc hk ht (fun v e hm => by
  unfold fR; rw [e]; cases v <;> first | rfl | cases hm) hf
theorem G_put {q c k a : Nat} {v : Value} (P : Prop) (hc : q / 128 = c) (hk : q % 128 = k) (hp : mFit (mTy c k) v = true ↔ P) (hf : mFetch m pc = some (.putfield q, nx)) : Go d m pc L (v :: .ref a :: st) h Q ↔ (okP h a c k ∧ P ∧ Go d m nx L st (sF h a k v) Q) := by
  subst hc hk
  by_cases co : okP h a (q / 128) (q % 128) ∧ P
  · obtain ⟨⟨c0, c1, c2⟩, p⟩ := co
    have hh := oF_lt c2
    have hh' := hh
    rw [c1] at hh'
    have hs : sF h a (q % 128) v = h.set a (mO (q / 128) ((oF h a).set (q % 128) v)) := by
      unfold sF
      rw [hh]
      simp only [c1]
    rw [hs]
    rw [Go_step (pc1 := nx) (L1 := L) (st1 := st) (h1 := h.set a (mO (q / 128) ((oF h a).set (q % 128) v))) hf (tSt_of rfl (by simp only [mStep, hh']; rw [if_pos ⟨c0, trivial, c2, hp.mpr p⟩]))]
    exact ⟨fun g => ⟨⟨c0, c1, c2⟩, p, g⟩, fun g => g.2.2⟩
  · have : tSt m (.putfield q) nx L (v :: .ref a :: st) h = none := tSt_of rfl (by
      simp only [mStep]
      split
      · rename_i c0 fs hh
        rw [if_neg]
        rintro ⟨g1, g2, g3, g4⟩
        subst g2
        exact co ⟨⟨g1, (oF_at hh).2, by rw [(oF_at hh).1]; exact g3⟩, hp.mp g4⟩
      · rfl)
    rw [Go_stuck hf this]
    exact ⟨False.elim, fun g => co ⟨g.1, g.2.1⟩⟩
theorem G_putT {q c k a : Nat} {v : Value} (hc : q / 128 = c) (hk : q % 128 = k) (hp : mFit (mTy c k) v = true) (hf : mFetch m pc = some (.putfield q, nx)) : Go d m pc L (v :: .ref a :: st) h Q ↔ (okP h a c k ∧ Go d m nx L st (sF h a k v) Q) := by
  rw [G_put (v := v) True hc hk (by simp [hp]) hf, true_and]
theorem G_putZ {q c k a : Nat} {x : Int32} (hc : q / 128 = c) (hk : q % 128 = k) (hp : mTy c k = .boolean) (hf : mFetch m pc = some (.putfield q, nx)) : Go d m pc L (.int x :: .ref a :: st) h Q ↔ (okP h a c k ∧ (x = ii 0 ∨ x = ii 1) ∧ Go d m nx L st (sF h a k (.int x)) Q) := G_put _ hc hk (by rw [hp]; show decide (x = 0 ∨ x = 1) = true ↔ _; rw [decide_eq_true_eq]; exact Iff.rfl) hf
theorem G_iaload {a : Nat} {j : Int32} (hf : mFetch m pc = some (.iaload, nx)) : Go d m pc L (.int j :: .ref a :: st) h Q ↔ (okA h a .int j ∧ Go d m nx L (.int (eI h a j) :: st) h Q) := by
  by_cases co : okA h a .int j
  · obtain ⟨c1, c2, c3⟩ := co
    have hh := aI_of (Nat.lt_of_le_of_lt (Nat.zero_le _) c3)
    rw [c1] at hh
    rw [Go_step (pc1 := nx) (L1 := L) (st1 := .int (eI h a j) :: st) (h1 := h) hf (tSt_of rfl (by
      simp only [mStep, hh, if_neg c2]
      rw [List.getElem?_eq_getElem c3]
      unfold eI
      rw [List.getD_eq_getElem?_getD, List.getElem?_eq_getElem c3]
      rfl))]
    exact ⟨fun g => ⟨⟨c1, c2, c3⟩, g⟩, fun g => g.2⟩
  · have : tSt m .iaload nx L (.int j :: .ref a :: st) h = none := tSt_of rfl (by
      simp only [mStep]
      split
      · rename_i xs hh
        split
        · rfl
        · rename_i hj
          split
          · rename_i x hx
            exfalso
            exact co ⟨(aI_at hh).2, hj, by rw [(aI_at hh).1]; exact (List.getElem?_eq_some_iff.mp hx).1⟩
          · rfl
      · rfl)
    rw [Go_stuck hf this]
    exact ⟨False.elim, fun g => co g.1⟩
theorem G_baload {a : Nat} {j : Int32} (hf : mFetch m pc = some (.baload, nx)) : Go d m pc L (.int j :: .ref a :: st) h Q ↔ (okB h a j ∧ Go d m nx L (.int (eI h a j) :: st) h Q) := by
  by_cases co : okB h a j
  · obtain ⟨c1, c2, c3⟩ := co
    have hh := aI_of (Nat.lt_of_le_of_lt (Nat.zero_le _) c3)
    have hg : eI h a j = (aI h a)[j.toNatClampNeg] := by
      unfold eI
      rw [List.getD_eq_getElem?_getD, List.getElem?_eq_getElem c3]
      rfl
    rw [Go_step (pc1 := nx) (L1 := L) (st1 := .int (eI h a j) :: st) (h1 := h) hf (tSt_of rfl (by
      rcases c1 with c1 | c1
      · rw [c1] at hh
        simp only [mStep, hh, if_neg c2]
        rw [List.getElem?_eq_getElem c3, hg]
      · rw [c1] at hh
        simp only [mStep, hh, if_neg c2]
        rw [List.getElem?_eq_getElem c3, hg]))]
    exact ⟨fun g => ⟨⟨c1, c2, c3⟩, g⟩, fun g => g.2⟩
  · have : tSt m .baload nx L (.int j :: .ref a :: st) h = none := tSt_of rfl (by
      simp only [mStep]
      split
      · rename_i xs hh
        split
        · rfl
        · rename_i hj
          split
          · rename_i x hx
            exfalso
            exact co ⟨Or.inl (aI_at hh).2, hj, by rw [(aI_at hh).1]; exact (List.getElem?_eq_some_iff.mp hx).1⟩
          · rfl
      · rename_i xs hh
        split
        · rfl
        · rename_i hj
          split
          · rename_i x hx
            exfalso
            exact co ⟨Or.inr (aI_at hh).2, hj, by rw [(aI_at hh).1]; exact (List.getElem?_eq_some_iff.mp hx).1⟩
          · rfl
      · rfl)
    rw [Go_stuck hf this]
    exact ⟨False.elim, fun g => co g.1⟩
theorem G_laload {a : Nat} {j : Int32} (hf : mFetch m pc = some (.laload, nx)) : Go d m pc L (.int j :: .ref a :: st) h Q ↔ (okJ h a j ∧ Go d m nx L (.long (eJ h a j) :: st) h Q) := by
  by_cases co : okJ h a j
  · obtain ⟨c2, c3⟩ := co
    have hh := aJ_of (Nat.lt_of_le_of_lt (Nat.zero_le _) c3)
    rw [Go_step (pc1 := nx) (L1 := L) (st1 := .long (eJ h a j) :: st) (h1 := h) hf (tSt_of rfl (by
      simp only [mStep, hh, if_neg c2]
      rw [List.getElem?_eq_getElem c3]
      unfold eJ
      rw [List.getD_eq_getElem?_getD, List.getElem?_eq_getElem c3]
      rfl))]
    exact ⟨fun g => ⟨⟨c2, c3⟩, g⟩, fun g => g.2⟩
  · have : tSt m .laload nx L (.int j :: .ref a :: st) h = none := tSt_of rfl (by
      simp only [mStep]
      split
      · rename_i xs hh
        split
        · rfl
        · rename_i hj
          split
          · rename_i x hx
            exfalso
            exact co ⟨hj, by rw [aJ_at hh]; exact (List.getElem?_eq_some_iff.mp hx).1⟩
          · rfl
      · rfl)
    rw [Go_stuck hf this]
    exact ⟨False.elim, fun g => co g.1⟩
theorem tOk_aaload {a : Nat} {j : Int32} (hx : ¬ (aR h a)[j.toNatClampNeg]? = some none ∨ tNul m = true) : tOk m .aaload (.int j :: .ref a :: st) h = true := by
  simp only [tOk]
  split
  · rename_i c xs hh
    rw [(aR_at hh).1] at hx
    split
    · rename_i e
      rcases hx with q | q
      · exact absurd e q
      · exact q
    · rfl
  · rfl
theorem G_aaload {a : Nat} {j : Int32} (ht : tNul m = true) (hf : mFetch m pc = some (.aaload, nx)) : Go d m pc L (.int j :: .ref a :: st) h Q ↔ ((nuR h a j ∧ Go d m nx L (.null :: st) h Q) ∨ (okR h a j ∧ Go d m nx L (.ref (eR h a j) :: st) h Q)) := by
  by_cases c1 : mRc (rC h a) = true ∧ ¬ j < 0
  · have hh := rC_of c1.1
    have hn : ¬ (j < 0 ∨ mRc (rC h a) = false) := by
      rintro (q | q)
      · exact c1.2 q
      · rw [c1.1] at q; cases q
    cases hx : (aR h a)[j.toNatClampNeg]? with
    | none =>
      rw [Go_stuck hf (tSt_of (tOk_aaload (Or.inr ht)) (by simp only [mStep, hh, if_neg hn, hx]))]
      refine ⟨False.elim, ?_⟩
      rintro (⟨g, -⟩ | ⟨g, -⟩)
      · rw [g.2.2] at hx; cases hx
      · have := g.2.2
        unfold eR at this
        rw [List.getD_eq_getElem?_getD, hx] at this
        exact absurd this (by decide)
    | some o =>
      cases o with
      | none =>
        rw [Go_step (pc1 := nx) (L1 := L) (st1 := .null :: st) (h1 := h) hf (tSt_of (tOk_aaload (Or.inr ht)) (by simp only [mStep, hh, if_neg hn, hx]))]
        refine ⟨fun g => Or.inl ⟨⟨c1.1, c1.2, hx⟩, g⟩, ?_⟩
        rintro (⟨-, g⟩ | ⟨g, -⟩)
        · exact g
        · have := g.2.2
          unfold eR at this
          rw [List.getD_eq_getElem?_getD, hx] at this
          exact absurd this (by decide)
      | some b =>
        have he : eR h a j = b := by
          unfold eR
          rw [List.getD_eq_getElem?_getD, hx]
          rfl
        by_cases hb : 64 ≤ b
        · rw [Go_step (pc1 := nx) (L1 := L) (st1 := .ref b :: st) (h1 := h) hf (tSt_of (tOk_aaload (Or.inr ht)) (by simp only [mStep, hh, if_neg hn, hx, if_pos hb]))]
          refine ⟨fun g => Or.inr ⟨⟨c1.1, c1.2, by rw [he]; exact hb⟩, by rw [he]; exact g⟩, ?_⟩
          rintro (⟨g, -⟩ | ⟨-, g⟩)
          · rw [g.2.2] at hx; cases hx
          · rw [he] at g; exact g
        · rw [Go_stuck hf (tSt_of (tOk_aaload (Or.inr ht)) (by simp only [mStep, hh, if_neg hn, hx, if_neg hb]))]
          refine ⟨False.elim, ?_⟩
          rintro (⟨g, -⟩ | ⟨g, -⟩)
          · rw [g.2.2] at hx; cases hx
          · have := g.2.2
            rw [he] at this
            exact hb this
  · have : tSt m .aaload nx L (.int j :: .ref a :: st) h = none := tSt_of (tOk_aaload (Or.inr ht)) (by
      simp only [mStep]
      split
      · rename_i c xs hh
        rw [if_pos]
        by_cases hj : j < 0
        · exact Or.inl hj
        · refine Or.inr ?_
          cases hc : mRc c with
          | false => rfl
          | true => exact absurd ⟨by rw [(aR_at hh).2]; exact hc, hj⟩ c1
      · rfl)
    rw [Go_stuck hf this]
    refine ⟨False.elim, ?_⟩
    rintro (⟨g, -⟩ | ⟨g, -⟩) <;> exact c1 ⟨g.1, g.2.1⟩
/-- an element that must be there -/
theorem G_aaloadR {a : Nat} {j : Int32} (ht : tNul m = false) (hf : mFetch m pc = some (.aaload, nx)) : Go d m pc L (.int j :: .ref a :: st) h Q ↔ (okR h a j ∧ Go d m nx L (.ref (eR h a j) :: st) h Q) := by
  by_cases co : okR h a j
  · obtain ⟨c1, c2, c3⟩ := co
    have hh := rC_of c1
    have hn : ¬ (j < 0 ∨ mRc (rC h a) = false) := by
      rintro (q | q)
      · exact c2 q
      · rw [c1] at q; cases q
    have hx : (aR h a)[j.toNatClampNeg]? = some (some (eR h a j)) := by
      unfold eR at c3 ⊢
      rw [List.getD_eq_getElem?_getD] at c3 ⊢
      cases hx : (aR h a)[j.toNatClampNeg]? with
      | none => rw [hx] at c3; exact absurd c3 (by decide)
      | some o =>
        cases o with
        | none => rw [hx] at c3; exact absurd c3 (by decide)
        | some b => rfl
    rw [Go_step (pc1 := nx) (L1 := L) (st1 := .ref (eR h a j) :: st) (h1 := h) hf (tSt_of (tOk_aaload (Or.inl (by rw [hx]; intro q; cases q))) (by simp only [mStep, hh, if_neg hn, hx, if_pos c3]))]
    exact ⟨fun g => ⟨⟨c1, c2, c3⟩, g⟩, fun g => g.2⟩
  · have : tSt m .aaload nx L (.int j :: .ref a :: st) h = none := by
      unfold tSt
      split
      · rename_i hok
        simp only [mSt, mStep]
        simp only [tOk] at hok
        split at hok
        · rename_i c xs hh
          rw [hh]
          dsimp only
          split
          · rfl
          · rename_i hn
            split
            · rename_i e
              rw [e] at hok
              dsimp only at hok
              rw [ht] at hok
              cases hok
            · rename_i b e
              split
              · rename_i hb
                exfalso
                refine co ⟨?_, fun q => hn (Or.inl q), ?_⟩
                · rw [(aR_at hh).2]
                  cases hc : mRc c with
                  | true => rfl
                  | false => exact absurd (Or.inr hc) hn
                · unfold eR
                  rw [(aR_at hh).1, List.getD_eq_getElem?_getD, e]
                  exact hb
              · rfl
            · rfl
        · rename_i hno
          split
          · rename_i c xs hh
            exact absurd hh (hno _ _)
          · rfl
      · rfl
    rw [Go_stuck hf this]
    exact ⟨False.elim, fun g => co g.1⟩
theorem G_iastore {a : Nat} {j v : Int32} (hf : mFetch m pc = some (.iastore, nx)) : Go d m pc L (.int v :: .int j :: .ref a :: st) h Q ↔ ((64 ≤ a ∧ okA h a .int j) ∧ Go d m nx L st (sI h a j v) Q) := by
  by_cases co : 64 ≤ a ∧ okA h a .int j
  · obtain ⟨c0, c1, c2, c3⟩ := co
    have hh := aI_of (Nat.lt_of_le_of_lt (Nat.zero_le _) c3)
    rw [c1] at hh
    have hs : sI h a j v = h.set a (mI .int ((aI h a).set j.toNatClampNeg v)) := by
      unfold sI
      rw [hh]
    rw [hs]
    rw [Go_step (pc1 := nx) (L1 := L) (st1 := st) (h1 := h.set a (mI .int ((aI h a).set j.toNatClampNeg v))) hf (tSt_of rfl (by
      simp only [mStep, hh]
      rw [if_pos ⟨c0, c2, c3⟩]))]
    exact ⟨fun g => ⟨⟨c0, c1, c2, c3⟩, g⟩, fun g => g.2⟩
  · have : tSt m .iastore nx L (.int v :: .int j :: .ref a :: st) h = none := tSt_of rfl (by
      simp only [mStep]
      split
      · rename_i xs hh
        rw [if_neg]
        rintro ⟨g1, g2, g3⟩
        exact co ⟨g1, (aI_at hh).2, g2, by rw [(aI_at hh).1]; exact g3⟩
      · rfl)
    rw [Go_stuck hf this]
    exact ⟨False.elim, fun g => co g.1⟩
theorem G_bastore {a : Nat} {j v : Int32} (hf : mFetch m pc = some (.bastore, nx)) : Go d m pc L (.int v :: .int j :: .ref a :: st) h Q ↔ ((64 ≤ a ∧ okB h a j) ∧ Go d m nx L st (sB h a j v) Q) := by
  by_cases co : 64 ≤ a ∧ okB h a j
  · obtain ⟨c0, c1, c2, c3⟩ := co
    have hh := aI_of (Nat.lt_of_le_of_lt (Nat.zero_le _) c3)
    rcases c1 with c1 | c1
    · have hh' := hh
      rw [c1] at hh'
      have hs : sB h a j v = h.set a (mI .byte ((aI h a).set j.toNatClampNeg (vp_nar .byte v))) := by
        unfold sB sI
        rw [hh', c1]
      rw [hs]
      rw [Go_step (pc1 := nx) (L1 := L) (st1 := st) (h1 := h.set a (mI .byte ((aI h a).set j.toNatClampNeg (vp_nar .byte v)))) hf (tSt_of rfl (by
        simp only [mStep, hh']
        rw [if_pos ⟨c0, c2, c3⟩]))]
      exact ⟨fun g => ⟨⟨c0, Or.inl c1, c2, c3⟩, g⟩, fun g => g.2⟩
    · have hh' := hh
      rw [c1] at hh'
      have hs : sB h a j v = h.set a (mI .boolean ((aI h a).set j.toNatClampNeg (vp_nar .boolean v))) := by
        unfold sB sI
        rw [hh', c1]
      rw [hs]
      rw [Go_step (pc1 := nx) (L1 := L) (st1 := st) (h1 := h.set a (mI .boolean ((aI h a).set j.toNatClampNeg (vp_nar .boolean v)))) hf (tSt_of rfl (by
        simp only [mStep, hh']
        rw [if_pos ⟨c0, c2, c3⟩]))]
      exact ⟨fun g => ⟨⟨c0, Or.inr c1, c2, c3⟩, g⟩, fun g => g.2⟩
  · have : tSt m .bastore nx L (.int v :: .int j :: .ref a :: st) h = none := tSt_of rfl (by
      simp only [mStep]
      split
      · rename_i xs hh
        rw [if_neg]
        rintro ⟨g1, g2, g3⟩
        exact co ⟨g1, Or.inl (aI_at hh).2, g2, by rw [(aI_at hh).1]; exact g3⟩
      · rename_i xs hh
        rw [if_neg]
        rintro ⟨g1, g2, g3⟩
        exact co ⟨g1, Or.inr (aI_at hh).2, g2, by rw [(aI_at hh).1]; exact g3⟩
      · rfl)
    rw [Go_stuck hf this]
    exact ⟨False.elim, fun g => co g.1⟩
theorem G_lastore {a : Nat} {j : Int32} {v : Int64} (hf : mFetch m pc = some (.lastore, nx)) : Go d m pc L (.long v :: .int j :: .ref a :: st) h Q ↔ ((64 ≤ a ∧ okJ h a j) ∧ Go d m nx L st (sJ h a j v) Q) := by
  by_cases co : 64 ≤ a ∧ okJ h a j
  · obtain ⟨c0, c2, c3⟩ := co
    have hh := aJ_of (Nat.lt_of_le_of_lt (Nat.zero_le _) c3)
    have hs : sJ h a j v = h.set a (mJ ((aJ h a).set j.toNatClampNeg v)) := by
      unfold sJ
      rw [hh]
    rw [hs]
    rw [Go_step (pc1 := nx) (L1 := L) (st1 := st) (h1 := h.set a (mJ ((aJ h a).set j.toNatClampNeg v))) hf (tSt_of rfl (by
      simp only [mStep, hh]
      rw [if_pos ⟨c0, c2, c3⟩]))]
    exact ⟨fun g => ⟨⟨c0, c2, c3⟩, g⟩, fun g => g.2⟩
  · have : tSt m .lastore nx L (.long v :: .int j :: .ref a :: st) h = none := tSt_of rfl (by
      simp only [mStep]
      split
      · rename_i xs hh
        rw [if_neg]
        rintro ⟨g1, g2, g3⟩
        exact co ⟨g1, g2, by rw [aJ_at hh]; exact g3⟩
      · rfl)
    rw [Go_stuck hf this]
    exact ⟨False.elim, fun g => co g.1⟩
theorem G_aastore {a v : Nat} {j : Int32} (hf : mFetch m pc = some (.aastore, nx)) : Go d m pc L (.ref v :: .int j :: .ref a :: st) h Q ↔ (okS h a j v ∧ Go d m nx L st (sR h a j v) Q) := by
  by_cases co : okS h a j v
  · obtain ⟨c0, c1, c2, c3, c4, c5⟩ := co
    have hh := rC_of c3
    have hv := oC_of (h := h) (a := v) (by
      rw [c2]
      intro q
      rw [q] at c3
      exact absurd c3 (by decide))
    have hs : sR h a j v = h.set a (mR (rC h a) ((aR h a).set j.toNatClampNeg (some v))) := by
      unfold sR
      rw [hh]
    rw [hs]
    rw [Go_step (pc1 := nx) (L1 := L) (st1 := st) (h1 := h.set a (mR (rC h a) ((aR h a).set j.toNatClampNeg (some v)))) hf (tSt_of rfl (by
      simp only [mStep, hh, hv]
      rw [if_pos ⟨c0, c1, c2, c3, c4, c5⟩]))]
    exact ⟨fun g => ⟨⟨c0, c1, c2, c3, c4, c5⟩, g⟩, fun g => g.2⟩
  · have : tSt m .aastore nx L (.ref v :: .int j :: .ref a :: st) h = none := tSt_of rfl (by
      simp only [mStep]
      split
      · rename_i c xs c2 fs hh hv
        rw [if_neg]
        rintro ⟨g1, g2, g3, g4, g5, g6⟩
        refine co ⟨g1, g2, by rw [(aR_at hh).2, (oF_at hv).2]; exact g3, by rw [(aR_at hh).2]; exact g4, g5, by rw [(aR_at hh).1]; exact g6⟩
      · rfl)
    rw [Go_stuck hf this]
    exact ⟨False.elim, fun g => co g.1⟩
theorem G_arraylength {a : Nat} (hf : mFetch m pc = some (.arraylength, nx)) : Go d m pc L (.ref a :: st) h Q ↔ (okL h a ∧ Go d m nx L (.int (ii (nL h a)) :: st) h Q) := by
  have ei : ∀ n : Nat, Int32.ofNat n = ii n := fun n => rfl
  cases hh : h[a]? with
  | none =>
    rw [Go_stuck hf (tSt_of rfl (by simp only [mStep, hh]))]
    unfold okL
    rw [hh]
    simp
  | some x =>
    match x, hh with
    | .inl (ty, xs), hh =>
      by_cases c : ty = .int ∨ ty = .byte ∨ ty = .boolean
      · rw [Go_step (pc1 := nx) (L1 := L) (st1 := .int (ii (nL h a)) :: st) (h1 := h) hf (tSt_of rfl (by simp only [mStep, hh, if_pos c, nL, ei]))]
        unfold okL
        rw [hh]
        simp [c]
      · rw [Go_stuck hf (tSt_of rfl (by simp only [mStep, hh, if_neg c]))]
        unfold okL
        rw [hh]
        simp only [c, false_and]
    | .inr (.inl xs), hh =>
      rw [Go_step (pc1 := nx) (L1 := L) (st1 := .int (ii (nL h a)) :: st) (h1 := h) hf (tSt_of rfl (by simp only [mStep, hh, nL, ei]))]
      unfold okL
      rw [hh]
      simp
    | .inr (.inr (.inl (cc, xs))), hh =>
      by_cases c : mRc cc = true
      · rw [Go_step (pc1 := nx) (L1 := L) (st1 := .int (ii (nL h a)) :: st) (h1 := h) hf (tSt_of rfl (by simp only [mStep, hh, if_pos c, nL, ei]))]
        unfold okL
        rw [hh]
        simp [c]
      · rw [Go_stuck hf (tSt_of rfl (by simp only [mStep, hh, if_neg c]))]
        unfold okL
        rw [hh]
        simp [c]
    | .inr (.inr (.inr (cc, xs))), hh =>
      rw [Go_stuck hf (tSt_of rfl (by simp only [mStep, hh]))]
      unfold okL
      rw [hh]
      simp
theorem G_ifc {i : Instr} {P : Prop} [Decidable P] {r : mRes} (hs : tSt m i nx L st h = if P then some r else none) (hf : mFetch m pc = some (i, nx)) (G : Prop) (hg : tSt m i nx L st h = some r → (Go d m pc L st h Q ↔ G)) : Go d m pc L st h Q ↔ (P ∧ G) := by
  by_cases c : P
  · rw [if_pos c] at hs
    rw [hg hs]
    simp [c]
  · rw [if_neg c] at hs
    rw [Go_stuck hf hs]
    simp [c]
theorem G_newarrayI {n : Int32} (hf : mFetch m pc = some (.newarray .int, nx)) : Go d m pc L (.int n :: st) h Q ↔ (okN n ∧ Go d m nx L (.ref h.length :: st) (nA h .int n) Q) := G_ifc (P := ¬ n < 0 ∧ n.toNatClampNeg ≤ 100000) (tSt_of rfl rfl) hf _ (fun e => Go_step hf e)
theorem G_newarrayB {n : Int32} (hf : mFetch m pc = some (.newarray .byte, nx)) : Go d m pc L (.int n :: st) h Q ↔ (okN n ∧ Go d m nx L (.ref h.length :: st) (nA h .byte n) Q) := G_ifc (P := ¬ n < 0 ∧ n.toNatClampNeg ≤ 100000) (tSt_of rfl rfl) hf _ (fun e => Go_step hf e)
theorem G_newarrayZ {n : Int32} (hf : mFetch m pc = some (.newarray .boolean, nx)) : Go d m pc L (.int n :: st) h Q ↔ (okN n ∧ Go d m nx L (.ref h.length :: st) (nA h .boolean n) Q) := G_ifc (P := ¬ n < 0 ∧ n.toNatClampNeg ≤ 100000) (tSt_of rfl rfl) hf _ (fun e => Go_step hf e)
theorem G_newarrayJ {n : Int32} (hf : mFetch m pc = some (.newarray .long, nx)) : Go d m pc L (.int n :: st) h Q ↔ (okN n ∧ Go d m nx L (.ref h.length :: st) (nJ h n) Q) := G_ifc (P := ¬ n < 0 ∧ n.toNatClampNeg ≤ 100000) (tSt_of rfl rfl) hf _ (fun e => Go_step hf e)
theorem G_anewarray {c : Nat} {n : Int32} (hc : mRc c = true) (hf : mFetch m pc = some (.anewarray c, nx)) : Go d m pc L (.int n :: st) h Q ↔ (okN n ∧ Go d m nx L (.ref h.length :: st) (nR h c n) Q) := by
  refine G_ifc (P := ¬ n < 0 ∧ n.toNatClampNeg ≤ 100000) (r := .inl (nx, L, .ref h.length :: st, h ++ [mR c (List.replicate n.toNatClampNeg none)])) (tSt_of rfl ?_) hf _ (fun e => Go_step hf e)
  simp only [mStep, hc, true_and]
theorem G_new {c : Nat} (hf : mFetch m pc = some (.new c, nx)) : Go d m pc L st h Q ↔ Go d m nx L (.ref h.length :: st) (nO h c) Q := Go_step hf (tSt_of rfl rfl)
theorem G_objinit {a : Nat} (hc : mCat st ≤ 8) (hf : mFetch m pc = some (.invokedynamic 0, nx)) : Go d m pc L (.ref a :: st) h Q ↔ (64 ≤ a ∧ Go d m nx L st h Q) := by
  refine G_ifc (P := 64 ≤ a) (r := .inl (nx, L, st, h)) (tSt_of rfl ?_) hf _ (fun e => Go_step hf e)
  simp only [mStep, hc, and_true]
theorem G_clone {a : Nat} (hc : mCat st ≤ 8) (hf : mFetch m pc = some (.invokedynamic 1, nx)) : Go d m pc L (.ref a :: st) h Q ↔ ((64 ≤ a ∧ aT h a = .int) ∧ Go d m nx L (.ref h.length :: st) (nCl h a) Q) := by
  by_cases co : 64 ≤ a ∧ aT h a = .int
  · have hh := aT_of (h := h) (a := a) (by rw [co.2]; decide)
    rw [co.2] at hh
    rw [Go_step (pc1 := nx) (L1 := L) (st1 := .ref h.length :: st) (h1 := nCl h a) hf (tSt_of rfl (by simp only [mStep, hh, co.1, hc, and_true, if_true]; rfl))]
    simp only [co, and_self, true_and]
  · have : tSt m (.invokedynamic 1) nx L (.ref a :: st) h = none := tSt_of rfl (by
      simp only [mStep]
      split
      · rename_i xs hh
        rw [if_neg]
        rintro ⟨g1, -⟩
        exact co ⟨g1, (aI_at hh).2⟩
      · rfl)
    rw [Go_stuck hf this]
    exact ⟨False.elim, fun g => co g.1⟩
theorem G_arraycopy {a b : Nat} {sp dp n : Int32} (hc : mCat st ≤ 8) (hf : mFetch m pc = some (.invokedynamic 2, nx)) : Go d m pc L (.int n :: .int dp :: .ref b :: .int sp :: .ref a :: st) h Q ↔ (okC h a b sp dp n ∧ Go d m nx L st (sC h a b n) Q) := by
  by_cases co : okC h a b sp dp n
  · obtain ⟨c1, c2, c3, c4, c5, c6, c7, c8, c9, c10⟩ := co
    have hh := aT_of (h := h) (a := a) (by rw [c1]; decide)
    rw [c1] at hh
    have hh2 := aT_of (h := h) (a := b) (by rw [c2]; decide)
    rw [c2] at hh2
    rw [Go_step (pc1 := nx) (L1 := L) (st1 := st) (h1 := sC h a b n) hf (tSt_of rfl (by
      simp only [mStep, hh, hh2]
      rw [if_pos ⟨c3, c4, c5, c6, c7, c8, c9, c10, hc⟩]
      rfl))]
    exact ⟨fun g => ⟨⟨c1, c2, c3, c4, c5, c6, c7, c8, c9, c10⟩, g⟩, fun g => g.2⟩
  · have : tSt m (.invokedynamic 2) nx L (.int n :: .int dp :: .ref b :: .int sp :: .ref a :: st) h = none := tSt_of rfl (by
      simp only [mStep]
      split
      · rename_i xs ys hh hh2
        rw [if_neg]
        rintro ⟨c3, c4, c5, c6, c7, c8, c9, c10, -⟩
        exact co ⟨(aI_at hh).2, (aI_at hh2).2, c3, c4, c5, c6, c7, c8, by rw [(aI_at hh).1]; exact c9, by rw [(aI_at hh2).1]; exact c10⟩
      · rfl)
    rw [Go_stuck hf this]
    exact ⟨False.elim, fun g => co g.1⟩
theorem G_max {x y : Int32} (hc : mCat st ≤ 8) (hf : mFetch m pc = some (.invokedynamic 3, nx)) : Go d m pc L (.int y :: .int x :: st) h Q ↔ Go d m nx L (.int (if x < y then y else x) :: st) h Q := Go_step hf (tSt_of rfl (by simp only [mStep, if_pos hc]))
theorem G_min {x y : Int32} (hc : mCat st ≤ 8) (hf : mFetch m pc = some (.invokedynamic 4, nx)) : Go d m pc L (.int y :: .int x :: st) h Q ↔ Go d m nx L (.int (if y < x then y else x) :: st) h Q := Go_step hf (tSt_of rfl (by simp only [mStep, if_pos hc]))
theorem G_checkcast {a q : Nat} (hf : mFetch m pc = some (.checkcast q, nx)) : Go d m pc L (.ref a :: st) h Q ↔ ((64 ≤ a ∧ aT h a = .int) ∧ Go d m nx L (.ref a :: st) h Q) := by
  by_cases co : 64 ≤ a ∧ aT h a = .int
  · have hh := aT_of (h := h) (a := a) (by rw [co.2]; decide)
    rw [co.2] at hh
    rw [Go_step (pc1 := nx) (L1 := L) (st1 := .ref a :: st) (h1 := h) hf (tSt_of rfl (by simp only [mStep, hh, co.1, if_true]))]
    simp only [co, and_self, true_and]
  · have : tSt m (.checkcast q) nx L (.ref a :: st) h = none := tSt_of rfl (by
      simp only [mStep]
      split
      · rename_i xs hh
        rw [if_neg]
        intro g1
        exact co ⟨g1, (aI_at hh).2⟩
      · rfl)
    rw [Go_stuck hf this]
    exact ⟨False.elim, fun g => co g.1⟩
end R
section C
variable {d m pc nx q y a c : Nat} {L : mLoc} {st as rest : List Value} {h : mHeap} {Q : Option Value → mHeap → Prop}
theorem G_callV (hy : q / 512 = y) (hr : st[q % 16 - 1]? = some (.ref a)) (hc : q / 16 % 32 = c) (h0 : c ≠ 999) (hb : decide (0 < q % 16 ∧ mCat (st.drop (q % 16)) ≤ 8) = true) (ha : (st.take (q % 16)).reverse = as) (hd : st.drop (q % 16) = rest) (hf : mFetch m pc = some (.invokevirtual q, nx)) : Go d m pc L st h Q ↔ (oC h a = c ∧ GoC d y as h (fun v h1 => Go d m nx L (v.toList ++ rest) h1 Q)) := by
  subst hy ha hd hc
  have hb := of_decide_eq_true hb
  by_cases co : oC h a = q / 16 % 32
  · have hh := oC_of (h := h) (a := a) (by rw [co]; exact h0)
    rw [Go_call (q := q) (as := (st.take (q % 16)).reverse) (rest := st.drop (q % 16)) hf (tSt_of rfl (by
      simp only [mStep, hr, hh]
      rw [if_pos ⟨co, hb⟩]))]
    simp [co]
  · have : tSt m (.invokevirtual q) nx L st h = none := tSt_of rfl (by
      simp only [mStep, hr]
      split
      · rename_i c1 fs hh
        rw [if_neg]
        rintro ⟨g1, -⟩
        exact co (by rw [(oF_at hh).2]; exact g1)
      · rfl)
    rw [Go_stuck hf this]
    exact ⟨False.elim, fun g => co g.1⟩
theorem G_callN (hy : q / 512 = y) (hr : st[q % 16 - 1]? = some (.ref a)) (hb : decide (0 < q % 16 ∧ mCat (st.drop (q % 16)) ≤ 8) = true) (ha : (st.take (q % 16)).reverse = as) (hd : st.drop (q % 16) = rest) (hf : mFetch m pc = some (.invokespecial q, nx)) : Go d m pc L st h Q ↔ (64 ≤ a ∧ GoC d y as h (fun v h1 => Go d m nx L (v.toList ++ rest) h1 Q)) := by
  subst hy ha hd
  have hb := of_decide_eq_true hb
  refine G_ifc (P := 64 ≤ a) (r := .inr (.inr (q, (st.take (q % 16)).reverse, st.drop (q % 16)))) (tSt_of rfl ?_) hf _ (fun e => Go_call hf e)
  simp only [mStep, hr, hb, and_true]
theorem G_callT (hy : q / 512 = y) (hb : decide (q % 16 ≤ st.length ∧ mCat (st.drop (q % 16)) ≤ 8) = true) (ha : (st.take (q % 16)).reverse = as) (hd : st.drop (q % 16) = rest) (hf : mFetch m pc = some (.invokestatic q, nx)) : Go d m pc L st h Q ↔ GoC d y as h (fun v h1 => Go d m nx L (v.toList ++ rest) h1 Q) := by
  subst hy ha hd
  have hb := of_decide_eq_true hb
  exact Go_call hf (tSt_of rfl (by simp only [mStep]; rw [if_pos hb]))
theorem G_ireturn {v : Int32} {ty : FieldType} (P : Prop) (hr : mRet m = some ty) (hP : mNar ty v = true ↔ P) (hf : mFetch m pc = some (.ireturn, nx)) : Go d m pc L [.int v] h Q ↔ (P ∧ Q (some (.int v)) h) := by
  by_cases c0 : mNar ty v = true
  · rw [Go_ret (v := some (.int v)) hf (tSt_of rfl (by simp only [mStep, hr, if_pos c0]))]
    simp [hP.mp c0]
  · rw [Go_stuck hf (tSt_of rfl (by simp only [mStep, hr, if_neg c0]))]
    exact ⟨False.elim, fun g => c0 (hP.mpr g.1)⟩
theorem G_ireturnI {v : Int32} (hr : mRet m = some .int) (hf : mFetch m pc = some (.ireturn, nx)) : Go d m pc L [.int v] h Q ↔ Q (some (.int v)) h := by
  rw [G_ireturn True hr (by simp [mNar]) hf, true_and]
theorem G_ireturnZ {v : Int32} (hr : mRet m = some .boolean) (hf : mFetch m pc = some (.ireturn, nx)) : Go d m pc L [.int v] h Q ↔ ((v = ii 0 ∨ v = ii 1) ∧ Q (some (.int v)) h) := G_ireturn _ hr (by show decide (v = 0 ∨ v = 1) = true ↔ _; rw [decide_eq_true_eq]; exact Iff.rfl) hf
theorem G_ireturnC {v : Int32} (hr : mRet m = some .char) (hf : mFetch m pc = some (.ireturn, nx)) : Go d m pc L [.int v] h Q ↔ (mNar .char v = true ∧ Q (some (.int v)) h) := G_ireturn _ hr Iff.rfl hf
theorem G_ireturnB {v : Int32} (hr : mRet m = some .byte) (hf : mFetch m pc = some (.ireturn, nx)) : Go d m pc L [.int v] h Q ↔ (mNar .byte v = true ∧ Q (some (.int v)) h) := G_ireturn _ hr Iff.rfl hf
theorem G_lreturn {v : Int64} (hr : mRet m = some .long) (hf : mFetch m pc = some (.lreturn, nx)) : Go d m pc L [.long v] h Q ↔ Q (some (.long v)) h := Go_ret hf (tSt_of rfl (by simp only [mStep, if_pos hr]))
theorem G_areturn {v : Nat} (hr : rTag (mRet m) = 2) (hf : mFetch m pc = some (.areturn, nx)) : Go d m pc L [.ref v] h Q ↔ Q (some (.ref v)) h := by
  refine Go_ret hf (tSt_of rfl ?_)
  simp only [mStep]
  cases hm : mRet m with
  | none => rw [hm] at hr; cases hr
  | some ty => rw [hm] at hr; cases ty <;> first | rfl | cases hr
theorem G_return (hr : mRet m = none) (hf : mFetch m pc = some (.return_, nx)) : Go d m pc L [] h Q ↔ Q none h := Go_ret hf (tSt_of rfl (by simp only [mStep, if_pos hr]))
end C
section T
variable {d m pc nx q y a c : Nat} {L : mLoc} {st as rest : List Value} {h : mHeap} {Q : Option Value → mHeap → Prop}
theorem andR {a b c : Prop} (h : b ↔ c) : (a ∧ b) ↔ (a ∧ c) := and_congr_right fun _ => h
theorem G_Vi (hy : q / 512 = y) (ht : rTag (mRet y) = 0) (hr : st[q % 16 - 1]? = some (.ref a)) (hc : q / 16 % 32 = c) (h0 : c ≠ 999) (hb : decide (0 < q % 16 ∧ mCat (st.drop (q % 16)) ≤ 8) = true) (ha : (st.take (q % 16)).reverse = as) (hd : st.drop (q % 16) = rest) (hf : mFetch m pc = some (.invokevirtual q, nx)) : Go d m pc L st h Q ↔ (oC h a = c ∧ GoCi d y as h (fun v h1 => Go d m nx L (.int v :: rest) h1 Q)) := (G_callV hy hr hc h0 hb ha hd hf).trans (andR (GoC_i ht))
theorem G_Vj (hy : q / 512 = y) (ht : rTag (mRet y) = 1) (hr : st[q % 16 - 1]? = some (.ref a)) (hc : q / 16 % 32 = c) (h0 : c ≠ 999) (hb : decide (0 < q % 16 ∧ mCat (st.drop (q % 16)) ≤ 8) = true) (ha : (st.take (q % 16)).reverse = as) (hd : st.drop (q % 16) = rest) (hf : mFetch m pc = some (.invokevirtual q, nx)) : Go d m pc L st h Q ↔ (oC h a = c ∧ GoCj d y as h (fun v h1 => Go d m nx L (.long v :: rest) h1 Q)) := (G_callV hy hr hc h0 hb ha hd hf).trans (andR (GoC_j ht))
theorem G_Vr (hy : q / 512 = y) (ht : rTag (mRet y) = 2) (hr : st[q % 16 - 1]? = some (.ref a)) (hc : q / 16 % 32 = c) (h0 : c ≠ 999) (hb : decide (0 < q % 16 ∧ mCat (st.drop (q % 16)) ≤ 8) = true) (ha : (st.take (q % 16)).reverse = as) (hd : st.drop (q % 16) = rest) (hf : mFetch m pc = some (.invokevirtual q, nx)) : Go d m pc L st h Q ↔ (oC h a = c ∧ GoCr d y as h (fun v h1 => Go d m nx L (.ref v :: rest) h1 Q)) := (G_callV hy hr hc h0 hb ha hd hf).trans (andR (GoC_r ht))
theorem G_Vv (hy : q / 512 = y) (ht : rTag (mRet y) = 4) (hr : st[q % 16 - 1]? = some (.ref a)) (hc : q / 16 % 32 = c) (h0 : c ≠ 999) (hb : decide (0 < q % 16 ∧ mCat (st.drop (q % 16)) ≤ 8) = true) (ha : (st.take (q % 16)).reverse = as) (hd : st.drop (q % 16) = rest) (hf : mFetch m pc = some (.invokevirtual q, nx)) : Go d m pc L st h Q ↔ (oC h a = c ∧ GoCv d y as h (fun h1 => Go d m nx L rest h1 Q)) := (G_callV hy hr hc h0 hb ha hd hf).trans (andR (GoC_v ht))
theorem G_Nv (hy : q / 512 = y) (ht : rTag (mRet y) = 4) (hr : st[q % 16 - 1]? = some (.ref a)) (hb : decide (0 < q % 16 ∧ mCat (st.drop (q % 16)) ≤ 8) = true) (ha : (st.take (q % 16)).reverse = as) (hd : st.drop (q % 16) = rest) (hf : mFetch m pc = some (.invokespecial q, nx)) : Go d m pc L st h Q ↔ (64 ≤ a ∧ GoCv d y as h (fun h1 => Go d m nx L rest h1 Q)) := (G_callN hy hr hb ha hd hf).trans (andR (GoC_v ht))
theorem G_Ti (hy : q / 512 = y) (ht : rTag (mRet y) = 0) (hb : decide (q % 16 ≤ st.length ∧ mCat (st.drop (q % 16)) ≤ 8) = true) (ha : (st.take (q % 16)).reverse = as) (hd : st.drop (q % 16) = rest) (hf : mFetch m pc = some (.invokestatic q, nx)) : Go d m pc L st h Q ↔ GoCi d y as h (fun v h1 => Go d m nx L (.int v :: rest) h1 Q) := (G_callT hy hb ha hd hf).trans (GoC_i ht)
theorem G_Tj (hy : q / 512 = y) (ht : rTag (mRet y) = 1) (hb : decide (q % 16 ≤ st.length ∧ mCat (st.drop (q % 16)) ≤ 8) = true) (ha : (st.take (q % 16)).reverse = as) (hd : st.drop (q % 16) = rest) (hf : mFetch m pc = some (.invokestatic q, nx)) : Go d m pc L st h Q ↔ GoCj d y as h (fun v h1 => Go d m nx L (.long v :: rest) h1 Q) := (G_callT hy hb ha hd hf).trans (GoC_j ht)
theorem G_Tr (hy : q / 512 = y) (ht : rTag (mRet y) = 2) (hb : decide (q % 16 ≤ st.length ∧ mCat (st.drop (q % 16)) ≤ 8) = true) (ha : (st.take (q % 16)).reverse = as) (hd : st.drop (q % 16) = rest) (hf : mFetch m pc = some (.invokestatic q, nx)) : Go d m pc L st h Q ↔ GoCr d y as h (fun v h1 => Go d m nx L (.ref v :: rest) h1 Q) := (G_callT hy hb ha hd hf).trans (GoC_r ht)
theorem G_Tv (hy : q / 512 = y) (ht : rTag (mRet y) = 4) (hb : decide (q % 16 ≤ st.length ∧ mCat (st.drop (q % 16)) ≤ 8) = true) (ha : (st.take (q % 16)).reverse = as) (hd : st.drop (q % 16) = rest) (hf : mFetch m pc = some (.invokestatic q, nx)) : Go d m pc L st h Q ↔ GoCv d y as h (fun h1 => Go d m nx L rest h1 Q) := (G_callT hy hb ha hd hf).trans (GoC_v ht)
def rI (K : Int32 → mHeap → Prop) : Option Value → mHeap → Prop := fun r h1 => ∃ v, r = some (.int v) ∧ K v h1
def rJ (K : Int64 → mHeap → Prop) : Option Value → mHeap → Prop := fun r h1 => ∃ v, r = some (.long v) ∧ K v h1
def rR (K : Nat → mHeap → Prop) : Option Value → mHeap → Prop := fun r h1 => ∃ v, r = some (.ref v) ∧ K v h1
def rV (K : mHeap → Prop) : Option Value → mHeap → Prop := fun r h1 => r = none ∧ K h1
theorem rI_s {K : Int32 → mHeap → Prop} {v : Int32} : rI K (some (.int v)) h ↔ K v h := ⟨fun ⟨_, e, k⟩ => by cases e; exact k, fun k => ⟨v, rfl, k⟩⟩
theorem rJ_s {K : Int64 → mHeap → Prop} {v : Int64} : rJ K (some (.long v)) h ↔ K v h := ⟨fun ⟨_, e, k⟩ => by cases e; exact k, fun k => ⟨v, rfl, k⟩⟩
theorem rR_s {K : Nat → mHeap → Prop} {v : Nat} : rR K (some (.ref v)) h ↔ K v h := ⟨fun ⟨_, e, k⟩ => by cases e; exact k, fun k => ⟨v, rfl, k⟩⟩
theorem rV_s {K : mHeap → Prop} : rV K none h ↔ K h := ⟨fun k => k.2, fun k => ⟨rfl, k⟩⟩
theorem GoCi_entry {K : Int32 → mHeap → Prop} (hl : decide ((mEnt as).length ≤ mMax y) = true) (hp : mPad (mMax y) (mEnt as) = L) : GoCi (d + 1) y as h K ↔ Go d y 0 L [] h (rI K) := GoC_entry hl hp
theorem GoCj_entry {K : Int64 → mHeap → Prop} (hl : decide ((mEnt as).length ≤ mMax y) = true) (hp : mPad (mMax y) (mEnt as) = L) : GoCj (d + 1) y as h K ↔ Go d y 0 L [] h (rJ K) := GoC_entry hl hp
theorem GoCr_entry {K : Nat → mHeap → Prop} (hl : decide ((mEnt as).length ≤ mMax y) = true) (hp : mPad (mMax y) (mEnt as) = L) : GoCr (d + 1) y as h K ↔ Go d y 0 L [] h (rR K) := GoC_entry hl hp
theorem GoCv_entry {K : mHeap → Prop} (hl : decide ((mEnt as).length ≤ mMax y) = true) (hp : mPad (mMax y) (mEnt as) = L) : GoCv (d + 1) y as h K ↔ Go d y 0 L [] h (rV K) := GoC_entry hl hp
end T
/-- a heap gets a name -/
theorem exN {A B : mHeap → Prop} {e : mHeap} (hb : ∀ x, A x ↔ B x) : A e ↔ ∃ x, x = e ∧ B x := ⟨fun a => ⟨e, rfl, (hb e).mp a⟩, fun ⟨_, hx, b⟩ => by subst hx; exact (hb _).mpr b⟩
theorem mFn {m pc : Nat} {c : List mEnty} (hm : mCodes[m]? = some c) (he : c.lookup pc = none) : mFetch m pc = none := by
  unfold mFetch
  rw [hm]
  exact he
theorem Go_none {d m pc : Nat} {L : mLoc} {st : List Value} {h : mHeap} {Q : Option Value → mHeap → Prop} (hf : mFetch m pc = none) : Go d m pc L st h Q ↔ False := by
  constructor
  · rintro ⟨n, r, h2, e, q⟩
    cases n with
    | zero => cases e
    | succ n =>
      unfold tExec at e
      rw [hf] at e
      cases e
  · exact False.elim
