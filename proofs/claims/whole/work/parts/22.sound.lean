section Sound
variable {G : mG} {S0 : mHeap} {p : Program} {l : Launch} {e : Env} {R : Room} {s : State} {m : MethodId} {args : Array Value} {below : List Frame} {meth : Method} {c : Code} {Q : State → Prop}
/-- a method's words -/
def mWs (y : Nat) : List Cond := Cond.code (mNm y) (mBy y) (mMax y) (mRet y) :: mTB
theorem mTB_good : ∀ w ∈ mTB, goodWord w = true := fun w h => (List.mem_filter.mp h).2
theorem mCode_in {y : Nat} (hy : y < 328) : Cond.code (mNm y) (mBy y) (mMax y) (mRet y) ∈ mTB := mTB_in (mLfs hy).1 rfl
theorem mWs_in {y : Nat} (hy : y < 328) {w : Cond} (h : w ∈ mWs y) : w ∈ mTB := by
  rcases List.mem_cons.mp h with rfl | h
  · exact mCode_in hy
  · exact h
theorem mWs_good {y : Nat} (hy : y < 328) : GoodIn mTB (mWs y) := fun w h => ⟨mWs_in hy h, good_of_word (mTB_good w (mWs_in hy h))⟩
/-- what a call knows at its start, and brings back -/
def mPre (G : mG) (S0 h : mHeap) (U : State) : Prop := mHR G S0 h U.heap ∧ mKs G U ∧ mSF G S0 U U.heap ∧ gB G ≤ U.heap.size
def mPost (G : mG) (S0 h1 : mHeap) (r : Option Value) : State → Outcome → State → Prop := fun st o t => o = .returned (r.map (mV G)) ∧ mHR G S0 h1 t.heap ∧ va_F (mA G) st t
def mRm (d mc ms : Nat) : Room := { frames := d + 1, cells := mc, slots := ms, locals := 40 * (d + 1) }
def mMet (l : Launch) (G : mG) (S0 : mHeap) (d y : Nat) (as : List Value) (h : mHeap) (r : Option Value) (h1 : mHeap) : Prop := Met l (mNm y) (mWs y) (mRm d (h1.length - h.length) (mSlots h1 - mSlots h)) (va_Pc (as.map (mV G)) (mPre G S0 h)) (fun _ => mPost G S0 h1 r) (h1.length - h.length) (mSlots h1 - mSlots h) (mA G)
theorem mPre_blind {h : mHeap} {av : List Value} : FrameBlind (va_Pc av (mPre G S0 h)) := by
  intro a U g mk hq
  obtain ⟨h1, h2, h3, h4, h5⟩ := hq
  exact ⟨h1, h2, mKs.same (s := U) rfl h3, mSF.moved (u := U) (Vm.Alike.refl U.vm) h4, h5⟩
/-- behind a call -/
theorem mCallW {H : Heap} {locs : List Loc} {cells slots mc ms pc : Nat} {LS : Array Slot} {st0 rest : List Value} {h1 : mHeap} {r : Option Value}
    (hr : va_Run p l e R s m args below meth c H locs cells slots mc ms (F0 m pc LS st0) rest (mPost G S0 h1 r) (mA G)) (hS : va_S (mA G) s.heap H locs)
    (kk : ∀ (H1 : Heap) (locs1 : List Loc), mHR G S0 h1 H1 → va_S (mA G) s.heap H1 locs1 → W p l e R s m args below meth c H1 locs1 (cells + mc) (slots + ms) Q (F0 m (pc + 3) LS ((r.map (mV G)).toList ++ rest))) : W p l e R s m args below meth c H locs cells slots Q (F0 m pc LS st0) := by
  intro T hT X
  obtain ⟨v, st₀, t, T', L, h0, X', hL, e1, e2, ⟨hv, hh, hz, hk⟩, st⟩ := hr T hT X
  cases hv
  rw [h0] at hz hk
  obtain ⟨t2, a1, b1⟩ := kk T'.heap (locs ++ L) (by rw [e1]; exact hh)
    ⟨Nat.le_trans hS.1 (by rw [e1]; exact hz), fun q g1 g2 => by rw [e1, hk q (Nat.lt_of_lt_of_le g1 hS.1) g2]; exact hS.2.1 q g1 g2, fun q hq => by
      rcases List.mem_append.mp hq with h | h
      · exact hS.2.2 q h
      · exact hL q h⟩ T' rfl X'
  exact ⟨t2, st t2 a1, b1⟩
/-- the locals at a method's entry -/
theorem mEnt_args : ∀ (as : List Value) (k i : Nat) (v : Value), (mEnt as)[i]? = some (some v) → mGok G → (k + i, mV G v) ∈ lv_args k (as.map (mV G))
  | [], _, _, _, h, _ => by cases h
  | w :: r, k, i, v, h, hG => by
    have one : ∀ (w : Value), w.category = 1 → mEnt (w :: r) = some w :: mEnt r → (mEnt (w :: r))[i]? = some (some v) → (k + i, mV G v) ∈ lv_args k ((w :: r).map (mV G)) := by
      intro w hc he h
      rw [he] at h
      rw [List.map_cons, lv_args, if_neg (by rw [mV_cat hG, hc]; decide)]
      cases i with
      | zero => cases h; exact List.mem_cons_self
      | succ j =>
        refine List.mem_cons_of_mem _ ?_
        have := mEnt_args r (k + 1) j v h hG
        rw [show k + (j + 1) = k + 1 + j by omega]
        exact this
    cases w with
    | long x =>
      rw [List.map_cons, lv_args, if_pos (by rw [mV_cat hG]; rfl)]
      match i, h with
      | 0, h => cases h; exact List.mem_cons_self
      | 1, h => cases h
      | j + 2, h =>
        refine List.mem_cons_of_mem _ ?_
        have := mEnt_args r (k + 2) j v h hG
        rw [show k + (j + 2) = k + 2 + j by omega]
        exact this
    | double x =>
      rw [List.map_cons, lv_args, if_pos (by rw [mV_cat hG]; rfl)]
      match i, h with
      | 0, h => cases h; exact List.mem_cons_self
      | 1, h => cases h
      | j + 2, h =>
        refine List.mem_cons_of_mem _ ?_
        have := mEnt_args r (k + 2) j v h hG
        rw [show k + (j + 2) = k + 2 + j by omega]
        exact this
    | int x => exact one _ rfl rfl h
    | float x => exact one _ rfl rfl h
    | null => exact one _ rfl rfl h
    | ref x => exact one _ rfl rfl h
    | retAddr x => exact one _ rfl rfl h
theorem mEnt_len : ∀ (as : List Value), mGok G → (lg_sl (as.map (mV G))).length = (mEnt as).length
  | [], _ => rfl
  | w :: r, hG => by
    have ih := mEnt_len r hG
    unfold lg_sl at ih ⊢
    rw [List.map_cons, List.flatMap_cons, List.length_append, ih, mV_cat hG]
    cases w with
    | long x => show 2 + _ = (mEnt r).length + 1 + 1; omega
    | double x => show 2 + _ = (mEnt r).length + 1 + 1; omega
    | int x => show 1 + _ = (mEnt r).length + 1; omega
    | float x => show 1 + _ = (mEnt r).length + 1; omega
    | null => show 1 + _ = (mEnt r).length + 1; omega
    | ref x => show 1 + _ = (mEnt r).length + 1; omega
    | retAddr x => show 1 + _ = (mEnt r).length + 1; omega
theorem mPad_len {n : Nat} {L : mLoc} (h : L.length ≤ n) : (mPad n L).length = n := by
  unfold mPad
  rw [List.length_append, List.length_replicate]
  omega
theorem mLR.entry (hG : mGok G) {as : List Value} {n : Nat} (hn : (mEnt as).length ≤ n) : mLR G ((lg_sl (as.map (mV G)) ++ List.replicate (n - (lg_sl (as.map (mV G))).length) Slot.unset).toArray) (mPad n (mEnt as)) := by
  have hl := lv_entry (as.map (mV G)) (n := n) (by rw [mEnt_len as hG]; exact hn)
  refine ⟨hl.1.trans (mPad_len hn).symm, hl.2.1, fun i v hv => ?_⟩
  unfold mPad at hv
  by_cases hi : i < (mEnt as).length
  · rw [List.getElem?_append_left hi] at hv
    have := mEnt_args as 0 i v hv hG
    rw [Nat.zero_add] at this
    exact hl.2.2 _ this
  · rw [List.getElem?_append_right (by omega), List.getElem?_replicate] at hv
    split at hv <;> cases hv
/-- a return, at the end of a method -/
def mRetOk (G : mG) (S0 : mHeap) (n0 z0 : Nat) (p : Program) (l : Launch) (e : Env) (R : Room) (s : State) (m : MethodId) (args : Array Value) (below : List Frame) (meth : Method) (c : Code) (Q : State → Prop) (o : Nat) (cc : ByteArray) (rt : Option FieldType) (r : Option Value) (h1 : mHeap) : Prop :=
  ∀ (pc nx : Nat) (i : Instr) (L : mLoc) (st : List Value), mChk o cc (pc, i, nx) = true → mStep mTy mNf rt i nx L st h1 = some (.inr (.inl r)) → mW G S0 n0 z0 p l e R s m args below meth c Q pc L st h1
theorem mNar_ok {ty : FieldType} {v : Int32} (h : mNar ty v = true) : narrow ty (.int v) = .int v := by
  unfold mNar at h
  split at h
  · rfl
  · simp only [decide_eq_true_eq] at h
    rcases h with rfl | rfl <;> decide
  · exact of_decide_eq_true h
  · exact of_decide_eq_true h
  · cases h
theorem mRet_met {n0 z0 o : Nat} {cc : ByteArray} {rt : Option FieldType} {r : Option Value} {h1 : mHeap} {nL : Nat} (C : mCtx G S0 o nL p s m args c cc) (hr : meth.sig.returnType = rt) (hlocks : meth.locks = false) : mRetOk G S0 n0 z0 p l e R s m args below meth c (MQ below (fun _ => mPost G S0 h1 r) args s (h1.length - n0) (mSlots h1 - z0) (mA G)) o cc rt r h1 := by
  intro pc nx i L st hk hst
  have hx := C.1
  have hb := C.2.1
  have hG := C.2.2.2.2.2.1
  intro a1 a2 H locs LS hH hS hL
  have hq : ∀ t : State, t.heap = H → s.WarmedH t.vm → mPost G S0 h1 r s (.returned (r.map (mV G))) t := fun t ht _ => ⟨rfl, by rw [ht]; exact hH, hS.F ht⟩
  cases i with
  | ireturn =>
    simp only [mStep] at hst
    split at hst
    · split at hst
      · split at hst
        · rename_i ty hnar
          cases hst
          obtain ⟨hd, -⟩ := ck_ireturn hk
          exact W.zret hx hb hr (mNar_ok hnar) hq hS.2.2 hd
        · cases hst
      · cases hst
    · cases hst
  | lreturn =>
    simp only [mStep] at hst
    split at hst
    · split at hst
      · rename_i hrt
        cases hst
        obtain ⟨hd, -⟩ := ck_lreturn hk
        exact W.lret hx hb (hr.trans hrt) hq hS.2.2 hd
      · cases hst
    · cases hst
  | areturn =>
    simp only [mStep] at hst
    split at hst
    · obtain ⟨hd, -⟩ := ck_areturn hk
      split at hst
      · cases hst
        exact W.aret hx hb hr (Or.inl ⟨_, rfl⟩) (mRho_or hG _) hq hS.2.2 hd
      · cases hst
        exact W.aret hx hb hr (Or.inr ⟨_, rfl⟩) (mRho_or hG _) hq hS.2.2 hd
      · cases hst
    · cases hst
  | return_ =>
    simp only [mStep] at hst
    split at hst
    · split at hst
      · rename_i hrt
        cases hst
        obtain ⟨hd, -⟩ := ck_return_ hk
        exact W.vret hx hb (hr.trans hrt) hq hS.2.2 hd
      · cases hst
    · cases hst
  | newarray t => exact absurd hst (by cases t <;> (simp only [mStep]; (repeat' split) <;> simp))
  | invokedynamic d => exact absurd hst (by match d with | 0 => (simp only [mStep]; (repeat' split) <;> simp) | 1 => (simp only [mStep]; (repeat' split) <;> simp) | 2 => (simp only [mStep]; (repeat' split) <;> simp) | 3 => (simp only [mStep]; (repeat' split) <;> simp) | 4 => (simp only [mStep]; (repeat' split) <;> simp) | d + 5 => exact fun q => nomatch (show (none : Option mRes) = _ from q))
  | _ => exact absurd hst (by first | exact (fun q => nomatch (show (none : Option mRes) = _ from q)) | (simp only [mStep]; (repeat' split) <;> simp))
end Sound
