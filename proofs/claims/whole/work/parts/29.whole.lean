set_option maxRecDepth 100000 in
/-- the law's end -/
theorem mRet_law {p : Program} {l : Launch} {e : Env} {s : State} {m : MethodId} {below : List Frame} {meth : Method} {c : Code} {b : Nat} {G : mG} {S0 h1 : mHeap} (hGb : gB G = s.heap.size) (hx : p.tables.exec = Jvm.exec) (hb : c.code = code) (hr : meth.sig.returnType = ret) (hlocks : meth.locks = false) (hc : h1.length - 64 ≤ room_1.cells) (hs : mSlots h1 - mSlots S0 ≤ room_1.slots) :
    mRetOk G S0 64 (mSlots S0) p l e room_1 s m #[Value.ref b] below meth c (lw_Z below #[Value.ref b] s) 20 code (some .boolean) (some (.int 1)) h1 := by
  intro pc nx i L st hk hst
  intro a1 a2 H locs LS hH hS hL
  cases i with
  | ireturn =>
    simp only [mStep] at hst
    split at hst
    · split at hst
      · cases hst
        obtain ⟨hd, -⟩ := ck_ireturn hk
        refine va_forget (fun q hq => by rw [← hGb]; exact hS.2.2 q hq) ?_
        refine W.widen (k := room_1.cells) (n := room_1.slots) hc hs ?_
        exact lw_ret hx hb hr hlocks hd
      · cases hst
    · cases hst
  | lreturn =>
    simp only [mStep] at hst
    split at hst
    · split at hst <;> cases hst
    · cases hst
  | areturn =>
    simp only [mStep] at hst
    (repeat' split at hst) <;> cases hst
  | return_ =>
    simp only [mStep] at hst
    (repeat' split at hst) <;> cases hst
  | newarray t =>
    obtain ⟨rr, hrr⟩ : ∃ rr, rr = some (Value.int 1) := ⟨_, rfl⟩
    rw [← hrr] at hst
    exact absurd hst (by cases t <;> (simp only [mStep]; (repeat' split) <;> simp))
  | invokedynamic d =>
    obtain ⟨rr, hrr⟩ : ∃ rr, rr = some (Value.int 1) := ⟨_, rfl⟩
    rw [← hrr] at hst
    exact absurd hst (by match d with | 0 => (simp only [mStep]; (repeat' split) <;> simp) | 1 => (simp only [mStep]; (repeat' split) <;> simp) | 2 => (simp only [mStep]; (repeat' split) <;> simp) | 3 => (simp only [mStep]; (repeat' split) <;> simp) | 4 => (simp only [mStep]; (repeat' split) <;> simp) | d + 5 => exact fun q => nomatch (show (none : Option mRes) = _ from q))
  | _ =>
    obtain ⟨rr, hrr⟩ : ∃ rr, rr = some (Value.int 1) := ⟨_, rfl⟩
    rw [← hrr] at hst
    exact absurd hst (by first | exact (fun q => nomatch (show (none : Option mRes) = _ from q)) | (simp only [mStep]; (repeat' split) <;> simp))
/-- the walk of the law's body, out of the abstract machine's run -/
theorem whole_open (goal : mGoal) {p : Program} {e : Env} {s : State} {m : MethodId} {below : List Frame} {meth : Method} {c : Code} (l : Launch) {b L : Nat} {xs : Nat → Int32} (hL : L ≤ 3072) (C0 : lw_At p s m meth c b L xs) : W p l e room_1 s m #[Value.ref b] below meth c s.heap [] 0 0 (lw_Z below #[Value.ref b] s) (entryFrame m ([Value.ref b] : List Value).toArray 4) := by
  obtain ⟨G, g1, g2, C⟩ := mStart C0
  obtain ⟨hx, hb, hr, hml, hown, hts0, hX, hbl, hlocks, hgv⟩ := C0
  obtain ⟨n, h1, he, hc, hs⟩ := goal ((List.range L).map xs) (by rw [List.length_map, List.length_range]; exact hL)
  obtain ⟨-, hw⟩ := mSound l n 100 328 0 _ [] _ _ h1 he
  have h0 : mHR G (mS0 ((List.range L).map xs)) (mS0 ((List.range L).map xs)) s.heap := ⟨by rw [mS0_len]; exact Nat.le_refl _, by rw [mS0_len, g1], fun _ _ => rfl, fun i x hi hx => by
    have := (List.getElem?_eq_some_iff.mp hx).1
    rw [mS0_len] at this
    omega⟩
  have rc : 560000 ≤ room_1.cells := by decide
  have rs : 6500000 ≤ room_1.slots := by decide
  have lc : h1.length - 64 ≤ room_1.cells := Nat.le_trans (by omega) rc
  have ls : mSlots h1 - mSlots (mS0 ((List.range L).map xs)) ≤ room_1.slots := Nat.le_trans (by omega) rs
  have h9 := hw (G := G) (S0 := mS0 ((List.range L).map xs)) (n0 := 64) (z0 := mSlots (mS0 ((List.range L).map xs))) (p := p) (e := e) (R := room_1) (s := s) (m := m) (args := #[Value.ref b]) (below := below) (meth := meth) (c := c) (Q := lw_Z below #[Value.ref b] s) mOk_law C (fun h => absurd h (by decide)) rfl (by decide) (by decide) lc ls (mRet_law g1 hx hb hr hlocks lc ls) (by rw [mS0_len]; exact Nat.le_refl _) (Nat.le_refl _) s.heap [] _ h0 va_S.rf (mLR.entry (as := [.ref 0]) (n := 4) C.2.2.2.2.2.1 (by decide))
  rw [mS0_len, Nat.sub_self, Nat.sub_self] at h9
  rw [lg_entry_eq]
  rw [show ([Value.ref 0].map (mV G)) = [Value.ref b] by show [mRho G 0] = _; rw [g2]] at h9
  exact h9
