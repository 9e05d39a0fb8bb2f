/-! how the abstract machine's cells, values, locals are the real one's -/
/-- class numbers and slots; the classes of rows (by element; of references by class); the static references; the first new address -/
abbrev mG : Type := va_G × (FieldType → ClassId) × (Nat → ClassId) × (Nat → Value) × Nat
abbrev gD (G : mG) : va_G := G.1
abbrev gA (G : mG) : FieldType → ClassId := G.2.1
abbrev gR (G : mG) : Nat → ClassId := G.2.2.1
abbrev gS (G : mG) : Nat → Value := G.2.2.2.1
abbrev gB (G : mG) : Nat := G.2.2.2.2
def mRho (G : mG) (a : Nat) : Value := if a < 64 then gS G a else .ref (gB G + (a - 64))
def mV (G : mG) (v : Value) : Value := match v with
  | .ref a => mRho G a
  | .int x => .int x
  | .long x => .long x
  | .null => .null
  | v => v
def mE (G : mG) (x : mCell) : va_E := match x with
  | .inl q => .inl (gA G q.1, q.2.length, .inl (fun j => q.2.getD j 0))
  | .inr (.inl q) => .inl (gA G .long, q.length, .inr (.inl (fun j => q.getD j 0)))
  | .inr (.inr (.inl q)) => .inl (gR G q.1, q.2.length, .inr (.inr (.inr (.inr (fun j => (q.2.getD j none).map (fun a => gB G + (a - 64)))))))
  | .inr (.inr (.inr q)) => .inr (q.1, q.2.map (mV G))
def mHR (G : mG) (S0 h : mHeap) (H : Heap) : Prop := 64 ≤ h.length ∧ H.size + 64 = gB G + h.length ∧ (∀ i : Nat, i < 64 → h[i]? = S0[i]?) ∧ ∀ (i : Nat) (x : mCell), 64 ≤ i → h[i]? = some x → va_at (gD G) mCl (gB G + (i - 64), mE G x) H
def mA (G : mG) (q : Nat) : Prop := gB G ≤ q
def mLR (G : mG) (LS : Array Slot) (L : mLoc) : Prop := LS.size = L.length ∧ lv_wf LS ∧ ∀ (i : Nat) (v : Value), L[i]? = some (some v) → LS[i]? = some (.val (mV G v))
def mTys (G : mG) : List (ClassId × FieldType) := [(gA G .int, .int), (gA G .byte, .byte), (gA G .boolean, .boolean), (gA G .long, .long), (gR G 10, .object RX10), (gR G 3, .object RX3), (gR G 5, .object RX5), (gR G 4, .object RX4)]
/-- the static references are references -/
def mGok (G : mG) : Prop := ∀ a : Nat, gS G a = .null ∨ ∃ q, gS G a = .ref q
theorem mRho_or {G : mG} (hG : mGok G) (a : Nat) : mRho G a = .null ∨ ∃ q, mRho G a = .ref q := by
  unfold mRho
  split
  · exact hG a
  · exact Or.inr ⟨_, rfl⟩
theorem mRho_dyn {G : mG} {a : Nat} (h : 64 ≤ a) : mRho G a = .ref (gB G + (a - 64)) := by
  unfold mRho
  rw [if_neg (by omega)]
theorem mV_cat {G : mG} (hG : mGok G) (v : Value) : (mV G v).category = v.category := by
  cases v with
  | ref a => rcases mRho_or hG a with h | ⟨q, h⟩ <;> (show (mRho G a).category = 1; rw [h]; rfl)
  | _ => rfl
theorem mCat_map {G : mG} (hG : mGok G) (st : List Value) : ((st.map (mV G)).map fun v => v.category).sum = mCat st := by
  unfold mCat
  rw [List.map_map]
  congr 1
  exact List.map_congr_left (fun v _ => mV_cat hG v)
/-- the locals as the kit lists them -/
def mPairs (G : mG) (L : mLoc) : List (Nat × Value) := (List.range L.length).filterMap (fun i => match L[i]? with
  | some (some v) => some (i, mV G v)
  | _ => none)
theorem mPairs_mem {G : mG} {L : mLoc} {q : Nat × Value} : q ∈ mPairs G L ↔ ∃ v, L[q.1]? = some (some v) ∧ q.2 = mV G v := by
  unfold mPairs
  rw [List.mem_filterMap]
  constructor
  · rintro ⟨i, -, hi⟩
    split at hi
    · rename_i v hv
      cases hi
      exact ⟨v, hv, rfl⟩
    · cases hi
  · rintro ⟨v, h1, h2⟩
    refine ⟨q.1, List.mem_range.mpr (List.getElem?_eq_some_iff.mp h1).1, ?_⟩
    rw [h1]
    show some (q.1, mV G v) = some q
    rw [← h2]
theorem mLR.has {G : mG} {LS : Array Slot} {L : mLoc} (h : mLR G LS L) : lv_has LS L.length (mPairs G L) := by
  refine ⟨h.1, h.2.1, fun q hq => ?_⟩
  obtain ⟨v, h1, h2⟩ := mPairs_mem.mp hq
  rw [h2]
  exact h.2.2 q.1 v h1
theorem mSto_len (L : mLoc) (i : Nat) (v : Value) : (mSto L i v).length = L.length := by
  unfold mSto
  cases i with
  | zero => cases v <;> simp
  | succ j =>
    cases v <;> (dsimp only; split <;> simp)
/-- what stands in the locals behind a store: nothing new but the value -/
theorem mSto_get {L : mLoc} {i : Nat} {v : Value} {k : Nat} {w : Value} (h : (mSto L i v)[k]? = some (some w)) : (k = i ∧ w = v) ∨ (k ≠ i ∧ L[k]? = some (some w) ∧ ¬ (k + 1 = i ∧ w.category = 2) ∧ (∀ x, v = .long x → k ≠ i + 1)) := by
  have key : ∀ (M : mLoc), (M.set i (some v))[k]? = some (some w) → (k = i ∧ w = v) ∨ (k ≠ i ∧ M[k]? = some (some w)) := by
    intro M hM
    by_cases hk : k = i
    · subst hk
      by_cases hl : k < M.length
      · rw [List.getElem?_set_self hl] at hM
        cases hM
        exact Or.inl ⟨rfl, rfl⟩
      · rw [List.getElem?_eq_none (by simpa using Nat.le_of_not_lt hl)] at hM
        cases hM
    · rw [List.getElem?_set_ne (fun q => hk q.symm)] at hM
      exact Or.inr ⟨hk, hM⟩
  have key2 : ∀ (M : mLoc) (j : Nat), (M.set j none)[k]? = some (some w) → k ≠ j ∧ M[k]? = some (some w) := by
    intro M j hM
    by_cases hk : k = j
    · subst hk
      by_cases hl : k < M.length
      · rw [List.getElem?_set_self hl] at hM
        cases hM
      · rw [List.getElem?_eq_none (by simpa using Nat.le_of_not_lt hl)] at hM
        cases hM
    · rw [List.getElem?_set_ne (fun q => hk q.symm)] at hM
      exact ⟨hk, hM⟩
  have key3 : ∀ (M : mLoc), (match v with | .long _ => (M.set i (some v)).set (i + 1) none | _ => M.set i (some v))[k]? = some (some w) → (k = i ∧ w = v) ∨ (k ≠ i ∧ M[k]? = some (some w) ∧ ∀ x, v = .long x → k ≠ i + 1) := by
    intro M hM
    cases v with
    | long x =>
      obtain ⟨h1, h2⟩ := key2 _ _ hM
      rcases key M h2 with h3 | h3
      · exact Or.inl h3
      · exact Or.inr ⟨h3.1, h3.2, fun _ _ => h1⟩
    | _ =>
      rcases key M hM with h3 | h3
      · exact Or.inl h3
      · exact Or.inr ⟨h3.1, h3.2, fun x hx => by cases hx⟩
  unfold mSto at h
  cases i with
  | zero =>
    rcases key3 L h with h1 | ⟨h1, h2, h3⟩
    · exact Or.inl h1
    · exact Or.inr ⟨h1, h2, fun q => by omega, h3⟩
  | succ j =>
    rcases key3 _ h with h1 | ⟨h1, h2, h3⟩
    · exact Or.inl h1
    · dsimp only at h2
      split at h2
      · obtain ⟨h4, h5⟩ := key2 _ _ h2
        exact Or.inr ⟨h1, h5, fun q => h4 (by omega), h3⟩
      · obtain ⟨h4, h5⟩ := key2 _ _ h2
        exact Or.inr ⟨h1, h5, fun q => h4 (by omega), h3⟩
      · rename_i hne hne2
        refine Or.inr ⟨h1, h2, fun q => ?_, h3⟩
        obtain ⟨q1, q2⟩ := q
        have : k = j := by omega
        subst this
        cases w with
        | long x => exact hne x h2
        | double x => exact hne2 x h2
        | _ => simp [Value.category] at q2
/-- storing into the locals: an int or a reference, a long -/
theorem mLR.sto1 {G : mG} (hG : mGok G) {LS' : Array Slot} {L : mLoc} {i : Nat} {v : Value} (hc : v.category = 1) (hv : ∀ x, v ≠ .long x)
    (h' : lv_has LS' L.length ((i, mV G v) :: (mPairs G L).filter (fun q => !(q.1 == i) && !(q.1 + 1 == i && q.2.category == 2)))) : mLR G LS' (mSto L i v) := by
  refine ⟨by rw [mSto_len]; exact h'.1, h'.2.1, fun k w hk => ?_⟩
  rcases mSto_get hk with ⟨rfl, rfl⟩ | ⟨h1, h2, h3, -⟩
  · exact h'.2.2 _ List.mem_cons_self
  · refine h'.2.2 (k, mV G w) (List.mem_cons_of_mem _ (List.mem_filter.mpr ⟨mPairs_mem.mpr ⟨w, h2, rfl⟩, ?_⟩))
    simp only [Bool.and_eq_true, Bool.not_eq_true', beq_eq_false_iff_ne, ne_eq, Bool.and_eq_false_iff]
    refine ⟨h1, ?_⟩
    by_cases hk1 : k + 1 = i
    · right
      rw [mV_cat hG]
      intro hw
      exact h3 ⟨hk1, hw⟩
    · exact Or.inl hk1
theorem mLR.sto2 {G : mG} (hG : mGok G) {LS' : Array Slot} {L : mLoc} {i : Nat} {x : Int64}
    (h' : lv_has LS' L.length ((i, .long x) :: (mPairs G L).filter (fun q => !(q.1 == i) && (!(q.1 == i + 1) && !(q.1 + 1 == i && q.2.category == 2))))) : mLR G LS' (mSto L i (.long x)) := by
  refine ⟨by rw [mSto_len]; exact h'.1, h'.2.1, fun k w hk => ?_⟩
  rcases mSto_get hk with ⟨rfl, rfl⟩ | ⟨h1, h2, h3, h4⟩
  · exact h'.2.2 _ List.mem_cons_self
  · refine h'.2.2 (k, mV G w) (List.mem_cons_of_mem _ (List.mem_filter.mpr ⟨mPairs_mem.mpr ⟨w, h2, rfl⟩, ?_⟩))
    simp only [Bool.and_eq_true, Bool.not_eq_true', beq_eq_false_iff_ne, ne_eq, Bool.and_eq_false_iff]
    refine ⟨h1, h4 x rfl, ?_⟩
    by_cases hk1 : k + 1 = i
    · right
      rw [mV_cat hG]
      intro hw
      exact h3 ⟨hk1, hw⟩
    · exact Or.inl hk1
section Sim
variable {G : mG} {S0 : mHeap} {n0 z0 : Nat} {p : Program} {l : Launch} {e : Env} {R : Room} {s : State} {m : MethodId} {args : Array Value} {below : List Frame} {meth : Method} {c : Code} {Q : State → Prop} {cc : ByteArray} {pc : Nat} {L : mLoc} {st : List Value} {h : mHeap}
/-- the machine comes to Q from the frame at pc, whatever heap and locals are those of h and L -/
def mW (G : mG) (S0 : mHeap) (n0 z0 : Nat) (p : Program) (l : Launch) (e : Env) (R : Room) (s : State) (m : MethodId) (args : Array Value) (below : List Frame) (meth : Method) (c : Code) (Q : State → Prop) (pc : Nat) (L : mLoc) (st : List Value) (h : mHeap) : Prop :=
  n0 ≤ h.length → z0 ≤ mSlots h → ∀ (H : Heap) (locs : List Loc) (LS : Array Slot), mHR G S0 h H → va_S (mA G) s.heap H locs → mLR G LS L → W p l e R s m args below meth c H locs (h.length - n0) (mSlots h - z0) Q (F0 m pc LS (st.map (mV G)))
theorem sim_iadd (hx : p.tables.exec = Jvm.exec) (hb : c.code = cc) {x y : Int32} (hd : decode cc pc = .ok (.iadd, 1)) (k : mW G S0 n0 z0 p l e R s m args below meth c Q (pc + 1) L (.int (x + y) :: st) h) : mW G S0 n0 z0 p l e R s m args below meth c Q pc L (.int y :: .int x :: st) h :=
  fun a1 a2 H locs LS hH hS hL => lv_iadd hx hb hd (k a1 a2 H locs LS hH hS hL)
end Sim
