/-- ALL THAT IS LEFT, of the abstract machine alone: on every script of at most 3072 ints the law's run ends with 1, in its room -/
def mGoal : Prop := ∀ X : List Int32, X.length ≤ 3072 → ∃ (n : Nat) (h1 : mHeap), mExec 100 n 328 0 (mPad 4 [some (.ref 0)]) [] (mS0 X) = some (some (.int 1), h1) ∧ h1.length ≤ 560064 ∧ mSlots h1 ≤ mSlots (mS0 X) + 6500000
theorem mS0_len (X : List Int32) : (mS0 X).length = 64 := by simp [mS0]
theorem mS0_str (X : List Int32) {i : Nat} (hi : i < 28) : (mS0 X)[2 + i]? = some (mO 16 [.ref (30 + i), .int 0]) := by
  rw [show 2 + i = i + 1 + 1 by omega]
  show ((List.range 28).map (fun i => mO 16 [.ref (30 + i), .int 0]) ++ _)[i]? = _
  rw [List.getElem?_append_left (by simpa using hi), List.getElem?_map, List.getElem?_range hi]
  rfl
theorem mS0_byt (X : List Int32) {i : Nat} (hi : i < 28) : (mS0 X)[30 + i]? = some (mI .byte (mByts.getD i [])) := by
  rw [show 30 + i = 28 + i + 1 + 1 by omega]
  show ((List.range 28).map (fun i => mO 16 [.ref (30 + i), .int 0]) ++ ((List.range 28).map (fun i => mI .byte (mByts.getD i [])) ++ _))[28 + i]? = _
  rw [List.getElem?_append_right (by simp), List.length_map, List.length_range, show 28 + i - 28 = i by omega, List.getElem?_append_left (by simpa using hi), List.getElem?_map, List.getElem?_range hi]
  rfl
theorem mS0_end (X : List Int32) {i : Nat} (hi : i < 6) : (mS0 X)[58 + i]? = some (mO 99 []) := by
  rw [show 58 + i = 56 + i + 1 + 1 by omega]
  show ((List.range 28).map (fun i => mO 16 [.ref (30 + i), .int 0]) ++ ((List.range 28).map (fun i => mI .byte (mByts.getD i [])) ++ List.replicate 6 (mO 99 [])))[56 + i]? = _
  rw [List.getElem?_append_right (by simp; omega), List.length_map, List.length_range, show 56 + i - 28 = 28 + i by omega, List.getElem?_append_right (by simp), List.length_map, List.length_range, show 28 + i - 28 = i by omega, List.getElem?_replicate, if_pos hi]
def mSig (b t1 : Nat) (adK adV : Nat → Nat) (vf : Value) (a : Nat) : Value := if a = 0 then .ref b else if a = 1 then .ref t1 else if a < 30 then .ref (adK (a - 2)) else if a < 58 then .ref (adV (a - 30)) else if a = 63 then vf else .null
section Start
variable {s : State} {args : Array Value}
theorem mArr_of {ty : FieldType} (hno : ∀ C, ty ≠ .object C) (h : (Cond.arrayClass ty).before args s = true) : ∃ cA : ClassId, ArrOfT s cA ty ∧ va_RA s cA ty := by
  obtain ⟨cA, k, comp, h1, h2, h3⟩ := Cond.arrayClass_spec h
  refine ⟨cA, fun n z => ⟨(fun k h => by cases h), k, h2, comp, h3⟩, ?_⟩
  cases ty with
  | object C => exact absurd rfl (hno C)
  | _ => exact h1
theorem mArrR_of {C : String} (h : (Cond.arrayOver (.object C)).before args s = true) : ∃ cA : ClassId, ArrOfT s cA (.object C) ∧ va_RA s cA (.object C) := by
  obtain ⟨comp, cA, k, h1, -, h2, h3, h4⟩ := Cond.arrayOver_spec h
  exact ⟨cA, fun n z => ⟨(fun k h => by cases h), k, h2, comp, h3⟩, k, comp, h2, h3, h1, h4⟩
theorem mKnown (hts : ∀ w ∈ mTB, w.before args s = true) : ∃ (dC : Nat → ClassId) (dI : Nat → Nat → Nat), ∀ k, k < 13 → u_Kn s (mOw k) (mT k) (mNf k) (dC k) (dI k) := by
  have h : ∀ k, ∃ q : ClassId × (Nat → Nat), k < 13 → u_Kn s (mOw k) (mT k) (mNf k) q.1 q.2 := by
    intro k
    by_cases hk : k < 13
    · obtain ⟨cC, iS, hK⟩ := u_known (n := mNf k) hts (mLay hk) (hts _ (mTB_in (mInst k hk).1 rfl))
      exact ⟨(cC, iS), fun _ => hK⟩
    · exact ⟨(0, fun _ => 0), fun h => absurd h hk⟩
  obtain ⟨f, hf⟩ := Classical.axiomOfChoice h
  exact ⟨fun k => (f k).1, fun k => (f k).2, hf⟩
theorem mText (hg : mGiv.before args s = true) {A : Nat → Prop} (hA : ∀ a : Nat, a < s.heap.size → ¬ A a) : ∃ adK adV : Nat → Nat, ∀ i, i < 28 → (mTm i).eval args s none [] s = some (.ref (adK i)) ∧ va_O "java/lang/String" (adK i) A s s.heap ∧ va_OF "java/lang/String" "coder" "B" (.int 0) (adK i) A s s.heap ∧ va_OF "java/lang/String" "value" "[B" (.ref (adV i)) (adK i) A s s.heap ∧ va_T .byte (adV i) (mByts.getD i []).length (fun j => .int ((mByts.getD i []).getD j 0)) A s s.heap := by
  have hs := flat_of_before _ hg
  have h0 : ∀ i : Nat, ∃ q : Nat × Nat, i < 28 → (mTm i).eval args s none [] s = some (.ref q.1) ∧ va_O "java/lang/String" q.1 A s s.heap ∧ va_OF "java/lang/String" "coder" "B" (.int 0) q.1 A s s.heap ∧ va_OF "java/lang/String" "value" "[B" (.ref q.2) q.1 A s s.heap ∧ va_T .byte q.2 (mByts.getD i []).length (fun j => .int ((mByts.getD i []).getD j 0)) A s s.heap := by
    intro i
    by_cases hi : i < 28
    · obtain ⟨a, c, cA, kA, q1, q2, q3, q4, q5, q6, -⟩ := Cond.exactly_spec (args := args) (first := s) (o := none) (s := s) (idx := []) (t := mTm i) (cls := "java/lang/String") (hs _ (st_ex i hi))
      have hN : ∀ i, i < 28 → (mByts.getD i []).length < 2 ^ 31 := by decide +kernel
      obtain ⟨t, ht, hT⟩ := va_Tof (f := fun j => .int ((mByts.getD i []).getD j 0)) (A := A) (hN i hi) (hs _ (st_ar i hi)) (va_eqt (hs _ (st_le i hi))) (fun j hj => va_eqt (hs _ (st_el i hi j hj))) hA
      exact ⟨(a, t), fun _ => ⟨q1, ⟨cA, q3, q5, by rw [q6]; exact q2, hA a (Array.getElem?_eq_some_iff.mp q3).1⟩, vk_OFof q1 (va_eqt (hs _ (st_co i hi))) hA, vk_OFof q1 ht hA, hT⟩⟩
    · exact ⟨(0, 0), fun h => absurd h hi⟩
  obtain ⟨ad, had⟩ := Classical.axiomOfChoice h0
  exact ⟨fun i => (ad i).1, fun i => (ad i).2, had⟩
theorem mStart {p : Program} {s : State} {m : MethodId} {meth : Method} {c : Code} {b L : Nat} {xs : Nat → Int32} (C0 : lw_At p s m meth c b L xs) : ∃ G : mG, gB G = s.heap.size ∧ mRho G 0 = .ref b ∧ mCtx G (mS0 ((List.range L).map xs)) 20 4 p s m #[Value.ref b] c code := by
  obtain ⟨hx, hb, hr, hml, hown, hts0, hX, hbl, hlocks, hgv⟩ := C0
  have hts : ∀ w ∈ mTB, w.before #[Value.ref b] s = true := fun w hw => hts0 w (List.mem_filter.mp hw).1
  have hs := flat_of_before _ hgv
  obtain ⟨dC, dI, hKn⟩ := mKnown hts
  obtain ⟨cI, i1, i2⟩ := mArr_of (ty := .int) (fun _ h => by cases h) (hts _ (mTB_in ac_int rfl))
  obtain ⟨cB, b1, b2⟩ := mArr_of (ty := .byte) (fun _ h => by cases h) (hts _ (mTB_in ac_byte rfl))
  obtain ⟨cZ, z1, z2⟩ := mArr_of (ty := .boolean) (fun _ h => by cases h) (hts _ (mTB_in ac_boolean rfl))
  obtain ⟨cJ, j1, j2⟩ := mArr_of (ty := .long) (fun _ h => by cases h) (hts _ (mTB_in ac_long rfl))
  obtain ⟨cW, w1, w2⟩ := mArrR_of (C := RX10) (hts0 _ ao_wd.1)
  obtain ⟨cM, m1, m2⟩ := mArrR_of (C := RX3) (hts0 _ ao_wd.2.1)
  obtain ⟨cR, r1, r2⟩ := mArrR_of (C := RX5) (hts0 _ ao_wd.2.2.1)
  obtain ⟨cP, p1, p2⟩ := mArrR_of (C := RX4) (hts0 _ ao_wd.2.2.2)
  have hA : ∀ a : Nat, a < s.heap.size → ¬ (fun q : Nat => s.heap.size ≤ q) a := fun a h q => by have q2 : s.heap.size ≤ a := q; omega
  obtain ⟨adK, adV, hT⟩ := mText hgv hA
  obtain ⟨t1, lt, lT⟩ := va_Tof (args := #[Value.ref b]) (s := s) (f := fun j => .long (mLow.getD j 0)) (A := fun q : Nat => s.heap.size ≤ q) (by decide) (hs _ lo_ar) (va_eqt (hs _ lo_le)) (fun j hj => va_eqtl (hs _ (lo_el j hj))) hA
  have lZ := va_Zof (A := fun q : Nat => s.heap.size ≤ q) (hts0 _ ls_wd.1) (hts0 _ in_wd.1) lt hA
  have cZz := va_Zof (A := fun q : Nat => s.heap.size ≤ q) (hts0 _ ls_wd.2.1) (hts0 _ in_wd.2.1) (va_eqi (hs _ co_eq)) hA
  have sZ := va_Zqof (A := fun q : Nat => s.heap.size ≤ q) (hts0 _ ls_wd.2.2) (hts0 _ in_wd.2.2) (hs _ sb_is) hA
  obtain ⟨vf, hvf, sZ⟩ : ∃ vf : Value, (vf = .null ∨ ∃ t, vf = .ref t) ∧ va_Z "jdk/internal/util/Preconditions" "SIOOBE_FORMATTER" "Ljava/util/function/BiFunction;" vf (fun q : Nat => s.heap.size ≤ q) s s.heap := by
    rcases sZ with h | ⟨t, h⟩
    · exact ⟨_, Or.inl rfl, h⟩
    · exact ⟨_, Or.inr ⟨t, rfl⟩, h⟩
  have hGdef : ∃ G : mG, G = ((dC, dI), (fun ty => match ty with | .int => cI | .byte => cB | .boolean => cZ | _ => cJ), (fun k => if k = 10 then cW else if k = 3 then cM else if k = 5 then cR else cP), mSig b t1 adK adV vf, s.heap.size) := ⟨_, rfl⟩
  obtain ⟨G, hGe⟩ := hGdef
  have hAe : mA G = fun q : Nat => s.heap.size ≤ q := by rw [hGe]; rfl
  have hSe : ∀ a, gS G a = mSig b t1 adK adV vf a := fun a => by rw [hGe]
  have hBe : gB G = s.heap.size := by rw [hGe]
  have hSK : ∀ i, i < 28 → gS G (2 + i) = .ref (adK i) := fun i hi => by
    rw [hSe]
    unfold mSig
    rw [if_neg (by omega), if_neg (by omega), if_pos (by omega), show 2 + i - 2 = i by omega]
  have hSV : ∀ i, i < 28 → gS G (30 + i) = .ref (adV i) := fun i hi => by
    rw [hSe]
    unfold mSig
    rw [if_neg (by omega), if_neg (by omega), if_neg (by omega), if_pos (by omega), show 30 + i - 30 = i by omega]
  have hok : mGok G := by
    intro a
    rw [hSe]
    unfold mSig
    (repeat' split) <;> first | exact Or.inr ⟨_, rfl⟩ | exact hvf | exact Or.inl rfl
  have hK : va_K (gD G) mCl (mTys G) s := by
    rw [hGe]
    refine ⟨fun k q hq => ?_, fun k q hk => ?_⟩
    · obtain ⟨rfl, hlt⟩ := mCl_get hq
      exact hKn k hlt
    · match k, hk with
      | 0, hk => cases hk; exact ⟨i1, i2⟩
      | 1, hk => cases hk; exact ⟨b1, b2⟩
      | 2, hk => cases hk; exact ⟨z1, z2⟩
      | 3, hk => cases hk; exact ⟨j1, j2⟩
      | 4, hk => cases hk; exact ⟨w1, w2⟩
      | 5, hk => cases hk; exact ⟨m1, m2⟩
      | 6, hk => cases hk; exact ⟨r1, r2⟩
      | 7, hk => cases hk; exact ⟨p1, p2⟩
      | n + 8, hk => cases hk
  have hKs : mKs G s := ⟨hK, fun q hq => va_Nw.of rfl (hts0 _ (ne_wd q hq)), ⟨va_AO.of (hts0 _ ao_wd.1), va_AO.of (hts0 _ ao_wd.2.1), va_AO.of (hts0 _ ao_wd.2.2.1), va_AO.of (hts0 _ ao_wd.2.2.2)⟩, va_Nw.of rfl (hts0 _ ca_wd), fun q hq => by
    obtain ⟨g1, g2, g3, g4⟩ := st_at q hq
    refine ⟨adK (q.2.2 - 2), ?_, vk_R.of (hts0 _ (st_wd q hq)) (by rw [← g4]; exact (hT _ g1).1)⟩
    rw [← hSK _ g1, show 2 + (q.2.2 - 2) = q.2.2 by omega]⟩
  have hSF : mSF G (mS0 ((List.range L).map xs)) s s.heap := by
    refine ⟨fun a x ha hxx => ?_, ?_, ?_, ?_⟩
    · by_cases h0 : a = 0
      · subst h0
        cases hxx
        obtain ⟨scr, g1, g2, g3, g4, g5⟩ := hX
        refine ⟨Or.inl rfl, b, by rw [hSe]; rfl, ?_⟩
        rw [hAe]
        refine ⟨scr, g1, g2, g3, ?_, ?_, fun j hj => ?_, hA b hbl⟩
        · rw [List.length_map, List.length_range]; omega
        · rw [List.length_map, List.length_range, g4]
        · rw [List.length_map, List.length_range] at hj
          rw [g5 j hj]
          show some (Value.int (xs j)) = some (Value.int (((List.range L).map xs).getD j 0))
          rw [List.getD_eq_getElem?_getD, List.getElem?_map, List.getElem?_range hj]
          rfl
      · by_cases h1 : a = 1
        · subst h1
          cases hxx
          refine ⟨t1, by rw [hSe]; rfl, ?_⟩
          rw [hAe]
          exact lT
        · by_cases h2 : a < 30
          · obtain ⟨i, rfl⟩ : ∃ i, a = 2 + i := ⟨a - 2, by omega⟩
            have hi : i < 28 := by omega
            rw [mS0_str _ hi] at hxx
            cases hxx
            refine Or.inr ⟨rfl, adK i, hSK i hi, ?_, fun k v hv => ?_⟩
            · rw [hAe]; exact (hT i hi).2.1
            · rw [hAe]
              match k, hv with
              | 0, hv =>
                cases hv
                show va_OF "java/lang/String" "value" "[B" (mRho G (30 + i)) _ _ _ _
                rw [mRho_st (by omega) (hSV i hi)]
                exact (hT i hi).2.2.2.1
              | 1, hv => cases hv; exact (hT i hi).2.2.1
              | n + 2, hv => cases hv
          · by_cases h3 : a < 58
            · obtain ⟨i, rfl⟩ : ∃ i, a = 30 + i := ⟨a - 30, by omega⟩
              have hi : i < 28 := by omega
              rw [mS0_byt _ hi] at hxx
              cases hxx
              refine ⟨Or.inr rfl, adV i, hSV i hi, ?_⟩
              rw [hAe]
              exact (hT i hi).2.2.2.2
            · obtain ⟨i, rfl⟩ : ∃ i, a = 58 + i := ⟨a - 58, by omega⟩
              rw [mS0_end _ (show i < 6 by omega)] at hxx
              cases hxx
              exact Or.inl ⟨rfl, rfl⟩
    · rw [hAe, mRho_st (by omega) (show gS G 1 = .ref t1 by rw [hSe]; rfl)]
      exact lZ
    · rw [hAe]
      exact cZz
    · rw [hAe, mRho_st (by omega) (show gS G 63 = vf by rw [hSe]; rfl)]
      exact sZ
  exact ⟨G, hBe, mRho_st (by omega) (by rw [hSe]; rfl), hx, hb, hml, hown, hts, hok, hKs, hSF, by rw [hBe]; exact Nat.le_refl _⟩
end Start
