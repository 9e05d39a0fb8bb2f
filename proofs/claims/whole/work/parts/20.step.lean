theorem mCopySz {xs ys : List Int32} {n : Nat} (h1 : n ≤ xs.length) (h2 : n ≤ ys.length) : mSz (mI .int (xs.take n ++ ys.drop n)) = mSz (mI .int ys) := by
  show (xs.take n ++ ys.drop n).length = ys.length
  rw [List.length_append, List.length_take, List.length_drop]
  omega
set_option maxHeartbeats 8000000 in
theorem mSim {L L1 : mLoc} {st st1 : List Value} {h h1 : mHeap} {rt : Option FieldType} {nx pc1 : Nat} {i : Instr} (hst : mStep mTy mNf rt i nx L st h = some (.inl (pc1, L1, st1, h1))) :
    (h.length ≤ h1.length ∧ mSlots h ≤ mSlots h1 ∧ L1.length = L.length) ∧ (∀ {G : mG} {S0 : mHeap} {n0 z0 : Nat} {p : Program} {l : Launch} {e : Env} {R : Room} {s : State} {m : MethodId} {args : Array Value} {below : List Frame} {meth : Method} {c : Code} {Q : State → Prop} {cc : ByteArray} {o nL pc : Nat}, mCtx G S0 o nL p s m args c cc → mChk o cc (pc, i, nx) = true → (∀ q, i = .putfield q → (mT (q / 128) (q % 128)).2.2.2 = false ∨ ((mT (q / 128) (q % 128)).2.2.2 = true ∧ meth.name = "<init>" ∧ o = q / 128)) → L.length = nL → 1 ≤ R.frames → 40 ≤ R.locals → h1.length - n0 ≤ R.cells → mSlots h1 - z0 ≤ R.slots → mW G S0 n0 z0 p l e R s m args below meth c Q pc1 L1 st1 h1 → mW G S0 n0 z0 p l e R s m args below meth c Q pc L st h) := by
  cases i with
  | iconst n =>
    cases hst
    exact ⟨⟨Nat.le_refl _, Nat.le_refl _, rfl⟩, fun C hk hfin hLn hrf hrl _ _ k => sm_iconst C hk k⟩
  | jsr n =>
    cases hst
    exact ⟨⟨Nat.le_refl _, Nat.le_refl _, rfl⟩, fun C hk hfin hLn hrf hrl _ _ k => sm_jsr C hk k⟩
  | jsr_w n =>
    cases hst
    exact ⟨⟨Nat.le_refl _, Nat.le_refl _, rfl⟩, fun C hk hfin hLn hrf hrl _ _ k => sm_jsr_w C hk k⟩
  | aconst_null =>
    cases hst
    exact ⟨⟨Nat.le_refl _, Nat.le_refl _, rfl⟩, fun C hk hfin hLn hrf hrl _ _ k => sm_aconst_null C.1 C.2.1 hk k⟩
  | iload k0 =>
    simp only [mStep] at hst
    split at hst
    · rename_i x hl
      cases hst
      exact ⟨⟨Nat.le_refl _, Nat.le_refl _, rfl⟩, fun C hk hfin hLn hrf hrl _ _ k => sm_iload C.1 C.2.1 hl hk k⟩
    · cases hst
  | lload k0 =>
    simp only [mStep] at hst
    split at hst
    · rename_i x hl
      cases hst
      exact ⟨⟨Nat.le_refl _, Nat.le_refl _, rfl⟩, fun C hk hfin hLn hrf hrl _ _ k => sm_lload C.1 C.2.1 hl hk k⟩
    · cases hst
  | aload k0 =>
    simp only [mStep] at hst
    split at hst
    · rename_i x hl
      cases hst
      exact ⟨⟨Nat.le_refl _, Nat.le_refl _, rfl⟩, fun C hk hfin hLn hrf hrl _ _ k => sm_aload C.1 C.2.1 C.2.2.2.2.2.1 hl (Or.inr ⟨_, rfl⟩) hk k⟩
    · rename_i hl
      cases hst
      exact ⟨⟨Nat.le_refl _, Nat.le_refl _, rfl⟩, fun C hk hfin hLn hrf hrl _ _ k => sm_aload C.1 C.2.1 C.2.2.2.2.2.1 hl (Or.inl rfl) hk k⟩
    · cases hst
  | istore k0 =>
    simp only [mStep] at hst
    split at hst
    · split at hst
      · rename_i hl
        cases hst
        exact ⟨⟨Nat.le_refl _, Nat.le_refl _, mSto_len _ _ _⟩, fun C hk hfin hLn hrf hrl _ _ k => sm_istore C.1 C.2.1 C.2.2.2.2.2.1 hl hk k⟩
      · cases hst
    · cases hst
  | lstore k0 =>
    simp only [mStep] at hst
    split at hst
    · split at hst
      · rename_i hl
        cases hst
        exact ⟨⟨Nat.le_refl _, Nat.le_refl _, mSto_len _ _ _⟩, fun C hk hfin hLn hrf hrl _ _ k => sm_lstore C.1 C.2.1 C.2.2.2.2.2.1 hl hk k⟩
      · cases hst
    · cases hst
  | astore k0 =>
    simp only [mStep] at hst
    split at hst
    · split at hst
      · rename_i hl
        cases hst
        exact ⟨⟨Nat.le_refl _, Nat.le_refl _, mSto_len _ _ _⟩, fun C hk hfin hLn hrf hrl _ _ k => sm_astore C.1 C.2.1 C.2.2.2.2.2.1 (Or.inr ⟨_, rfl⟩) hl hk k⟩
      · cases hst
    · split at hst
      · rename_i hl
        cases hst
        exact ⟨⟨Nat.le_refl _, Nat.le_refl _, mSto_len _ _ _⟩, fun C hk hfin hLn hrf hrl _ _ k => sm_astore C.1 C.2.1 C.2.2.2.2.2.1 (Or.inl rfl) hl hk k⟩
      · cases hst
    · cases hst
  | iinc k0 n =>
    simp only [mStep] at hst
    split at hst
    · rename_i x hl
      cases hst
      exact ⟨⟨Nat.le_refl _, Nat.le_refl _, mSto_len _ _ _⟩, fun C hk hfin hLn hrf hrl _ _ k => sm_iinc C.1 C.2.1 C.2.2.2.2.2.1 hl hk k⟩
    · cases hst
  | iadd =>
    simp only [mStep] at hst
    split at hst
    · cases hst
      exact ⟨⟨Nat.le_refl _, Nat.le_refl _, rfl⟩, fun C hk hfin hLn hrf hrl _ _ k => sm_iadd C.1 C.2.1 hk k⟩
    · cases hst
  | isub =>
    simp only [mStep] at hst
    split at hst
    · cases hst
      exact ⟨⟨Nat.le_refl _, Nat.le_refl _, rfl⟩, fun C hk hfin hLn hrf hrl _ _ k => sm_isub C.1 C.2.1 hk k⟩
    · cases hst
  | imul =>
    simp only [mStep] at hst
    split at hst
    · cases hst
      exact ⟨⟨Nat.le_refl _, Nat.le_refl _, rfl⟩, fun C hk hfin hLn hrf hrl _ _ k => sm_imul C.1 C.2.1 hk k⟩
    · cases hst
  | iand =>
    simp only [mStep] at hst
    split at hst
    · cases hst
      exact ⟨⟨Nat.le_refl _, Nat.le_refl _, rfl⟩, fun C hk hfin hLn hrf hrl _ _ k => sm_iand C.1 C.2.1 hk k⟩
    · cases hst
  | ior =>
    simp only [mStep] at hst
    split at hst
    · cases hst
      exact ⟨⟨Nat.le_refl _, Nat.le_refl _, rfl⟩, fun C hk hfin hLn hrf hrl _ _ k => sm_ior C.1 C.2.1 hk k⟩
    · cases hst
  | ixor =>
    simp only [mStep] at hst
    split at hst
    · cases hst
      exact ⟨⟨Nat.le_refl _, Nat.le_refl _, rfl⟩, fun C hk hfin hLn hrf hrl _ _ k => sm_ixor C.1 C.2.1 hk k⟩
    · cases hst
  | ineg =>
    simp only [mStep] at hst
    split at hst
    · cases hst
      exact ⟨⟨Nat.le_refl _, Nat.le_refl _, rfl⟩, fun C hk hfin hLn hrf hrl _ _ k => sm_ineg C.1 C.2.1 hk k⟩
    · cases hst
  | ishl =>
    simp only [mStep] at hst
    split at hst
    · cases hst
      exact ⟨⟨Nat.le_refl _, Nat.le_refl _, rfl⟩, fun C hk hfin hLn hrf hrl _ _ k => sm_ishl C.1 C.2.1 hk k⟩
    · cases hst
  | ishr =>
    simp only [mStep] at hst
    split at hst
    · cases hst
      exact ⟨⟨Nat.le_refl _, Nat.le_refl _, rfl⟩, fun C hk hfin hLn hrf hrl _ _ k => sm_ishr C.1 C.2.1 hk k⟩
    · cases hst
  | iushr =>
    simp only [mStep] at hst
    split at hst
    · cases hst
      exact ⟨⟨Nat.le_refl _, Nat.le_refl _, rfl⟩, fun C hk hfin hLn hrf hrl _ _ k => sm_iushr C.1 C.2.1 hk k⟩
    · cases hst
  | ladd =>
    simp only [mStep] at hst
    split at hst
    · cases hst
      exact ⟨⟨Nat.le_refl _, Nat.le_refl _, rfl⟩, fun C hk hfin hLn hrf hrl _ _ k => sm_ladd C.1 C.2.1 hk k⟩
    · cases hst
  | lsub =>
    simp only [mStep] at hst
    split at hst
    · cases hst
      exact ⟨⟨Nat.le_refl _, Nat.le_refl _, rfl⟩, fun C hk hfin hLn hrf hrl _ _ k => sm_lsub C.1 C.2.1 hk k⟩
    · cases hst
  | lmul =>
    simp only [mStep] at hst
    split at hst
    · cases hst
      exact ⟨⟨Nat.le_refl _, Nat.le_refl _, rfl⟩, fun C hk hfin hLn hrf hrl _ _ k => sm_lmul C.1 C.2.1 hk k⟩
    · cases hst
  | land =>
    simp only [mStep] at hst
    split at hst
    · cases hst
      exact ⟨⟨Nat.le_refl _, Nat.le_refl _, rfl⟩, fun C hk hfin hLn hrf hrl _ _ k => sm_land C.1 C.2.1 hk k⟩
    · cases hst
  | lor =>
    simp only [mStep] at hst
    split at hst
    · cases hst
      exact ⟨⟨Nat.le_refl _, Nat.le_refl _, rfl⟩, fun C hk hfin hLn hrf hrl _ _ k => sm_lor C.1 C.2.1 hk k⟩
    · cases hst
  | lxor =>
    simp only [mStep] at hst
    split at hst
    · cases hst
      exact ⟨⟨Nat.le_refl _, Nat.le_refl _, rfl⟩, fun C hk hfin hLn hrf hrl _ _ k => sm_lxor C.1 C.2.1 hk k⟩
    · cases hst
  | lneg =>
    simp only [mStep] at hst
    split at hst
    · cases hst
      exact ⟨⟨Nat.le_refl _, Nat.le_refl _, rfl⟩, fun C hk hfin hLn hrf hrl _ _ k => sm_lneg C.1 C.2.1 hk k⟩
    · cases hst
  | lshl =>
    simp only [mStep] at hst
    split at hst
    · cases hst
      exact ⟨⟨Nat.le_refl _, Nat.le_refl _, rfl⟩, fun C hk hfin hLn hrf hrl _ _ k => sm_lshl C.1 C.2.1 hk k⟩
    · cases hst
  | lushr =>
    simp only [mStep] at hst
    split at hst
    · cases hst
      exact ⟨⟨Nat.le_refl _, Nat.le_refl _, rfl⟩, fun C hk hfin hLn hrf hrl _ _ k => sm_lushr C.1 C.2.1 hk k⟩
    · cases hst
  | lcmp =>
    simp only [mStep] at hst
    split at hst
    · cases hst
      exact ⟨⟨Nat.le_refl _, Nat.le_refl _, rfl⟩, fun C hk hfin hLn hrf hrl _ _ k => sm_lcmp C.1 C.2.1 hk k⟩
    · cases hst
  | i2l =>
    simp only [mStep] at hst
    split at hst
    · cases hst
      exact ⟨⟨Nat.le_refl _, Nat.le_refl _, rfl⟩, fun C hk hfin hLn hrf hrl _ _ k => sm_i2l C.1 C.2.1 hk k⟩
    · cases hst
  | l2i =>
    simp only [mStep] at hst
    split at hst
    · cases hst
      exact ⟨⟨Nat.le_refl _, Nat.le_refl _, rfl⟩, fun C hk hfin hLn hrf hrl _ _ k => sm_l2i C.1 C.2.1 hk k⟩
    · cases hst
  | i2b =>
    simp only [mStep] at hst
    split at hst
    · cases hst
      exact ⟨⟨Nat.le_refl _, Nat.le_refl _, rfl⟩, fun C hk hfin hLn hrf hrl _ _ k => sm_i2b C.1 C.2.1 hk k⟩
    · cases hst
  | i2c =>
    simp only [mStep] at hst
    split at hst
    · cases hst
      exact ⟨⟨Nat.le_refl _, Nat.le_refl _, rfl⟩, fun C hk hfin hLn hrf hrl _ _ k => sm_i2c C.1 C.2.1 hk k⟩
    · cases hst
  | idiv =>
    simp only [mStep] at hst
    split at hst
    · split at hst
      · cases hst
      · rename_i hne
        cases hst
        exact ⟨⟨Nat.le_refl _, Nat.le_refl _, rfl⟩, fun C hk hfin hLn hrf hrl _ _ k => sm_idiv C.1 C.2.1 hne hk k⟩
    · cases hst
  | irem =>
    simp only [mStep] at hst
    split at hst
    · split at hst
      · cases hst
      · rename_i hne
        cases hst
        exact ⟨⟨Nat.le_refl _, Nat.le_refl _, rfl⟩, fun C hk hfin hLn hrf hrl _ _ k => sm_irem C.1 C.2.1 hne hk k⟩
    · cases hst
  | ldiv =>
    simp only [mStep] at hst
    split at hst
    · split at hst
      · cases hst
      · rename_i hne
        cases hst
        exact ⟨⟨Nat.le_refl _, Nat.le_refl _, rfl⟩, fun C hk hfin hLn hrf hrl _ _ k => sm_ldiv C.1 C.2.1 hne hk k⟩
    · cases hst
  | lrem =>
    simp only [mStep] at hst
    split at hst
    · split at hst
      · cases hst
      · rename_i hne
        cases hst
        exact ⟨⟨Nat.le_refl _, Nat.le_refl _, rfl⟩, fun C hk hfin hLn hrf hrl _ _ k => sm_lrem C.1 C.2.1 hne hk k⟩
    · cases hst
  | dup =>
    simp only [mStep] at hst
    split at hst
    · cases hst
      exact ⟨⟨Nat.le_refl _, Nat.le_refl _, rfl⟩, fun C hk hfin hLn hrf hrl _ _ k => sm_dup C.1 C.2.1 rfl hk k⟩
    · cases hst
      exact ⟨⟨Nat.le_refl _, Nat.le_refl _, rfl⟩, fun C hk hfin hLn hrf hrl _ _ k => sm_dup C.1 C.2.1 (mV_cat C.2.2.2.2.2.1 _) hk k⟩
    · cases hst
  | dup2 =>
    simp only [mStep] at hst
    split at hst
    · cases hst
      exact ⟨⟨Nat.le_refl _, Nat.le_refl _, rfl⟩, fun C hk hfin hLn hrf hrl _ _ k => sm_dup2 C.1 C.2.1 rfl rfl hk k⟩
    · cases hst
      exact ⟨⟨Nat.le_refl _, Nat.le_refl _, rfl⟩, fun C hk hfin hLn hrf hrl _ _ k => sm_dup2 C.1 C.2.1 rfl (mV_cat C.2.2.2.2.2.1 _) hk k⟩
    · cases hst
      exact ⟨⟨Nat.le_refl _, Nat.le_refl _, rfl⟩, fun C hk hfin hLn hrf hrl _ _ k => sm_dup2L C.1 C.2.1 hk k⟩
    · cases hst
  | pop =>
    simp only [mStep] at hst
    split at hst
    · cases hst
      exact ⟨⟨Nat.le_refl _, Nat.le_refl _, rfl⟩, fun C hk hfin hLn hrf hrl _ _ k => sm_pop C.1 C.2.1 rfl hk k⟩
    · cases hst
  | goto t =>
    cases hst
    exact ⟨⟨Nat.le_refl _, Nat.le_refl _, rfl⟩, fun C hk hfin hLn hrf hrl _ _ k => sm_goto C.1 C.2.1 hk k⟩
  | ifCond q t =>
    simp only [mStep] at hst
    split at hst
    · cases hst
      exact ⟨⟨Nat.le_refl _, Nat.le_refl _, rfl⟩, fun C hk hfin hLn hrf hrl _ _ k => sm_if C.1 C.2.1 hk k⟩
    · cases hst
  | if_icmp q t =>
    simp only [mStep] at hst
    split at hst
    · cases hst
      exact ⟨⟨Nat.le_refl _, Nat.le_refl _, rfl⟩, fun C hk hfin hLn hrf hrl _ _ k => sm_icmp C.1 C.2.1 hk k⟩
    · cases hst
  | ifnull t =>
    simp only [mStep] at hst
    split at hst
    · cases hst
      exact ⟨⟨Nat.le_refl _, Nat.le_refl _, rfl⟩, fun C hk hfin hLn hrf hrl _ _ k => sm_ifnullN C.1 C.2.1 hk k⟩
    · split at hst
      · rename_i ha
        cases hst
        exact ⟨⟨Nat.le_refl _, Nat.le_refl _, rfl⟩, fun C hk hfin hLn hrf hrl _ _ k => sm_ifnullR C.1 C.2.1 ha hk k⟩
      · cases hst
    · cases hst
  | ifnonnull t =>
    simp only [mStep] at hst
    split at hst
    · cases hst
      exact ⟨⟨Nat.le_refl _, Nat.le_refl _, rfl⟩, fun C hk hfin hLn hrf hrl _ _ k => sm_ifnonnullN C.1 C.2.1 hk k⟩
    · split at hst
      · rename_i ha
        cases hst
        exact ⟨⟨Nat.le_refl _, Nat.le_refl _, rfl⟩, fun C hk hfin hLn hrf hrl _ _ k => sm_ifnonnullR C.1 C.2.1 ha hk k⟩
      · cases hst
    · cases hst
  | tableswitch d lo hi os =>
    simp only [mStep] at hst
    split at hst
    · split at hst
      · rename_i hh
        cases hst
        exact ⟨⟨Nat.le_refl _, Nat.le_refl _, rfl⟩, fun C hk hfin hLn hrf hrl _ _ k => sm_tsw C.1 C.2.1 (Or.inl ⟨hh, rfl⟩) hk k⟩
      · rename_i hh
        split at hst
        · rename_i t ht
          cases hst
          exact ⟨⟨Nat.le_refl _, Nat.le_refl _, rfl⟩, fun C hk hfin hLn hrf hrl _ _ k => sm_tsw C.1 C.2.1 (Or.inr ⟨hh, ht⟩) hk k⟩
        · cases hst
    · cases hst
  | lookupswitch d ps =>
    simp only [mStep] at hst
    split at hst
    · cases hst
      exact ⟨⟨Nat.le_refl _, Nat.le_refl _, rfl⟩, fun C hk hfin hLn hrf hrl _ _ k => sm_lsw C.1 C.2.1 hk k⟩
    · cases hst
  | getfield q =>
    simp only [mStep] at hst
    split at hst
    · split at hst
      · rename_i hh
        split at hst
        · rename_i hq
          split at hst
          · rename_i v hv
            cases hst
            subst hq
            exact ⟨⟨Nat.le_refl _, Nat.le_refl _, rfl⟩, fun C hk hfin hLn hrf hrl _ _ k => sm_getfield C hh hv hk k⟩
          · cases hst
        · cases hst
      · cases hst
    · cases hst
  | putfield q =>
    simp only [mStep] at hst
    split at hst
    · split at hst
      · rename_i hh
        split at hst
        · rename_i hq
          obtain ⟨q1, rfl, q3, q4⟩ := hq
          cases hst
          exact ⟨⟨by rw [List.length_set]; exact Nat.le_refl _, by rw [mSlots_set hh (by show (List.set _ _ _).length = _; rw [List.length_set]; rfl)]; exact Nat.le_refl _, rfl⟩, fun C hk hfin hLn hrf hrl _ _ k => sm_putfield C hh q1 q3 q4 (hfin q rfl) hk k⟩
        · cases hst
      · cases hst
    · cases hst
  | iaload =>
    simp only [mStep] at hst
    split at hst
    · split at hst
      · rename_i hh
        split at hst
        · cases hst
        · rename_i h0
          split at hst
          · rename_i x hx0
            cases hst
            exact ⟨⟨Nat.le_refl _, Nat.le_refl _, rfl⟩, fun C hk hfin hLn hrf hrl _ _ k => sm_iaload C hh h0 hx0 hk k⟩
          · cases hst
      · cases hst
    · cases hst
  | baload =>
    simp only [mStep] at hst
    split at hst
    · split at hst
      · rename_i hh
        split at hst
        · cases hst
        · rename_i h0
          split at hst
          · rename_i x hx0
            cases hst
            exact ⟨⟨Nat.le_refl _, Nat.le_refl _, rfl⟩, fun C hk hfin hLn hrf hrl _ _ k => sm_baload C hh h0 hx0 hk k⟩
          · cases hst
      · rename_i hh
        split at hst
        · cases hst
        · rename_i h0
          split at hst
          · rename_i x hx0
            cases hst
            exact ⟨⟨Nat.le_refl _, Nat.le_refl _, rfl⟩, fun C hk hfin hLn hrf hrl _ _ k => sm_baloadZ C hh h0 hx0 hk k⟩
          · cases hst
      · cases hst
    · cases hst
  | laload =>
    simp only [mStep] at hst
    split at hst
    · split at hst
      · rename_i hh
        split at hst
        · cases hst
        · rename_i h0
          split at hst
          · rename_i x hx0
            cases hst
            exact ⟨⟨Nat.le_refl _, Nat.le_refl _, rfl⟩, fun C hk hfin hLn hrf hrl _ _ k => sm_laload C hh h0 hx0 hk k⟩
          · cases hst
      · cases hst
    · cases hst
  | aaload =>
    simp only [mStep] at hst
    split at hst
    · split at hst
      · rename_i hh
        split at hst
        · cases hst
        · rename_i h0
          have h00 := not_or.mp h0
          have hr := eq_true_of_ne_false h00.2
          split at hst
          · rename_i hx0
            cases hst
            exact ⟨⟨Nat.le_refl _, Nat.le_refl _, rfl⟩, fun C hk hfin hLn hrf hrl _ _ k => sm_aaload C hh hr h00.1 hx0 (Or.inl ⟨rfl, rfl⟩) hk k⟩
          · rename_i b hx0
            split at hst
            · rename_i hb64
              cases hst
              exact ⟨⟨Nat.le_refl _, Nat.le_refl _, rfl⟩, fun C hk hfin hLn hrf hrl _ _ k => sm_aaload C hh hr h00.1 hx0 (Or.inr ⟨b, hb64, rfl, rfl⟩) hk k⟩
            · cases hst
          · cases hst
      · cases hst
    · cases hst
  | iastore =>
    simp only [mStep] at hst
    split at hst
    · split at hst
      · rename_i hh
        split at hst
        · rename_i hq
          obtain ⟨q1, q2, q3⟩ := hq
          cases hst
          exact ⟨⟨by rw [List.length_set]; exact Nat.le_refl _, by rw [mSlots_set hh (by show (List.set _ _ _).length = _; rw [List.length_set]; rfl)]; exact Nat.le_refl _, rfl⟩, fun C hk hfin hLn hrf hrl _ _ k => sm_iastore C hh q1 q2 q3 hk k⟩
        · cases hst
      · cases hst
    · cases hst
  | bastore =>
    simp only [mStep] at hst
    split at hst
    · split at hst
      · rename_i hh
        split at hst
        · rename_i hq
          obtain ⟨q1, q2, q3⟩ := hq
          cases hst
          exact ⟨⟨by rw [List.length_set]; exact Nat.le_refl _, by rw [mSlots_set hh (by show (List.set _ _ _).length = _; rw [List.length_set]; rfl)]; exact Nat.le_refl _, rfl⟩, fun C hk hfin hLn hrf hrl _ _ k => sm_bastore C hh q1 q2 q3 hk k⟩
        · cases hst
      · rename_i hh
        split at hst
        · rename_i hq
          obtain ⟨q1, q2, q3⟩ := hq
          cases hst
          exact ⟨⟨by rw [List.length_set]; exact Nat.le_refl _, by rw [mSlots_set hh (by show (List.set _ _ _).length = _; rw [List.length_set]; rfl)]; exact Nat.le_refl _, rfl⟩, fun C hk hfin hLn hrf hrl _ _ k => sm_bastoreZ C hh q1 q2 q3 hk k⟩
        · cases hst
      · cases hst
    · cases hst
  | lastore =>
    simp only [mStep] at hst
    split at hst
    · split at hst
      · rename_i hh
        split at hst
        · rename_i hq
          obtain ⟨q1, q2, q3⟩ := hq
          cases hst
          exact ⟨⟨by rw [List.length_set]; exact Nat.le_refl _, by rw [mSlots_set hh (by show (List.set _ _ _).length = _; rw [List.length_set]; rfl)]; exact Nat.le_refl _, rfl⟩, fun C hk hfin hLn hrf hrl _ _ k => sm_lastore C hh q1 q2 q3 hk k⟩
        · cases hst
      · cases hst
    · cases hst
  | aastore =>
    simp only [mStep] at hst
    split at hst
    · split at hst
      · rename_i hh hhv
        split at hst
        · rename_i hq
          obtain ⟨q1, q2, rfl, q4, q5, q6⟩ := hq
          cases hst
          exact ⟨⟨by rw [List.length_set]; exact Nat.le_refl _, by rw [mSlots_set hh (by show (List.set _ _ _).length = _; rw [List.length_set]; rfl)]; exact Nat.le_refl _, rfl⟩, fun C hk hfin hLn hrf hrl _ _ k => sm_aastore C hh hhv q1 q2 q4 q5 q6 hk k⟩
        · cases hst
      · cases hst
    · cases hst
  | arraylength =>
    simp only [mStep] at hst
    split at hst
    · split at hst
      · rename_i hh
        split at hst
        · rename_i hty
          cases hst
          exact ⟨⟨Nat.le_refl _, Nat.le_refl _, rfl⟩, fun C hk hfin hLn hrf hrl _ _ k => sm_alenI C hty hh hk k⟩
        · cases hst
      · rename_i hh
        cases hst
        exact ⟨⟨Nat.le_refl _, Nat.le_refl _, rfl⟩, fun C hk hfin hLn hrf hrl _ _ k => sm_alenJ C hh hk k⟩
      · rename_i hh
        split at hst
        · rename_i hr
          cases hst
          exact ⟨⟨Nat.le_refl _, Nat.le_refl _, rfl⟩, fun C hk hfin hLn hrf hrl _ _ k => sm_alenR C hr hh hk k⟩
        · cases hst
      · cases hst
    · cases hst
  | newarray t =>
    cases t with
    | int =>
      simp only [mStep] at hst
      split at hst
      · split at hst
        · rename_i hq
          cases hst
          refine ⟨⟨by rw [List.length_append]; omega, by rw [mSlots_push]; omega, rfl⟩, fun C hk hfin hLn hrf hrl r1 r2 k => sm_newarray_int C hq.1 hq.2 ?_ ?_ hk k⟩
          · rw [List.length_append] at r1; exact r1
          · rw [mSlots_push] at r2; simpa [mSz] using r2
        · cases hst
      · cases hst
    | byte =>
      simp only [mStep] at hst
      split at hst
      · split at hst
        · rename_i hq
          cases hst
          refine ⟨⟨by rw [List.length_append]; omega, by rw [mSlots_push]; omega, rfl⟩, fun C hk hfin hLn hrf hrl r1 r2 k => sm_newarray_byte C hq.1 hq.2 ?_ ?_ hk k⟩
          · rw [List.length_append] at r1; exact r1
          · rw [mSlots_push] at r2; simpa [mSz] using r2
        · cases hst
      · cases hst
    | boolean =>
      simp only [mStep] at hst
      split at hst
      · split at hst
        · rename_i hq
          cases hst
          refine ⟨⟨by rw [List.length_append]; omega, by rw [mSlots_push]; omega, rfl⟩, fun C hk hfin hLn hrf hrl r1 r2 k => sm_newarray_boolean C hq.1 hq.2 ?_ ?_ hk k⟩
          · rw [List.length_append] at r1; exact r1
          · rw [mSlots_push] at r2; simpa [mSz] using r2
        · cases hst
      · cases hst
    | long =>
      simp only [mStep] at hst
      split at hst
      · split at hst
        · rename_i hq
          cases hst
          refine ⟨⟨by rw [List.length_append]; omega, by rw [mSlots_push]; omega, rfl⟩, fun C hk hfin hLn hrf hrl r1 r2 k => sm_newarray_long C hq.1 hq.2 ?_ ?_ hk k⟩
          · rw [List.length_append] at r1; exact r1
          · rw [mSlots_push] at r2; simpa [mSz] using r2
        · cases hst
      · cases hst
    | _ => exact nomatch (show (none : Option mRes) = _ from hst)
  | anewarray r =>
    simp only [mStep] at hst
    split at hst
    · split at hst
      · rename_i hq
        cases hst
        refine ⟨⟨by rw [List.length_append]; omega, by rw [mSlots_push]; omega, rfl⟩, fun C hk hfin hLn hrf hrl r1 r2 k => sm_anewarray C hq.1 hq.2.1 hq.2.2 ?_ ?_ hk k⟩
        · rw [List.length_append] at r1; exact r1
        · rw [mSlots_push] at r2; simpa [mSz] using r2
      · cases hst
    · cases hst
  | new r =>
    cases hst
    refine ⟨⟨by rw [List.length_append]; omega, by rw [mSlots_push]; omega, rfl⟩, fun C hk hfin hLn hrf hrl r1 r2 k => sm_new C ?_ ?_ hk k⟩
    · rw [List.length_append] at r1; exact r1
    · rw [mSlots_push] at r2; simpa [mSz, mNew] using r2
  | invokedynamic d =>
    match d with
    | 0 =>
      simp only [mStep] at hst
      split at hst
      · split at hst
        · rename_i hq
          cases hst
          exact ⟨⟨Nat.le_refl _, Nat.le_refl _, rfl⟩, fun C hk hfin hLn hrf hrl _ _ k => sm_objInit C hq.1 hLn hq.2 hrf (by omega) hk k⟩
        · cases hst
      · cases hst
    | 1 =>
      simp only [mStep] at hst
      split at hst
      · split at hst
        · rename_i hh
          split at hst
          · rename_i hq
            cases hst
            refine ⟨⟨by rw [List.length_append]; omega, by rw [mSlots_push]; omega, rfl⟩, fun C hk hfin hLn hrf hrl r1 r2 k => sm_clone C hq.1 hh hLn hq.2 hrf (by omega) ?_ ?_ hk k⟩
            · rw [List.length_append] at r1; exact r1
            · rw [mSlots_push] at r2; exact r2
          · cases hst
        · cases hst
      · cases hst
    | 2 =>
      simp only [mStep] at hst
      split at hst
      · split at hst
        · rename_i hh0 hh
          split at hst
          · rename_i hq
            obtain ⟨q1, q2, q3, q4, rfl, rfl, q7, q8, q9⟩ := hq
            cases hst
            exact ⟨⟨by rw [List.length_set]; exact Nat.le_refl _, by rw [mSlots_set hh (mCopySz q7 q8)]; exact Nat.le_refl _, rfl⟩, fun C hk hfin hLn hrf hrl _ _ k => sm_copy C q1 q2 hh0 hh hLn q4 q7 q8 q9 hrf (Nat.le_trans (by decide) hrl) hk k⟩
          · cases hst
        · cases hst
      · cases hst
    | 3 =>
      simp only [mStep] at hst
      split at hst
      · split at hst
        · rename_i hq
          cases hst
          exact ⟨⟨Nat.le_refl _, Nat.le_refl _, rfl⟩, fun C hk hfin hLn hrf hrl r1 r2 k => sm_max C hLn hq hrf (by omega) r1 r2 hk k⟩
        · cases hst
      · cases hst
    | 4 =>
      simp only [mStep] at hst
      split at hst
      · split at hst
        · rename_i hq
          cases hst
          exact ⟨⟨Nat.le_refl _, Nat.le_refl _, rfl⟩, fun C hk hfin hLn hrf hrl r1 r2 k => sm_min C hLn hq hrf (by omega) r1 r2 hk k⟩
        · cases hst
      · cases hst
    | d + 5 => exact nomatch (show (none : Option mRes) = _ from hst)
  | checkcast r =>
    simp only [mStep] at hst
    split at hst
    · split at hst
      · rename_i hh
        split at hst
        · rename_i ha
          cases hst
          exact ⟨⟨Nat.le_refl _, Nat.le_refl _, rfl⟩, fun C hk hfin hLn hrf hrl _ _ k => sm_checkcast C ha hh hk k⟩
        · cases hst
      · cases hst
    · cases hst
  | invokevirtual q =>
    exfalso
    simp only [mStep] at hst
    (repeat' split at hst) <;> cases hst
  | invokespecial q =>
    exfalso
    simp only [mStep] at hst
    (repeat' split at hst) <;> cases hst
  | invokestatic q =>
    exfalso
    simp only [mStep] at hst
    (repeat' split at hst) <;> cases hst
  | ireturn =>
    exfalso
    simp only [mStep] at hst
    (repeat' split at hst) <;> cases hst
  | lreturn =>
    exfalso
    simp only [mStep] at hst
    (repeat' split at hst) <;> cases hst
  | areturn =>
    exfalso
    simp only [mStep] at hst
    (repeat' split at hst) <;> cases hst
  | return_ =>
    exfalso
    simp only [mStep] at hst
    (repeat' split at hst) <;> cases hst
  | _ => exact nomatch (show (none : Option mRes) = _ from hst)
