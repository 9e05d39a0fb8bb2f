theorem mLookup {α : Type} : ∀ {l : List (Nat × α)} {k : Nat} {b : α}, l.lookup k = some b → (k, b) ∈ l
  | [], _, _, h => by cases h
  | (a, x) :: r, k, b, h => by
    unfold List.lookup at h
    split at h
    · rename_i hk
      cases h
      have := eq_of_beq hk
      subst this
      exact List.mem_cons_self
    · exact List.mem_cons_of_mem _ (mLookup h)
def mOk (y : Nat) : Prop := (∀ c, mCodes[y]? = some c → c.all (mChk (mOn y) (mBy y)) = true) ∧ mFin y = true
theorem mOk_of {y : Nat} (hy : y < 328) : mOk y := ⟨(mLfs hy).2.2, List.all_eq_true.mp mFin_all y (List.mem_range.mpr hy)⟩
theorem mFetch_mem {y pc nx : Nat} {i : Instr} (hf : mFetch y pc = some (i, nx)) : ∃ c, mCodes[y]? = some c ∧ (pc, i, nx) ∈ c := by
  unfold mFetch at hf
  split at hf
  · rename_i c hc
    exact ⟨c, hc, mLookup hf⟩
  · cases hf
theorem mChk_at {y pc nx : Nat} {i : Instr} (hok : mOk y) (hf : mFetch y pc = some (i, nx)) : mChk (mOn y) (mBy y) (pc, i, nx) = true := by
  obtain ⟨c, hc, hm⟩ := mFetch_mem hf
  exact List.all_eq_true.mp (hok.1 c hc) _ hm
theorem mFin_at {y pc nx : Nat} {i : Instr} {meth : Method} (hok : mOk y) (hini : mKi y = 2 → meth.name = "<init>") (hf : mFetch y pc = some (i, nx)) : ∀ q, i = .putfield q → (mT (q / 128) (q % 128)).2.2.2 = false ∨ ((mT (q / 128) (q % 128)).2.2.2 = true ∧ meth.name = "<init>" ∧ mOn y = q / 128) := by
  intro q hi
  subst hi
  obtain ⟨c, hc, hm⟩ := mFetch_mem hf
  have h1 := hok.2
  unfold mFin at h1
  rw [List.getD_eq_getElem?_getD, hc] at h1
  have h2 := List.all_eq_true.mp h1 _ hm
  simp only [Bool.or_eq_true, Bool.not_eq_true', Bool.and_eq_true, decide_eq_true_eq] at h2
  rcases h2 with h2 | h2
  · exact Or.inl h2
  · cases hb : (mT (q / 128) (q % 128)).2.2.2 with
    | false => exact Or.inl rfl
    | true => exact Or.inr ⟨rfl, hini h2.1, h2.2⟩
/-- THE ABSTRACT MACHINE IS THE REAL ONE: what it answers, the real one answers; what it makes of the cells, the real one makes -/
theorem mSound (l : Launch) : ∀ (n d y pc : Nat) (L : mLoc) (st : List Value) (h : mHeap) (r : Option Value) (h1 : mHeap), mExec d n y pc L st h = some (r, h1) →
    (h.length ≤ h1.length ∧ mSlots h ≤ mSlots h1) ∧ (∀ {G : mG} {S0 : mHeap} {n0 z0 : Nat} {p : Program} {e : Env} {R : Room} {s : State} {m : MethodId} {args : Array Value} {below : List Frame} {meth : Method} {c : Code} {Q : State → Prop}, mOk y → mCtx G S0 (mOn y) (mMax y) p s m args c (mBy y) → (mKi y = 2 → meth.name = "<init>") → L.length = mMax y → d + 1 ≤ R.frames → 40 * (d + 1) ≤ R.locals → h1.length - n0 ≤ R.cells → mSlots h1 - z0 ≤ R.slots → mRetOk G S0 n0 z0 p l e R s m args below meth c Q (mOn y) (mBy y) (mRet y) r h1 → mW G S0 n0 z0 p l e R s m args below meth c Q pc L st h) := by
  intro n
  induction n with
  | zero =>
    intro d y pc L st h r h1 he
    cases he
  | succ n ih =>
    intro d y pc L st h r h1 he
    unfold mExec at he
    split at he
    · cases he
    · rename_i i nx hf
      split at he
      · cases he
      · rename_i pc1 L1 st1 h2 hst
        obtain ⟨g1, g2⟩ := ih d y pc1 L1 st1 h2 r h1 he
        obtain ⟨s1, s2⟩ := mSim (rt := mRet y) hst
        refine ⟨⟨Nat.le_trans s1.1 g1.1, Nat.le_trans s1.2.1 g1.2⟩, ?_⟩
        intro G S0 n0 z0 p e R s m args below meth c Q hok C hini hLn hrf hrl hrc hrs hret
        exact s2 C (mChk_at hok hf) (mFin_at hok hini hf) hLn (by omega) (by omega) (by omega) (by omega) (g2 hok C hini (s1.2.2.trans hLn) hrf hrl hrc hrs hret)
      · rename_i v hst
        cases he
        refine ⟨⟨Nat.le_refl _, Nat.le_refl _⟩, ?_⟩
        intro G S0 n0 z0 p e R s m args below meth c Q hok C hini hLn hrf hrl hrc hrs hret
        exact hret pc nx i L st (mChk_at hok hf) hst
      · rename_i q as rest hst
        split at he
        · cases he
        · rename_i d1
          split at he
          · rename_i hlen
            split at he
            · cases he
            · rename_i v h2 hcall
              obtain ⟨c1, c2⟩ := ih d1 (q / 512) 0 (mPad (mMax (q / 512)) (mEnt as)) [] h v h2 hcall
              obtain ⟨g1, g2⟩ := ih (d1 + 1) y nx L (v.toList ++ rest) h2 r h1 he
              refine ⟨⟨Nat.le_trans c1.1 g1.1, Nat.le_trans c1.2 g1.2⟩, ?_⟩
              intro G S0 n0 z0 p e R s m args below meth c Q hok C hini hLn hrf hrl hrc hrs hret
              have hk := mChk_at hok hf
              have hG := C.2.2.2.2.2.1
              have kk := g2 hok C hini hLn hrf hrl hrc hrs hret
              have hmet : q / 512 < 328 → mMet l G S0 d1 (q / 512) as h v h2 := fun hy => mMet_of hy hG hlen (fun {p e R s m args below meth c} C2 hini2 hf2 hl2 hc2 hs2 hr2 hk2 => c2 (mOk_of hy) C2 hini2 (mPad_len hlen) hf2 hl2 hc2 hs2 (mRet_met C2 hr2 hk2))
              have hpl : ∀ {i' : Instr} {idx : Nat}, mPl (mOn y) idx = some i' → True := fun _ => trivial
              cases i with
              | invokevirtual f =>
                simp only [mSt, mStep] at hst
                split at hst
                · rename_i a hrec
                  split at hst
                  · rename_i hcell
                    split at hst
                    · rename_i hq
                      cases hst
                      obtain ⟨rfl, q2, q3⟩ := hq
                      refine mCallV C hk q2 hrec hcell q3 hLn (hmet ?_) c1 (by omega) (by omega) (by omega) (by omega) kk
                      obtain ⟨raw, len, -, -, h3⟩ := mChk_of hk
                      simp only [mRel] at h3
                      split at h3
                      · simp only [decide_eq_true_eq] at h3
                        have hfk := mPl_fk h3.1
                        simp only [mPfk, decide_eq_true_eq] at hfk
                        exact hfk.1
                      · cases h3
                    · cases hst
                  · cases hst
                · cases hst
              | invokespecial f =>
                simp only [mSt, mStep] at hst
                split at hst
                · rename_i a hrec
                  split at hst
                  · rename_i hq
                    cases hst
                    obtain ⟨q1, q2, q3⟩ := hq
                    refine mCallI C hk q2 hrec q1 q3 hLn (hmet ?_) c1 (by omega) (by omega) (by omega) (by omega) kk
                    obtain ⟨raw, len, -, -, h3⟩ := mChk_of hk
                    simp only [mRel] at h3
                    split at h3
                    · simp only [decide_eq_true_eq] at h3
                      have hfk := mPl_fk h3.1
                      simp only [mPfk, decide_eq_true_eq] at hfk
                      exact hfk.1
                    · cases h3
                  · cases hst
                · cases hst
              | invokestatic f =>
                simp only [mSt, mStep] at hst
                split at hst
                · rename_i hq
                  cases hst
                  refine mCallT C hk hq.1 hq.2 hLn (hmet ?_) c1 (by omega) (by omega) (by omega) (by omega) kk
                  obtain ⟨raw, len, -, -, h3⟩ := mChk_of hk
                  simp only [mRel] at h3
                  split at h3
                  · simp only [decide_eq_true_eq] at h3
                    have hfk := mPl_fk h3.1
                    simp only [mPfk, decide_eq_true_eq] at hfk
                    exact hfk.1
                  · cases h3
                · cases hst
              | newarray t => exact absurd hst (by cases t <;> (simp only [mSt, mStep]; (repeat' split) <;> simp))
              | invokedynamic d => exact absurd hst (by match d with | 0 => (simp only [mSt, mStep]; (repeat' split) <;> simp) | 1 => (simp only [mSt, mStep]; (repeat' split) <;> simp) | 2 => (simp only [mSt, mStep]; (repeat' split) <;> simp) | 3 => (simp only [mSt, mStep]; (repeat' split) <;> simp) | 4 => (simp only [mSt, mStep]; (repeat' split) <;> simp) | d + 5 => exact fun q => nomatch (show (none : Option mRes) = _ from q))
              | _ => exact absurd hst (by first | exact (fun q => nomatch (show (none : Option mRes) = _ from q)) | (simp only [mSt, mStep]; (repeat' split) <;> simp))
          · cases he
