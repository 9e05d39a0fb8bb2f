/-! the words of the tables for what the code names -/
def mWord (o k : Nat) (i : Instr) : Cond := match i with
  | .iconst n => .constant (mOw o) k (Int32.ofInt n)
  | .jsr_w n => .constantLong (mOw o) k (Int64.ofInt n)
  | .jsr a => .stringRef (mOw o) k (mTx a.toNat)
  | .getfield q => .fieldLink (mOw o) k (mOw (q / 128)) (mT (q / 128) (q % 128)).2.1 (mT (q / 128) (q % 128)).2.2.1
  | .new c => .classLink (mOw o) k (mOw c)
  | .checkcast _ => .classLink (mOw o) k "[I"
  | .invokedynamic 0 => .methodLink (mOw o) k objectInit
  | .invokedynamic 1 => .methodLink (mOw o) k ⟨"[I", "clone", "()Ljava/lang/Object;"⟩
  | .invokedynamic 2 => .methodLink (mOw o) k arraycopyName
  | .invokedynamic 3 => .methodLink (mOw o) k Lib.Math.max.name
  | .invokedynamic 4 => .methodLink (mOw o) k Lib.Math.min.name
  | .invokevirtual q => .methodLink (mOw o) k (mNm (q / 512))
  | .invokestatic q => .methodLink (mOw o) k (mNm (q / 512))
  | .invokespecial q => .methodLink (mOw o) k (mNm (q / 512))
  | _ => .tt
def mWordN (o k : Nat) (i : Instr) : Cond := match i with
  | .invokespecial q => .methodLinkNest (mOw o) k (mNm (q / 512)) "TruthBridge"
  | _ => .tt
def mPok (q : Nat × Nat × Instr × Nat) : Bool := decide (lw_tbl[q.2.2.2]? = some (mWord q.1 q.2.1 q.2.2.1)) || decide (lw_tbl[q.2.2.2]? = some (mWordN q.1 q.2.1 q.2.2.1))
theorem mPok_0 : mPool_0.all mPok = true := by decide +kernel
theorem mPok_1 : mPool_1.all mPok = true := by decide +kernel
theorem mPok_2 : mPool_2.all mPok = true := by decide +kernel
theorem mPok_3 : mPool_3.all mPok = true := by decide +kernel
theorem mPok_4 : mPool_4.all mPok = true := by decide +kernel
theorem mPok_5 : mPool_5.all mPok = true := by decide +kernel
theorem mPok_6 : mPool_6.all mPok = true := by decide +kernel
theorem mPok_7 : mPool_7.all mPok = true := by decide +kernel
theorem mPok_8 : mPool_8.all mPok = true := by decide +kernel
theorem mPok_9 : mPool_9.all mPok = true := by decide +kernel
theorem mPok_10 : mPool_10.all mPok = true := by decide +kernel
theorem mPok_11 : mPool_11.all mPok = true := by decide +kernel
theorem mPok_all : mPools.all (fun l => l.all mPok) = true := by
  simp only [mPools, List.all_cons, List.all_nil, mPok_0, mPok_1, mPok_2, mPok_3, mPok_4, mPok_5, mPok_6, mPok_7, mPok_8, mPok_9, mPok_10, mPok_11, Bool.and_true]
theorem mPl_ok {o k : Nat} {i : Instr} (h : mPl o k = some i) : mWord o k i ∈ lw_tbl ∨ mWordN o k i ∈ lw_tbl := by
  unfold mPl at h
  split at h
  · rename_i q hq
    cases h
    have h1 := List.find?_some hq
    simp only [Bool.and_eq_true, beq_iff_eq] at h1
    have h2 := List.mem_of_find?_eq_some hq
    unfold mPool at h2
    obtain ⟨l, h3, h4⟩ := List.mem_flatten.mp h2
    have h5 := List.all_eq_true.mp (List.all_eq_true.mp mPok_all l h3) q h4
    simp only [mPok, Bool.or_eq_true, decide_eq_true_eq] at h5
    rw [← h1.1, ← h1.2]
    rcases h5 with h5 | h5
    · exact Or.inl (List.mem_of_getElem? h5)
    · exact Or.inr (List.mem_of_getElem? h5)
  · cases h
theorem tt_notin : Cond.tt ∉ lw_tbl := by decide +kernel
def mSword (o k : Nat) (i : Instr) : Cond := match i with
  | .jsr 1 => .fieldLink (mOw o) k "TruthBridge$Worlds" "LOW_FACTS" "[J"
  | .iconst 1 => .fieldLink (mOw o) k "java/lang/String" "COMPACT_STRINGS" "Z"
  | .jsr 63 => .fieldLink (mOw o) k "jdk/internal/util/Preconditions" "SIOOBE_FORMATTER" "Ljava/util/function/BiFunction;"
  | _ => .tt
theorem mStp_ok : ∀ q ∈ mStp, lw_tbl[q.2.2.2]? = some (mSword q.1 q.2.1 q.2.2.1) := by decide +kernel
theorem mPs_ok {o k : Nat} {i : Instr} (h : mPs o k = some i) : mSword o k i ∈ lw_tbl := by
  unfold mPs at h
  split at h
  · rename_i q hq
    cases h
    have h1 := List.find?_some hq
    simp only [Bool.and_eq_true, beq_iff_eq] at h1
    have h2 := List.mem_of_find?_eq_some hq
    rw [← h1.1, ← h1.2]
    exact List.mem_of_getElem? (mStp_ok q h2)
  · cases h
