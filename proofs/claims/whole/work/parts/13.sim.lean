theorem mChk_of {o : Nat} {cc : ByteArray} {pc nx : Nat} {i : Instr} (hk : mChk o cc (pc, i, nx) = true) : ∃ raw len, decode cc pc = .ok (raw, len) ∧ nx = pc + len ∧ mRel o pc len raw i = true := by
  unfold mChk at hk
  dsimp only at hk
  split at hk
  · rename_i raw len hd
    simp only [Bool.and_eq_true, decide_eq_true_eq] at hk
    exact ⟨raw, len, hd, hk.1, hk.2⟩
  · cases hk
section Sim
variable {G : mG} {S0 : mHeap} {n0 z0 : Nat} {p : Program} {l : Launch} {e : Env} {R : Room} {s : State} {m : MethodId} {args : Array Value} {below : List Frame} {meth : Method} {c : Code} {Q : State → Prop} {cc : ByteArray} {o pc nx : Nat} {L : mLoc} {st : List Value} {h : mHeap}
theorem ck_aconst_null (hk : mChk o cc (pc, .aconst_null, nx) = true) : decode cc pc = .ok (.aconst_null, 1) ∧ nx = pc + 1 := by
  obtain ⟨raw, len, h1, h2, h3⟩ := mChk_of hk
  simp only [mRel, decide_eq_true_eq] at h3
  obtain ⟨rfl, rfl⟩ := h3
  exact ⟨h1, h2⟩
theorem ck_iadd (hk : mChk o cc (pc, .iadd, nx) = true) : decode cc pc = .ok (.iadd, 1) ∧ nx = pc + 1 := by
  obtain ⟨raw, len, h1, h2, h3⟩ := mChk_of hk
  simp only [mRel, decide_eq_true_eq] at h3
  obtain ⟨rfl, rfl⟩ := h3
  exact ⟨h1, h2⟩
theorem ck_isub (hk : mChk o cc (pc, .isub, nx) = true) : decode cc pc = .ok (.isub, 1) ∧ nx = pc + 1 := by
  obtain ⟨raw, len, h1, h2, h3⟩ := mChk_of hk
  simp only [mRel, decide_eq_true_eq] at h3
  obtain ⟨rfl, rfl⟩ := h3
  exact ⟨h1, h2⟩
theorem ck_imul (hk : mChk o cc (pc, .imul, nx) = true) : decode cc pc = .ok (.imul, 1) ∧ nx = pc + 1 := by
  obtain ⟨raw, len, h1, h2, h3⟩ := mChk_of hk
  simp only [mRel, decide_eq_true_eq] at h3
  obtain ⟨rfl, rfl⟩ := h3
  exact ⟨h1, h2⟩
theorem ck_iand (hk : mChk o cc (pc, .iand, nx) = true) : decode cc pc = .ok (.iand, 1) ∧ nx = pc + 1 := by
  obtain ⟨raw, len, h1, h2, h3⟩ := mChk_of hk
  simp only [mRel, decide_eq_true_eq] at h3
  obtain ⟨rfl, rfl⟩ := h3
  exact ⟨h1, h2⟩
theorem ck_ior (hk : mChk o cc (pc, .ior, nx) = true) : decode cc pc = .ok (.ior, 1) ∧ nx = pc + 1 := by
  obtain ⟨raw, len, h1, h2, h3⟩ := mChk_of hk
  simp only [mRel, decide_eq_true_eq] at h3
  obtain ⟨rfl, rfl⟩ := h3
  exact ⟨h1, h2⟩
theorem ck_ixor (hk : mChk o cc (pc, .ixor, nx) = true) : decode cc pc = .ok (.ixor, 1) ∧ nx = pc + 1 := by
  obtain ⟨raw, len, h1, h2, h3⟩ := mChk_of hk
  simp only [mRel, decide_eq_true_eq] at h3
  obtain ⟨rfl, rfl⟩ := h3
  exact ⟨h1, h2⟩
theorem ck_idiv (hk : mChk o cc (pc, .idiv, nx) = true) : decode cc pc = .ok (.idiv, 1) ∧ nx = pc + 1 := by
  obtain ⟨raw, len, h1, h2, h3⟩ := mChk_of hk
  simp only [mRel, decide_eq_true_eq] at h3
  obtain ⟨rfl, rfl⟩ := h3
  exact ⟨h1, h2⟩
theorem ck_irem (hk : mChk o cc (pc, .irem, nx) = true) : decode cc pc = .ok (.irem, 1) ∧ nx = pc + 1 := by
  obtain ⟨raw, len, h1, h2, h3⟩ := mChk_of hk
  simp only [mRel, decide_eq_true_eq] at h3
  obtain ⟨rfl, rfl⟩ := h3
  exact ⟨h1, h2⟩
theorem ck_ineg (hk : mChk o cc (pc, .ineg, nx) = true) : decode cc pc = .ok (.ineg, 1) ∧ nx = pc + 1 := by
  obtain ⟨raw, len, h1, h2, h3⟩ := mChk_of hk
  simp only [mRel, decide_eq_true_eq] at h3
  obtain ⟨rfl, rfl⟩ := h3
  exact ⟨h1, h2⟩
theorem ck_ishl (hk : mChk o cc (pc, .ishl, nx) = true) : decode cc pc = .ok (.ishl, 1) ∧ nx = pc + 1 := by
  obtain ⟨raw, len, h1, h2, h3⟩ := mChk_of hk
  simp only [mRel, decide_eq_true_eq] at h3
  obtain ⟨rfl, rfl⟩ := h3
  exact ⟨h1, h2⟩
theorem ck_ishr (hk : mChk o cc (pc, .ishr, nx) = true) : decode cc pc = .ok (.ishr, 1) ∧ nx = pc + 1 := by
  obtain ⟨raw, len, h1, h2, h3⟩ := mChk_of hk
  simp only [mRel, decide_eq_true_eq] at h3
  obtain ⟨rfl, rfl⟩ := h3
  exact ⟨h1, h2⟩
theorem ck_iushr (hk : mChk o cc (pc, .iushr, nx) = true) : decode cc pc = .ok (.iushr, 1) ∧ nx = pc + 1 := by
  obtain ⟨raw, len, h1, h2, h3⟩ := mChk_of hk
  simp only [mRel, decide_eq_true_eq] at h3
  obtain ⟨rfl, rfl⟩ := h3
  exact ⟨h1, h2⟩
theorem ck_ladd (hk : mChk o cc (pc, .ladd, nx) = true) : decode cc pc = .ok (.ladd, 1) ∧ nx = pc + 1 := by
  obtain ⟨raw, len, h1, h2, h3⟩ := mChk_of hk
  simp only [mRel, decide_eq_true_eq] at h3
  obtain ⟨rfl, rfl⟩ := h3
  exact ⟨h1, h2⟩
theorem ck_lsub (hk : mChk o cc (pc, .lsub, nx) = true) : decode cc pc = .ok (.lsub, 1) ∧ nx = pc + 1 := by
  obtain ⟨raw, len, h1, h2, h3⟩ := mChk_of hk
  simp only [mRel, decide_eq_true_eq] at h3
  obtain ⟨rfl, rfl⟩ := h3
  exact ⟨h1, h2⟩
theorem ck_lmul (hk : mChk o cc (pc, .lmul, nx) = true) : decode cc pc = .ok (.lmul, 1) ∧ nx = pc + 1 := by
  obtain ⟨raw, len, h1, h2, h3⟩ := mChk_of hk
  simp only [mRel, decide_eq_true_eq] at h3
  obtain ⟨rfl, rfl⟩ := h3
  exact ⟨h1, h2⟩
theorem ck_land (hk : mChk o cc (pc, .land, nx) = true) : decode cc pc = .ok (.land, 1) ∧ nx = pc + 1 := by
  obtain ⟨raw, len, h1, h2, h3⟩ := mChk_of hk
  simp only [mRel, decide_eq_true_eq] at h3
  obtain ⟨rfl, rfl⟩ := h3
  exact ⟨h1, h2⟩
theorem ck_lor (hk : mChk o cc (pc, .lor, nx) = true) : decode cc pc = .ok (.lor, 1) ∧ nx = pc + 1 := by
  obtain ⟨raw, len, h1, h2, h3⟩ := mChk_of hk
  simp only [mRel, decide_eq_true_eq] at h3
  obtain ⟨rfl, rfl⟩ := h3
  exact ⟨h1, h2⟩
theorem ck_lxor (hk : mChk o cc (pc, .lxor, nx) = true) : decode cc pc = .ok (.lxor, 1) ∧ nx = pc + 1 := by
  obtain ⟨raw, len, h1, h2, h3⟩ := mChk_of hk
  simp only [mRel, decide_eq_true_eq] at h3
  obtain ⟨rfl, rfl⟩ := h3
  exact ⟨h1, h2⟩
theorem ck_ldiv (hk : mChk o cc (pc, .ldiv, nx) = true) : decode cc pc = .ok (.ldiv, 1) ∧ nx = pc + 1 := by
  obtain ⟨raw, len, h1, h2, h3⟩ := mChk_of hk
  simp only [mRel, decide_eq_true_eq] at h3
  obtain ⟨rfl, rfl⟩ := h3
  exact ⟨h1, h2⟩
theorem ck_lrem (hk : mChk o cc (pc, .lrem, nx) = true) : decode cc pc = .ok (.lrem, 1) ∧ nx = pc + 1 := by
  obtain ⟨raw, len, h1, h2, h3⟩ := mChk_of hk
  simp only [mRel, decide_eq_true_eq] at h3
  obtain ⟨rfl, rfl⟩ := h3
  exact ⟨h1, h2⟩
theorem ck_lneg (hk : mChk o cc (pc, .lneg, nx) = true) : decode cc pc = .ok (.lneg, 1) ∧ nx = pc + 1 := by
  obtain ⟨raw, len, h1, h2, h3⟩ := mChk_of hk
  simp only [mRel, decide_eq_true_eq] at h3
  obtain ⟨rfl, rfl⟩ := h3
  exact ⟨h1, h2⟩
theorem ck_lshl (hk : mChk o cc (pc, .lshl, nx) = true) : decode cc pc = .ok (.lshl, 1) ∧ nx = pc + 1 := by
  obtain ⟨raw, len, h1, h2, h3⟩ := mChk_of hk
  simp only [mRel, decide_eq_true_eq] at h3
  obtain ⟨rfl, rfl⟩ := h3
  exact ⟨h1, h2⟩
theorem ck_lushr (hk : mChk o cc (pc, .lushr, nx) = true) : decode cc pc = .ok (.lushr, 1) ∧ nx = pc + 1 := by
  obtain ⟨raw, len, h1, h2, h3⟩ := mChk_of hk
  simp only [mRel, decide_eq_true_eq] at h3
  obtain ⟨rfl, rfl⟩ := h3
  exact ⟨h1, h2⟩
theorem ck_lcmp (hk : mChk o cc (pc, .lcmp, nx) = true) : decode cc pc = .ok (.lcmp, 1) ∧ nx = pc + 1 := by
  obtain ⟨raw, len, h1, h2, h3⟩ := mChk_of hk
  simp only [mRel, decide_eq_true_eq] at h3
  obtain ⟨rfl, rfl⟩ := h3
  exact ⟨h1, h2⟩
theorem ck_i2l (hk : mChk o cc (pc, .i2l, nx) = true) : decode cc pc = .ok (.i2l, 1) ∧ nx = pc + 1 := by
  obtain ⟨raw, len, h1, h2, h3⟩ := mChk_of hk
  simp only [mRel, decide_eq_true_eq] at h3
  obtain ⟨rfl, rfl⟩ := h3
  exact ⟨h1, h2⟩
theorem ck_l2i (hk : mChk o cc (pc, .l2i, nx) = true) : decode cc pc = .ok (.l2i, 1) ∧ nx = pc + 1 := by
  obtain ⟨raw, len, h1, h2, h3⟩ := mChk_of hk
  simp only [mRel, decide_eq_true_eq] at h3
  obtain ⟨rfl, rfl⟩ := h3
  exact ⟨h1, h2⟩
theorem ck_i2b (hk : mChk o cc (pc, .i2b, nx) = true) : decode cc pc = .ok (.i2b, 1) ∧ nx = pc + 1 := by
  obtain ⟨raw, len, h1, h2, h3⟩ := mChk_of hk
  simp only [mRel, decide_eq_true_eq] at h3
  obtain ⟨rfl, rfl⟩ := h3
  exact ⟨h1, h2⟩
theorem ck_i2c (hk : mChk o cc (pc, .i2c, nx) = true) : decode cc pc = .ok (.i2c, 1) ∧ nx = pc + 1 := by
  obtain ⟨raw, len, h1, h2, h3⟩ := mChk_of hk
  simp only [mRel, decide_eq_true_eq] at h3
  obtain ⟨rfl, rfl⟩ := h3
  exact ⟨h1, h2⟩
theorem ck_dup (hk : mChk o cc (pc, .dup, nx) = true) : decode cc pc = .ok (.dup, 1) ∧ nx = pc + 1 := by
  obtain ⟨raw, len, h1, h2, h3⟩ := mChk_of hk
  simp only [mRel, decide_eq_true_eq] at h3
  obtain ⟨rfl, rfl⟩ := h3
  exact ⟨h1, h2⟩
theorem ck_dup2 (hk : mChk o cc (pc, .dup2, nx) = true) : decode cc pc = .ok (.dup2, 1) ∧ nx = pc + 1 := by
  obtain ⟨raw, len, h1, h2, h3⟩ := mChk_of hk
  simp only [mRel, decide_eq_true_eq] at h3
  obtain ⟨rfl, rfl⟩ := h3
  exact ⟨h1, h2⟩
theorem ck_pop (hk : mChk o cc (pc, .pop, nx) = true) : decode cc pc = .ok (.pop, 1) ∧ nx = pc + 1 := by
  obtain ⟨raw, len, h1, h2, h3⟩ := mChk_of hk
  simp only [mRel, decide_eq_true_eq] at h3
  obtain ⟨rfl, rfl⟩ := h3
  exact ⟨h1, h2⟩
theorem ck_iaload (hk : mChk o cc (pc, .iaload, nx) = true) : decode cc pc = .ok (.iaload, 1) ∧ nx = pc + 1 := by
  obtain ⟨raw, len, h1, h2, h3⟩ := mChk_of hk
  simp only [mRel, decide_eq_true_eq] at h3
  obtain ⟨rfl, rfl⟩ := h3
  exact ⟨h1, h2⟩
theorem ck_baload (hk : mChk o cc (pc, .baload, nx) = true) : decode cc pc = .ok (.baload, 1) ∧ nx = pc + 1 := by
  obtain ⟨raw, len, h1, h2, h3⟩ := mChk_of hk
  simp only [mRel, decide_eq_true_eq] at h3
  obtain ⟨rfl, rfl⟩ := h3
  exact ⟨h1, h2⟩
theorem ck_laload (hk : mChk o cc (pc, .laload, nx) = true) : decode cc pc = .ok (.laload, 1) ∧ nx = pc + 1 := by
  obtain ⟨raw, len, h1, h2, h3⟩ := mChk_of hk
  simp only [mRel, decide_eq_true_eq] at h3
  obtain ⟨rfl, rfl⟩ := h3
  exact ⟨h1, h2⟩
theorem ck_aaload (hk : mChk o cc (pc, .aaload, nx) = true) : decode cc pc = .ok (.aaload, 1) ∧ nx = pc + 1 := by
  obtain ⟨raw, len, h1, h2, h3⟩ := mChk_of hk
  simp only [mRel, decide_eq_true_eq] at h3
  obtain ⟨rfl, rfl⟩ := h3
  exact ⟨h1, h2⟩
theorem ck_iastore (hk : mChk o cc (pc, .iastore, nx) = true) : decode cc pc = .ok (.iastore, 1) ∧ nx = pc + 1 := by
  obtain ⟨raw, len, h1, h2, h3⟩ := mChk_of hk
  simp only [mRel, decide_eq_true_eq] at h3
  obtain ⟨rfl, rfl⟩ := h3
  exact ⟨h1, h2⟩
theorem ck_bastore (hk : mChk o cc (pc, .bastore, nx) = true) : decode cc pc = .ok (.bastore, 1) ∧ nx = pc + 1 := by
  obtain ⟨raw, len, h1, h2, h3⟩ := mChk_of hk
  simp only [mRel, decide_eq_true_eq] at h3
  obtain ⟨rfl, rfl⟩ := h3
  exact ⟨h1, h2⟩
theorem ck_lastore (hk : mChk o cc (pc, .lastore, nx) = true) : decode cc pc = .ok (.lastore, 1) ∧ nx = pc + 1 := by
  obtain ⟨raw, len, h1, h2, h3⟩ := mChk_of hk
  simp only [mRel, decide_eq_true_eq] at h3
  obtain ⟨rfl, rfl⟩ := h3
  exact ⟨h1, h2⟩
theorem ck_aastore (hk : mChk o cc (pc, .aastore, nx) = true) : decode cc pc = .ok (.aastore, 1) ∧ nx = pc + 1 := by
  obtain ⟨raw, len, h1, h2, h3⟩ := mChk_of hk
  simp only [mRel, decide_eq_true_eq] at h3
  obtain ⟨rfl, rfl⟩ := h3
  exact ⟨h1, h2⟩
theorem ck_arraylength (hk : mChk o cc (pc, .arraylength, nx) = true) : decode cc pc = .ok (.arraylength, 1) ∧ nx = pc + 1 := by
  obtain ⟨raw, len, h1, h2, h3⟩ := mChk_of hk
  simp only [mRel, decide_eq_true_eq] at h3
  obtain ⟨rfl, rfl⟩ := h3
  exact ⟨h1, h2⟩
theorem ck_ireturn (hk : mChk o cc (pc, .ireturn, nx) = true) : decode cc pc = .ok (.ireturn, 1) ∧ nx = pc + 1 := by
  obtain ⟨raw, len, h1, h2, h3⟩ := mChk_of hk
  simp only [mRel, decide_eq_true_eq] at h3
  obtain ⟨rfl, rfl⟩ := h3
  exact ⟨h1, h2⟩
theorem ck_lreturn (hk : mChk o cc (pc, .lreturn, nx) = true) : decode cc pc = .ok (.lreturn, 1) ∧ nx = pc + 1 := by
  obtain ⟨raw, len, h1, h2, h3⟩ := mChk_of hk
  simp only [mRel, decide_eq_true_eq] at h3
  obtain ⟨rfl, rfl⟩ := h3
  exact ⟨h1, h2⟩
theorem ck_areturn (hk : mChk o cc (pc, .areturn, nx) = true) : decode cc pc = .ok (.areturn, 1) ∧ nx = pc + 1 := by
  obtain ⟨raw, len, h1, h2, h3⟩ := mChk_of hk
  simp only [mRel, decide_eq_true_eq] at h3
  obtain ⟨rfl, rfl⟩ := h3
  exact ⟨h1, h2⟩
theorem ck_return_ (hk : mChk o cc (pc, .return_, nx) = true) : decode cc pc = .ok (.return_, 1) ∧ nx = pc + 1 := by
  obtain ⟨raw, len, h1, h2, h3⟩ := mChk_of hk
  simp only [mRel, decide_eq_true_eq] at h3
  obtain ⟨rfl, rfl⟩ := h3
  exact ⟨h1, h2⟩
theorem sm_aconst_null (hx : p.tables.exec = Jvm.exec) (hb : c.code = cc)  (hk : mChk o cc (pc, .aconst_null, nx) = true) (k : mW G S0 n0 z0 p l e R s m args below meth c Q (nx) L (.null :: st) h) : mW G S0 n0 z0 p l e R s m args below meth c Q (pc) L (st) h := by
  obtain ⟨hd, rfl⟩ := ck_aconst_null hk
  exact fun a1 a2 H locs LS hH hS hL => lv_null hx hb hd (k a1 a2 H locs LS hH hS hL)
theorem sm_iadd (hx : p.tables.exec = Jvm.exec) (hb : c.code = cc) {x y : Int32} (hk : mChk o cc (pc, .iadd, nx) = true) (k : mW G S0 n0 z0 p l e R s m args below meth c Q (nx) L (.int (x + y) :: st) h) : mW G S0 n0 z0 p l e R s m args below meth c Q (pc) L (.int y :: .int x :: st) h := by
  obtain ⟨hd, rfl⟩ := ck_iadd hk
  exact fun a1 a2 H locs LS hH hS hL => lv_iadd hx hb hd (k a1 a2 H locs LS hH hS hL)
theorem sm_isub (hx : p.tables.exec = Jvm.exec) (hb : c.code = cc) {x y : Int32} (hk : mChk o cc (pc, .isub, nx) = true) (k : mW G S0 n0 z0 p l e R s m args below meth c Q (nx) L (.int (x - y) :: st) h) : mW G S0 n0 z0 p l e R s m args below meth c Q (pc) L (.int y :: .int x :: st) h := by
  obtain ⟨hd, rfl⟩ := ck_isub hk
  exact fun a1 a2 H locs LS hH hS hL => lv_isub hx hb hd (k a1 a2 H locs LS hH hS hL)
theorem sm_imul (hx : p.tables.exec = Jvm.exec) (hb : c.code = cc) {x y : Int32} (hk : mChk o cc (pc, .imul, nx) = true) (k : mW G S0 n0 z0 p l e R s m args below meth c Q (nx) L (.int (x * y) :: st) h) : mW G S0 n0 z0 p l e R s m args below meth c Q (pc) L (.int y :: .int x :: st) h := by
  obtain ⟨hd, rfl⟩ := ck_imul hk
  exact fun a1 a2 H locs LS hH hS hL => lv_imul hx hb hd (k a1 a2 H locs LS hH hS hL)
theorem sm_iand (hx : p.tables.exec = Jvm.exec) (hb : c.code = cc) {x y : Int32} (hk : mChk o cc (pc, .iand, nx) = true) (k : mW G S0 n0 z0 p l e R s m args below meth c Q (nx) L (.int (x &&& y) :: st) h) : mW G S0 n0 z0 p l e R s m args below meth c Q (pc) L (.int y :: .int x :: st) h := by
  obtain ⟨hd, rfl⟩ := ck_iand hk
  exact fun a1 a2 H locs LS hH hS hL => lv_iand hx hb hd (k a1 a2 H locs LS hH hS hL)
theorem sm_ior (hx : p.tables.exec = Jvm.exec) (hb : c.code = cc) {x y : Int32} (hk : mChk o cc (pc, .ior, nx) = true) (k : mW G S0 n0 z0 p l e R s m args below meth c Q (nx) L (.int (x ||| y) :: st) h) : mW G S0 n0 z0 p l e R s m args below meth c Q (pc) L (.int y :: .int x :: st) h := by
  obtain ⟨hd, rfl⟩ := ck_ior hk
  exact fun a1 a2 H locs LS hH hS hL => lv_ior hx hb hd (k a1 a2 H locs LS hH hS hL)
theorem sm_ixor (hx : p.tables.exec = Jvm.exec) (hb : c.code = cc) {x y : Int32} (hk : mChk o cc (pc, .ixor, nx) = true) (k : mW G S0 n0 z0 p l e R s m args below meth c Q (nx) L (.int (x ^^^ y) :: st) h) : mW G S0 n0 z0 p l e R s m args below meth c Q (pc) L (.int y :: .int x :: st) h := by
  obtain ⟨hd, rfl⟩ := ck_ixor hk
  exact fun a1 a2 H locs LS hH hS hL => lv_ixor hx hb hd (k a1 a2 H locs LS hH hS hL)
theorem sm_ishl (hx : p.tables.exec = Jvm.exec) (hb : c.code = cc) {x y : Int32} (hk : mChk o cc (pc, .ishl, nx) = true) (k : mW G S0 n0 z0 p l e R s m args below meth c Q (nx) L (.int (x <<< (y &&& 31)) :: st) h) : mW G S0 n0 z0 p l e R s m args below meth c Q (pc) L (.int y :: .int x :: st) h := by
  obtain ⟨hd, rfl⟩ := ck_ishl hk
  exact fun a1 a2 H locs LS hH hS hL => lv_ishl hx hb hd (k a1 a2 H locs LS hH hS hL)
theorem sm_ishr (hx : p.tables.exec = Jvm.exec) (hb : c.code = cc) {x y : Int32} (hk : mChk o cc (pc, .ishr, nx) = true) (k : mW G S0 n0 z0 p l e R s m args below meth c Q (nx) L (.int (x >>> (y &&& 31)) :: st) h) : mW G S0 n0 z0 p l e R s m args below meth c Q (pc) L (.int y :: .int x :: st) h := by
  obtain ⟨hd, rfl⟩ := ck_ishr hk
  exact fun a1 a2 H locs LS hH hS hL => lv_ishr hx hb hd (k a1 a2 H locs LS hH hS hL)
theorem sm_idiv (hx : p.tables.exec = Jvm.exec) (hb : c.code = cc) {x y : Int32} (hne : ¬ y = 0) (hk : mChk o cc (pc, .idiv, nx) = true) (k : mW G S0 n0 z0 p l e R s m args below meth c Q (nx) L (.int (x / y) :: st) h) : mW G S0 n0 z0 p l e R s m args below meth c Q (pc) L (.int y :: .int x :: st) h := by
  obtain ⟨hd, rfl⟩ := ck_idiv hk
  exact fun a1 a2 H locs LS hH hS hL => lv_idiv hx hb hd hne (k a1 a2 H locs LS hH hS hL)
theorem sm_irem (hx : p.tables.exec = Jvm.exec) (hb : c.code = cc) {x y : Int32} (hne : ¬ y = 0) (hk : mChk o cc (pc, .irem, nx) = true) (k : mW G S0 n0 z0 p l e R s m args below meth c Q (nx) L (.int (x - (x / y) * y) :: st) h) : mW G S0 n0 z0 p l e R s m args below meth c Q (pc) L (.int y :: .int x :: st) h := by
  obtain ⟨hd, rfl⟩ := ck_irem hk
  exact fun a1 a2 H locs LS hH hS hL => lv_irem hx hb hd hne (k a1 a2 H locs LS hH hS hL)
theorem sm_iushr (hx : p.tables.exec = Jvm.exec) (hb : c.code = cc) {x y : Int32} (hk : mChk o cc (pc, .iushr, nx) = true) (k : mW G S0 n0 z0 p l e R s m args below meth c Q (nx) L (.int (x.toUInt32 >>> (y.toUInt32 &&& Int32.toUInt32 31)).toInt32 :: st) h) : mW G S0 n0 z0 p l e R s m args below meth c Q (pc) L (.int y :: .int x :: st) h := by
  obtain ⟨hd, rfl⟩ := ck_iushr hk
  exact fun a1 a2 H locs LS hH hS hL => lv_iushr hx hb hd rfl (k a1 a2 H locs LS hH hS hL)
theorem sm_ineg (hx : p.tables.exec = Jvm.exec) (hb : c.code = cc) {x : Int32} (hk : mChk o cc (pc, .ineg, nx) = true) (k : mW G S0 n0 z0 p l e R s m args below meth c Q (nx) L (.int (-x) :: st) h) : mW G S0 n0 z0 p l e R s m args below meth c Q (pc) L (.int x :: st) h := by
  obtain ⟨hd, rfl⟩ := ck_ineg hk
  exact fun a1 a2 H locs LS hH hS hL => lv_ineg hx hb hd (k a1 a2 H locs LS hH hS hL)
theorem sm_ladd (hx : p.tables.exec = Jvm.exec) (hb : c.code = cc) {x y : Int64} (hk : mChk o cc (pc, .ladd, nx) = true) (k : mW G S0 n0 z0 p l e R s m args below meth c Q (nx) L (.long (x + y) :: st) h) : mW G S0 n0 z0 p l e R s m args below meth c Q (pc) L (.long y :: .long x :: st) h := by
  obtain ⟨hd, rfl⟩ := ck_ladd hk
  exact fun a1 a2 H locs LS hH hS hL => lv_ladd hx hb hd (k a1 a2 H locs LS hH hS hL)
theorem sm_lsub (hx : p.tables.exec = Jvm.exec) (hb : c.code = cc) {x y : Int64} (hk : mChk o cc (pc, .lsub, nx) = true) (k : mW G S0 n0 z0 p l e R s m args below meth c Q (nx) L (.long (x - y) :: st) h) : mW G S0 n0 z0 p l e R s m args below meth c Q (pc) L (.long y :: .long x :: st) h := by
  obtain ⟨hd, rfl⟩ := ck_lsub hk
  exact fun a1 a2 H locs LS hH hS hL => lv_lsub hx hb hd (k a1 a2 H locs LS hH hS hL)
theorem sm_lmul (hx : p.tables.exec = Jvm.exec) (hb : c.code = cc) {x y : Int64} (hk : mChk o cc (pc, .lmul, nx) = true) (k : mW G S0 n0 z0 p l e R s m args below meth c Q (nx) L (.long (x * y) :: st) h) : mW G S0 n0 z0 p l e R s m args below meth c Q (pc) L (.long y :: .long x :: st) h := by
  obtain ⟨hd, rfl⟩ := ck_lmul hk
  exact fun a1 a2 H locs LS hH hS hL => lv_lmul hx hb hd (k a1 a2 H locs LS hH hS hL)
theorem sm_land (hx : p.tables.exec = Jvm.exec) (hb : c.code = cc) {x y : Int64} (hk : mChk o cc (pc, .land, nx) = true) (k : mW G S0 n0 z0 p l e R s m args below meth c Q (nx) L (.long (x &&& y) :: st) h) : mW G S0 n0 z0 p l e R s m args below meth c Q (pc) L (.long y :: .long x :: st) h := by
  obtain ⟨hd, rfl⟩ := ck_land hk
  exact fun a1 a2 H locs LS hH hS hL => lv_land hx hb hd (k a1 a2 H locs LS hH hS hL)
theorem sm_lor (hx : p.tables.exec = Jvm.exec) (hb : c.code = cc) {x y : Int64} (hk : mChk o cc (pc, .lor, nx) = true) (k : mW G S0 n0 z0 p l e R s m args below meth c Q (nx) L (.long (x ||| y) :: st) h) : mW G S0 n0 z0 p l e R s m args below meth c Q (pc) L (.long y :: .long x :: st) h := by
  obtain ⟨hd, rfl⟩ := ck_lor hk
  exact fun a1 a2 H locs LS hH hS hL => lv_lor hx hb hd (k a1 a2 H locs LS hH hS hL)
theorem sm_lxor (hx : p.tables.exec = Jvm.exec) (hb : c.code = cc) {x y : Int64} (hk : mChk o cc (pc, .lxor, nx) = true) (k : mW G S0 n0 z0 p l e R s m args below meth c Q (nx) L (.long (x ^^^ y) :: st) h) : mW G S0 n0 z0 p l e R s m args below meth c Q (pc) L (.long y :: .long x :: st) h := by
  obtain ⟨hd, rfl⟩ := ck_lxor hk
  exact fun a1 a2 H locs LS hH hS hL => lv_lxor hx hb hd (k a1 a2 H locs LS hH hS hL)
theorem sm_ldiv (hx : p.tables.exec = Jvm.exec) (hb : c.code = cc) {x y : Int64} (hne : ¬ y = 0) (hk : mChk o cc (pc, .ldiv, nx) = true) (k : mW G S0 n0 z0 p l e R s m args below meth c Q (nx) L (.long (x / y) :: st) h) : mW G S0 n0 z0 p l e R s m args below meth c Q (pc) L (.long y :: .long x :: st) h := by
  obtain ⟨hd, rfl⟩ := ck_ldiv hk
  exact fun a1 a2 H locs LS hH hS hL => lv_ldiv hx hb hd hne (k a1 a2 H locs LS hH hS hL)
theorem sm_lrem (hx : p.tables.exec = Jvm.exec) (hb : c.code = cc) {x y : Int64} (hne : ¬ y = 0) (hk : mChk o cc (pc, .lrem, nx) = true) (k : mW G S0 n0 z0 p l e R s m args below meth c Q (nx) L (.long (x - (x / y) * y) :: st) h) : mW G S0 n0 z0 p l e R s m args below meth c Q (pc) L (.long y :: .long x :: st) h := by
  obtain ⟨hd, rfl⟩ := ck_lrem hk
  exact fun a1 a2 H locs LS hH hS hL => lv_lrem hx hb hd hne (k a1 a2 H locs LS hH hS hL)
theorem sm_lneg (hx : p.tables.exec = Jvm.exec) (hb : c.code = cc) {x : Int64} (hk : mChk o cc (pc, .lneg, nx) = true) (k : mW G S0 n0 z0 p l e R s m args below meth c Q (nx) L (.long (-x) :: st) h) : mW G S0 n0 z0 p l e R s m args below meth c Q (pc) L (.long x :: st) h := by
  obtain ⟨hd, rfl⟩ := ck_lneg hk
  exact fun a1 a2 H locs LS hH hS hL => lv_lneg hx hb hd (k a1 a2 H locs LS hH hS hL)
theorem sm_lshl (hx : p.tables.exec = Jvm.exec) (hb : c.code = cc) {x : Int64} {y : Int32} (hk : mChk o cc (pc, .lshl, nx) = true) (k : mW G S0 n0 z0 p l e R s m args below meth c Q (nx) L (.long (x <<< (y.toInt64 &&& 63)) :: st) h) : mW G S0 n0 z0 p l e R s m args below meth c Q (pc) L (.int y :: .long x :: st) h := by
  obtain ⟨hd, rfl⟩ := ck_lshl hk
  exact fun a1 a2 H locs LS hH hS hL => lv_lshl hx hb hd rfl (k a1 a2 H locs LS hH hS hL)
theorem sm_lushr (hx : p.tables.exec = Jvm.exec) (hb : c.code = cc) {x : Int64} {y : Int32} (hk : mChk o cc (pc, .lushr, nx) = true) (k : mW G S0 n0 z0 p l e R s m args below meth c Q (nx) L (.long (x.toUInt64 >>> (y.toInt64.toUInt64 &&& Int64.toUInt64 63)).toInt64 :: st) h) : mW G S0 n0 z0 p l e R s m args below meth c Q (pc) L (.int y :: .long x :: st) h := by
  obtain ⟨hd, rfl⟩ := ck_lushr hk
  exact fun a1 a2 H locs LS hH hS hL => lv_lushr hx hb hd rfl (k a1 a2 H locs LS hH hS hL)
theorem sm_lcmp (hx : p.tables.exec = Jvm.exec) (hb : c.code = cc) {x y : Int64} (hk : mChk o cc (pc, .lcmp, nx) = true) (k : mW G S0 n0 z0 p l e R s m args below meth c Q (nx) L (.int (lg_cmp x y) :: st) h) : mW G S0 n0 z0 p l e R s m args below meth c Q (pc) L (.long y :: .long x :: st) h := by
  obtain ⟨hd, rfl⟩ := ck_lcmp hk
  exact fun a1 a2 H locs LS hH hS hL => W.lcmp hx hb hd (k a1 a2 H locs LS hH hS hL)
theorem sm_i2l (hx : p.tables.exec = Jvm.exec) (hb : c.code = cc) {x : Int32} (hk : mChk o cc (pc, .i2l, nx) = true) (k : mW G S0 n0 z0 p l e R s m args below meth c Q (nx) L (.long x.toInt64 :: st) h) : mW G S0 n0 z0 p l e R s m args below meth c Q (pc) L (.int x :: st) h := by
  obtain ⟨hd, rfl⟩ := ck_i2l hk
  exact fun a1 a2 H locs LS hH hS hL => lv_i2l hx hb hd rfl (k a1 a2 H locs LS hH hS hL)
theorem sm_l2i (hx : p.tables.exec = Jvm.exec) (hb : c.code = cc) {x : Int64} (hk : mChk o cc (pc, .l2i, nx) = true) (k : mW G S0 n0 z0 p l e R s m args below meth c Q (nx) L (.int x.toInt32 :: st) h) : mW G S0 n0 z0 p l e R s m args below meth c Q (pc) L (.long x :: st) h := by
  obtain ⟨hd, rfl⟩ := ck_l2i hk
  exact fun a1 a2 H locs LS hH hS hL => lv_l2i hx hb hd rfl (k a1 a2 H locs LS hH hS hL)
theorem sm_i2b (hx : p.tables.exec = Jvm.exec) (hb : c.code = cc) {x : Int32} (hk : mChk o cc (pc, .i2b, nx) = true) (k : mW G S0 n0 z0 p l e R s m args below meth c Q (nx) L (.int x.toInt8.toInt32 :: st) h) : mW G S0 n0 z0 p l e R s m args below meth c Q (pc) L (.int x :: st) h := by
  obtain ⟨hd, rfl⟩ := ck_i2b hk
  exact fun a1 a2 H locs LS hH hS hL => lv_i2b hx hb hd rfl (k a1 a2 H locs LS hH hS hL)
theorem sm_i2c (hx : p.tables.exec = Jvm.exec) (hb : c.code = cc) {x : Int32} (hk : mChk o cc (pc, .i2c, nx) = true) (k : mW G S0 n0 z0 p l e R s m args below meth c Q (nx) L (.int (x.toUInt32 % 65536).toInt32 :: st) h) : mW G S0 n0 z0 p l e R s m args below meth c Q (pc) L (.int x :: st) h := by
  obtain ⟨hd, rfl⟩ := ck_i2c hk
  exact fun a1 a2 H locs LS hH hS hL => lv_i2c hx hb hd rfl (k a1 a2 H locs LS hH hS hL)
theorem sm_dup (hx : p.tables.exec = Jvm.exec) (hb : c.code = cc) {v : Value} (hc : (mV G v).category = 1) (hk : mChk o cc (pc, .dup, nx) = true) (k : mW G S0 n0 z0 p l e R s m args below meth c Q (nx) L (v :: v :: st) h) : mW G S0 n0 z0 p l e R s m args below meth c Q (pc) L (v :: st) h := by
  obtain ⟨hd, rfl⟩ := ck_dup hk
  exact fun a1 a2 H locs LS hH hS hL => lv_dup hx hb hd hc (k a1 a2 H locs LS hH hS hL)
theorem sm_dup2 (hx : p.tables.exec = Jvm.exec) (hb : c.code = cc) {v w : Value} (hc : (mV G v).category = 1) (hc2 : (mV G w).category = 1) (hk : mChk o cc (pc, .dup2, nx) = true) (k : mW G S0 n0 z0 p l e R s m args below meth c Q (nx) L (v :: w :: v :: w :: st) h) : mW G S0 n0 z0 p l e R s m args below meth c Q (pc) L (v :: w :: st) h := by
  obtain ⟨hd, rfl⟩ := ck_dup2 hk
  exact fun a1 a2 H locs LS hH hS hL => lv_dup2_11 hx hb hd hc hc2 (k a1 a2 H locs LS hH hS hL)
theorem sm_dup2L (hx : p.tables.exec = Jvm.exec) (hb : c.code = cc) {x : Int64} (hk : mChk o cc (pc, .dup2, nx) = true) (k : mW G S0 n0 z0 p l e R s m args below meth c Q (nx) L (.long x :: .long x :: st) h) : mW G S0 n0 z0 p l e R s m args below meth c Q (pc) L (.long x :: st) h := by
  obtain ⟨hd, rfl⟩ := ck_dup2 hk
  exact fun a1 a2 H locs LS hH hS hL => lv_dup2_2 hx hb hd rfl (k a1 a2 H locs LS hH hS hL)
theorem sm_pop (hx : p.tables.exec = Jvm.exec) (hb : c.code = cc) {v : Value} (hc : (mV G v).category = 1) (hk : mChk o cc (pc, .pop, nx) = true) (k : mW G S0 n0 z0 p l e R s m args below meth c Q (nx) L (st) h) : mW G S0 n0 z0 p l e R s m args below meth c Q (pc) L (v :: st) h := by
  obtain ⟨hd, rfl⟩ := ck_pop hk
  exact fun a1 a2 H locs LS hH hS hL => lv_pop hx hb hd hc (k a1 a2 H locs LS hH hS hL)
theorem sm_lconst0 (hx : p.tables.exec = Jvm.exec) (hb : c.code = cc) (hd : decode cc pc = .ok (.lconst 0, 1)) (k : mW G S0 n0 z0 p l e R s m args below meth c Q (pc + 1) L (.long 0 :: st) h) : mW G S0 n0 z0 p l e R s m args below meth c Q (pc) L (st) h := fun a1 a2 H locs LS hH hS hL => lv_lconst hx hb hd rfl (k a1 a2 H locs LS hH hS hL)
theorem sm_lconst1 (hx : p.tables.exec = Jvm.exec) (hb : c.code = cc) (hd : decode cc pc = .ok (.lconst 1, 1)) (k : mW G S0 n0 z0 p l e R s m args below meth c Q (pc + 1) L (.long 1 :: st) h) : mW G S0 n0 z0 p l e R s m args below meth c Q (pc) L (st) h := fun a1 a2 H locs LS hH hS hL => lv_lconst hx hb hd rfl (k a1 a2 H locs LS hH hS hL)
theorem sm_iload (hx : p.tables.exec = Jvm.exec) (hb : c.code = cc) {k : Nat} {x : Int32} (hl : L[k]? = some (some (.int x))) (hk : mChk o cc (pc, .iload k, nx) = true) (kk : mW G S0 n0 z0 p l e R s m args below meth c Q (nx) L (.int x :: st) h) : mW G S0 n0 z0 p l e R s m args below meth c Q (pc) L (st) h := by
  obtain ⟨raw, len, h1, h2, h3⟩ := mChk_of hk
  simp only [mRel, Bool.or_eq_true, decide_eq_true_eq] at h3
  intro a1 a2 H locs LS hH hS hL
  have hl2 : LS[k]? = some (.val (.int x)) := hL.2.2 k _ hl
  have h9 := kk a1 a2 H locs LS hH hS hL
  rcases h3 with ⟨rfl, rfl⟩ | ⟨rfl, ⟨rfl, rfl⟩ | ⟨rfl, rfl⟩ | ⟨rfl, rfl⟩ | ⟨rfl, rfl⟩⟩
  · subst h2; exact lv_iload hx hb h1 hl2 h9
  all_goals (subst h2; exact lv_iload_n hx hb h1 rfl hl2 h9)
theorem sm_lload (hx : p.tables.exec = Jvm.exec) (hb : c.code = cc) {k : Nat} {x : Int64} (hl : L[k]? = some (some (.long x))) (hk : mChk o cc (pc, .lload k, nx) = true) (kk : mW G S0 n0 z0 p l e R s m args below meth c Q (nx) L (.long x :: st) h) : mW G S0 n0 z0 p l e R s m args below meth c Q (pc) L (st) h := by
  obtain ⟨raw, len, h1, h2, h3⟩ := mChk_of hk
  simp only [mRel, Bool.or_eq_true, decide_eq_true_eq] at h3
  intro a1 a2 H locs LS hH hS hL
  have hl2 : LS[k]? = some (.val (.long x)) := hL.2.2 k _ hl
  have h9 := kk a1 a2 H locs LS hH hS hL
  rcases h3 with ⟨rfl, rfl⟩ | ⟨rfl, ⟨rfl, rfl⟩ | ⟨rfl, rfl⟩ | ⟨rfl, rfl⟩ | ⟨rfl, rfl⟩⟩
  · subst h2; exact lv_lload hx hb h1 hl2 h9
  all_goals (subst h2; exact lv_lload_n hx hb h1 rfl hl2 h9)
theorem sm_aload (hx : p.tables.exec = Jvm.exec) (hb : c.code = cc) (hG : mGok G) {k : Nat} {v : Value} (hl : L[k]? = some (some v)) (hv : v = .null ∨ ∃ a, v = .ref a) (hk : mChk o cc (pc, .aload k, nx) = true) (kk : mW G S0 n0 z0 p l e R s m args below meth c Q (nx) L (v :: st) h) : mW G S0 n0 z0 p l e R s m args below meth c Q (pc) L (st) h := by
  obtain ⟨raw, len, h1, h2, h3⟩ := mChk_of hk
  simp only [mRel, Bool.or_eq_true, decide_eq_true_eq] at h3
  intro a1 a2 H locs LS hH hS hL
  have hl2 : LS[k]? = some (.val (mV G v)) := hL.2.2 k _ hl
  have h9 : W p l e R s m args below meth c H locs (h.length - n0) (mSlots h - z0) Q (F0 m nx LS (mV G v :: st.map (mV G))) := kk a1 a2 H locs LS hH hS hL
  have hv2 : mV G v = .null ∨ ∃ q, mV G v = .ref q := by
    rcases hv with rfl | ⟨a, rfl⟩
    · exact Or.inl rfl
    · exact mRho_or hG a
  generalize mV G v = w at hl2 h9 hv2
  rcases hv2 with rfl | ⟨q, rfl⟩
  · rcases h3 with ⟨rfl, rfl⟩ | ⟨rfl, ⟨rfl, rfl⟩ | ⟨rfl, rfl⟩ | ⟨rfl, rfl⟩ | ⟨rfl, rfl⟩⟩
    · subst h2; exact lv_aloadN hx hb h1 hl2 h9
    all_goals (subst h2; exact lv_aload_nN hx hb h1 rfl hl2 h9)
  · rcases h3 with ⟨rfl, rfl⟩ | ⟨rfl, ⟨rfl, rfl⟩ | ⟨rfl, rfl⟩ | ⟨rfl, rfl⟩ | ⟨rfl, rfl⟩⟩
    · subst h2; exact lv_aload hx hb h1 hl2 h9
    all_goals (subst h2; exact lv_aload_n hx hb h1 rfl hl2 h9)
theorem sm_istore (hx : p.tables.exec = Jvm.exec) (hb : c.code = cc) (hG : mGok G) {k : Nat} {x : Int32} (hl : k < L.length) (hk : mChk o cc (pc, .istore k, nx) = true) (kk : mW G S0 n0 z0 p l e R s m args below meth c Q (nx) (mSto L k (.int x)) (st) h) : mW G S0 n0 z0 p l e R s m args below meth c Q (pc) L (.int x :: st) h := by
  obtain ⟨raw, len, h1, h2, h3⟩ := mChk_of hk
  simp only [mRel, Bool.or_eq_true, decide_eq_true_eq] at h3
  intro a1 a2 H locs LS hH hS hL
  have h9 : ∀ LS' : Array Slot, lv_has LS' L.length ((k, .int x) :: (mPairs G L).filter (fun q => !(q.1 == k) && !(q.1 + 1 == k && q.2.category == 2))) → W p l e R s m args below meth c H locs (h.length - n0) (mSlots h - z0) Q (F0 m nx LS' (st.map (mV G))) := fun LS' h' => kk a1 a2 H locs LS' hH hS (mLR.sto1 hG (v := .int x) rfl (fun _ q => by cases q) h')
  rcases h3 with ⟨rfl, rfl⟩ | ⟨rfl, ⟨rfl, rfl⟩ | ⟨rfl, rfl⟩ | ⟨rfl, rfl⟩ | ⟨rfl, rfl⟩⟩
  · subst h2; exact lv_istore hx hb h1 hL.has hl rfl h9
  all_goals (subst h2; exact lv_istore_n hx hb h1 rfl hL.has hl rfl h9)
theorem sm_lstore (hx : p.tables.exec = Jvm.exec) (hb : c.code = cc) (hG : mGok G) {k : Nat} {x : Int64} (hl : k + 1 < L.length) (hk : mChk o cc (pc, .lstore k, nx) = true) (kk : mW G S0 n0 z0 p l e R s m args below meth c Q (nx) (mSto L k (.long x)) (st) h) : mW G S0 n0 z0 p l e R s m args below meth c Q (pc) L (.long x :: st) h := by
  obtain ⟨raw, len, h1, h2, h3⟩ := mChk_of hk
  simp only [mRel, Bool.or_eq_true, decide_eq_true_eq] at h3
  intro a1 a2 H locs LS hH hS hL
  have h9 : ∀ LS' : Array Slot, lv_has LS' L.length ((k, .long x) :: (mPairs G L).filter (fun q => !(q.1 == k) && (!(q.1 == k + 1) && !(q.1 + 1 == k && q.2.category == 2)))) → W p l e R s m args below meth c H locs (h.length - n0) (mSlots h - z0) Q (F0 m nx LS' (st.map (mV G))) := fun LS' h' => kk a1 a2 H locs LS' hH hS (mLR.sto2 hG h')
  rcases h3 with ⟨rfl, rfl⟩ | ⟨rfl, ⟨rfl, rfl⟩ | ⟨rfl, rfl⟩ | ⟨rfl, rfl⟩ | ⟨rfl, rfl⟩⟩
  · subst h2; exact lv_lstore hx hb h1 hL.has hl rfl h9
  all_goals (subst h2; exact lv_lstore_n hx hb h1 rfl hL.has hl rfl h9)
theorem sm_astore (hx : p.tables.exec = Jvm.exec) (hb : c.code = cc) (hG : mGok G) {k : Nat} {v : Value} (hv : v = .null ∨ ∃ a, v = .ref a) (hl : k < L.length) (hk : mChk o cc (pc, .astore k, nx) = true) (kk : mW G S0 n0 z0 p l e R s m args below meth c Q (nx) (mSto L k v) (st) h) : mW G S0 n0 z0 p l e R s m args below meth c Q (pc) L (v :: st) h := by
  obtain ⟨raw, len, h1, h2, h3⟩ := mChk_of hk
  simp only [mRel, Bool.or_eq_true, decide_eq_true_eq] at h3
  intro a1 a2 H locs LS hH hS hL
  have hv2 : mV G v = .null ∨ ∃ q, mV G v = .ref q := by
    rcases hv with rfl | ⟨a, rfl⟩
    · exact Or.inl rfl
    · exact mRho_or hG a
  have h9 : ∀ LS' : Array Slot, lv_has LS' L.length ((k, mV G v) :: (mPairs G L).filter (fun q => !(q.1 == k) && !(q.1 + 1 == k && q.2.category == 2))) → W p l e R s m args below meth c H locs (h.length - n0) (mSlots h - z0) Q (F0 m nx LS' (st.map (mV G))) := fun LS' h' => kk a1 a2 H locs LS' hH hS (mLR.sto1 hG (v := v) (by rcases hv with rfl | ⟨a, rfl⟩ <;> rfl) (fun _ q => by rcases hv with rfl | ⟨a, rfl⟩ <;> cases q) h')
  show W p l e R s m args below meth c H locs (h.length - n0) (mSlots h - z0) Q (F0 m pc LS (mV G v :: st.map (mV G)))
  generalize mV G v = w at h9 hv2
  rcases hv2 with rfl | ⟨q, rfl⟩
  · rcases h3 with ⟨rfl, rfl⟩ | ⟨rfl, ⟨rfl, rfl⟩ | ⟨rfl, rfl⟩ | ⟨rfl, rfl⟩ | ⟨rfl, rfl⟩⟩
    · subst h2; exact lv_astoreN hx hb h1 hL.has hl rfl h9
    all_goals (subst h2; exact lv_astore_nN hx hb h1 rfl hL.has hl rfl h9)
  · rcases h3 with ⟨rfl, rfl⟩ | ⟨rfl, ⟨rfl, rfl⟩ | ⟨rfl, rfl⟩ | ⟨rfl, rfl⟩ | ⟨rfl, rfl⟩⟩
    · subst h2; exact lv_astore hx hb h1 hL.has hl rfl h9
    all_goals (subst h2; exact lv_astore_n hx hb h1 rfl hL.has hl rfl h9)
theorem sm_iinc (hx : p.tables.exec = Jvm.exec) (hb : c.code = cc) (hG : mGok G) {k : Nat} {n : Int} {x : Int32} (hl : L[k]? = some (some (.int x))) (hk : mChk o cc (pc, .iinc k n, nx) = true) (kk : mW G S0 n0 z0 p l e R s m args below meth c Q (nx) (mSto L k (.int (x + Int32.ofInt n))) (st) h) : mW G S0 n0 z0 p l e R s m args below meth c Q (pc) L (st) h := by
  obtain ⟨raw, len, h1, h2, h3⟩ := mChk_of hk
  simp only [mRel, decide_eq_true_eq] at h3
  obtain ⟨rfl, rfl⟩ := h3
  subst h2
  intro a1 a2 H locs LS hH hS hL
  have hm : (k, Value.int x) ∈ mPairs G L := mPairs_mem.mpr ⟨.int x, hl, rfl⟩
  obtain ⟨j, hj⟩ := List.getElem?_of_mem hm
  exact lv_iinc hx hb h1 hL.has hj rfl (List.getElem?_eq_some_iff.mp hl).1 rfl (fun LS' h' => kk a1 a2 H locs LS' hH hS (mLR.sto1 hG (v := .int (x + Int32.ofInt n)) rfl (fun _ q => by cases q) h'))
theorem sm_goto (hx : p.tables.exec = Jvm.exec) (hb : c.code = cc) {t : Int} (hk : mChk o cc (pc, .goto t, nx) = true) (k : mW G S0 n0 z0 p l e R s m args below meth c Q (t.toNat) L (st) h) : mW G S0 n0 z0 p l e R s m args below meth c Q (pc) L (st) h := by
  obtain ⟨raw, len, h1, h2, h3⟩ := mChk_of hk
  simp only [mRel, decide_eq_true_eq] at h3
  obtain ⟨rfl, rfl, h4⟩ := h3
  exact fun a1 a2 H locs LS hH hS hL => lv_goto (tgt := t.toNat) hx hb h1 (by omega) (k a1 a2 H locs LS hH hS hL)
theorem sm_if (hx : p.tables.exec = Jvm.exec) (hb : c.code = cc) {q : ClassFile.Cond} {t : Int} {x : Int32} (hk : mChk o cc (pc, .ifCond q t, nx) = true) (k : mW G S0 n0 z0 p l e R s m args below meth c Q (if mCmp q x 0 then t.toNat else nx) L (st) h) : mW G S0 n0 z0 p l e R s m args below meth c Q (pc) L (.int x :: st) h := by
  obtain ⟨raw, len, h1, h2, h3⟩ := mChk_of hk
  simp only [mRel, decide_eq_true_eq] at h3
  obtain ⟨rfl, rfl, h4⟩ := h3
  subst h2
  intro a1 a2 H locs LS hH hS hL
  have h9 := k a1 a2 H locs LS hH hS hL
  cases q <;> simp only [mCmp, decide_eq_true_eq] at h9
  · exact lv_if_eq (tgt := t.toNat) hx hb h1 (by omega) (fun z => by first | (rw [if_pos z] at h9; exact h9) | simpa [z] using h9) (fun z => by first | (rw [if_neg z] at h9; exact h9) | simpa [z] using h9)
  · exact lv_if_ne (tgt := t.toNat) hx hb h1 (by omega) (fun z => by first | (rw [if_pos z] at h9; exact h9) | simpa [z] using h9) (fun z => by first | (rw [if_neg z] at h9; exact h9) | simpa [z] using h9)
  · exact lv_if_lt (tgt := t.toNat) hx hb h1 (by omega) (fun z => by first | (rw [if_pos z] at h9; exact h9) | simpa [z] using h9) (fun z => by first | (rw [if_neg z] at h9; exact h9) | simpa [z] using h9)
  · exact lv_if_ge (tgt := t.toNat) hx hb h1 (by omega) (fun z => by first | (rw [if_pos z] at h9; exact h9) | simpa [z] using h9) (fun z => by first | (rw [if_neg z] at h9; exact h9) | simpa [z] using h9)
  · exact lv_if_gt (tgt := t.toNat) hx hb h1 (by omega) (fun z => by first | (rw [if_pos z] at h9; exact h9) | simpa [z] using h9) (fun z => by first | (rw [if_neg z] at h9; exact h9) | simpa [z] using h9)
  · exact lv_if_le (tgt := t.toNat) hx hb h1 (by omega) (fun z => by first | (rw [if_pos z] at h9; exact h9) | simpa [z] using h9) (fun z => by first | (rw [if_neg z] at h9; exact h9) | simpa [z] using h9)
theorem sm_icmp (hx : p.tables.exec = Jvm.exec) (hb : c.code = cc) {q : ClassFile.Cond} {t : Int} {x y : Int32} (hk : mChk o cc (pc, .if_icmp q t, nx) = true) (k : mW G S0 n0 z0 p l e R s m args below meth c Q (if mCmp q x y then t.toNat else nx) L (st) h) : mW G S0 n0 z0 p l e R s m args below meth c Q (pc) L (.int y :: .int x :: st) h := by
  obtain ⟨raw, len, h1, h2, h3⟩ := mChk_of hk
  simp only [mRel, decide_eq_true_eq] at h3
  obtain ⟨rfl, rfl, h4⟩ := h3
  subst h2
  intro a1 a2 H locs LS hH hS hL
  have h9 := k a1 a2 H locs LS hH hS hL
  cases q <;> simp only [mCmp, decide_eq_true_eq] at h9
  · exact lv_icmp_eq (tgt := t.toNat) hx hb h1 (by omega) (fun z => by first | (rw [if_pos z] at h9; exact h9) | simpa [z] using h9) (fun z => by first | (rw [if_neg z] at h9; exact h9) | simpa [z] using h9)
  · exact lv_icmp_ne (tgt := t.toNat) hx hb h1 (by omega) (fun z => by first | (rw [if_pos z] at h9; exact h9) | simpa [z] using h9) (fun z => by first | (rw [if_neg z] at h9; exact h9) | simpa [z] using h9)
  · exact lv_icmp_lt (tgt := t.toNat) hx hb h1 (by omega) (fun z => by first | (rw [if_pos z] at h9; exact h9) | simpa [z] using h9) (fun z => by first | (rw [if_neg z] at h9; exact h9) | simpa [z] using h9)
  · exact lv_icmp_ge (tgt := t.toNat) hx hb h1 (by omega) (fun z => by first | (rw [if_pos z] at h9; exact h9) | simpa [z] using h9) (fun z => by first | (rw [if_neg z] at h9; exact h9) | simpa [z] using h9)
  · exact lv_icmp_gt (tgt := t.toNat) hx hb h1 (by omega) (fun z => by first | (rw [if_pos z] at h9; exact h9) | simpa [z] using h9) (fun z => by first | (rw [if_neg z] at h9; exact h9) | simpa [z] using h9)
  · exact lv_icmp_le (tgt := t.toNat) hx hb h1 (by omega) (fun z => by first | (rw [if_pos z] at h9; exact h9) | simpa [z] using h9) (fun z => by first | (rw [if_neg z] at h9; exact h9) | simpa [z] using h9)
end Sim
