/-! THE REFERENCE: seed, trial, feed, end -/
section Rz
variable {d : Nat} {h h1 : mHeap} {l : Ld} {m : Mo} {S : List Wd} {P : Pg} {s : Cs} {K : Int32 → mHeap → Prop} {x y z : Int} {q f w k n : Nat} {B : Bt} {C : List Ru}
theorem RI.txt {n' : Nat} {B' : Bt} {S' : List Wd} {C' : List Ru} (hI : RI h s) (hC : CsI s) (z : RF (27 :: 31 :: 32 :: scF) (175 :: 176 :: 177 :: 178 :: 179 :: 180 :: 181 :: 183 :: scR) h h1) (b : RTx h1 B' n') (c : RSy h1 S') (r : RRu h1 C') : RI h1 ((B', n'), S', C', s.2.2.2) := by
  obtain ⟨⟨a1, a2⟩, _, _, _, p, g⟩ := hI
  have r64 : ∀ a ∈ (175 :: 176 :: 177 :: 178 :: 179 :: 180 :: 181 :: 183 :: scR), 64 ≤ a := by decide
  refine ⟨⟨z.rs a1 r64, by rw [z.fe (by decide)]; exact a2⟩, b, c, r, RPg_sc p z (by decide) (by decide), fun k hk => ?_⟩
  rw [show xA h1 201 = xA h 201 from z.ae (by decide) (by decide)]
  rcases g k hk with q | ⟨q, Q, q1, q2⟩
  · exact Or.inl q
  · refine Or.inr ⟨q, Q, q1, RPg_cong q2 (hC.2.2.2.2 k Q hk q1).1 ?_ (fun r i h1 h2 h3 h4 h5 h6 h7 => ?_)⟩
    · rw [iv_at, iv_at, z.ae (by decide) (by decide)]
    · rw [iv_at, iv_at, z.ae (by decide) (by decide)]
theorem RSy.sc {F R : List Nat} (hS : RSy h S) (z : RF F R h h1) (f : ¬ 32 ∈ F) (r : ¬ 183 ∈ R) : RSy h1 S := ⟨by rw [z.fe f]; exact hS.1, hS.2.1, fun k hk => by rw [z.ae (by decide) r]; exact hS.2.2 k hk⟩
theorem RRu.sc {F R : List Nat} (hR : RRu h C) (z : RF F R h h1) (f : ¬ 31 ∈ F) (r : ∀ a ∈ [176, 177, 178, 179, 180, 181], ¬ a ∈ R) : RRu h1 C := ⟨by rw [z.fe f]; exact hR.1, hR.2.1, fun k hk => RRr_eq (hR.2.2 k hk) (fun a h1 h2 => z.ae (by omega) (r a (by
  have : a = 176 ∨ a = 177 ∨ a = 178 ∨ a = 179 ∨ a = 180 ∨ a = 181 := by omega
  rcases this with q | q | q | q | q | q <;> (subst q; decide))))⟩
theorem RI.tx {n' : Nat} {B' : Bt} (hI : RI h s) (hC : CsI s) (z : RF (27 :: scF) (175 :: scR) h h1) (b : RTx h1 B' n') : RI h1 (sTx s B' n') := hI.txt hC (z.wd (by decide) (by decide)) b (hI.2.2.1.sc z (by decide) (by decide)) (hI.2.2.2.1.sc z (by decide) (by decide))
theorem RS.t27 (hR : RS h) : tgK (kd h 148) 27 = some 0 := hR.tg.1
theorem RS.aT175 (hR : RS h) : aT h 175 = .byte := by
  have e1 : (kd h 175).1 = 1 := by rw [hR.k175]
  have e2 := (kd1 e1).2
  rw [hR.k175] at e2
  have e3 : tyN (aT h 175) = 2 := by
    have := congrArg (fun t : mKd => t.2.1) e2
    exact this.symm
  exact tyN_byte.mp e3
theorem put1 {K : mHeap → Prop} (hR : RS h) (hB : RTx h B n) (hn : n < 400) {x : Int32} {s : Nat} (hs : s < 32) (hK : ∀ h1, RF [27] [175] h h1 → RTx h1 (upf B n (byI x s)) (n + 1) → Go d 194 3 [some (.ref 148), some (.int x), some (.int (ii ((s : Int) - 8)))] [] h1 (rV K)) : Go d 194 3 [some (.ref 148), some (.int x), some (.int (ii s))] [] h (rV K) := by
  have k := hR.k175
  have e : (ii (n : Nat)).toNatClampNeg = n := by rw [ix_ii (by omega) (by omega)]; rfl
  have ob : okB h 175 (ii n) := by
    rw [okB_kd, k]
    refine ⟨rfl, Or.inl rfl, ?_, ?_⟩
    · rw [ii_lt0 (by omega) (by omega)]; omega
    · rw [e]; exact hn
  rw [b194_3]
  rw [if_neg (by rw [show ii 0 = ii (0 : Int) from rfl, ii_lt (by omega) (by omega) (by omega) (by omega)]; omega)]
  simp only [(RS.ok hR), (RS.fr hR), true_and, and_true, true_or, or_true, hB.1, ob]
  refine ⟨by decide, ?_⟩
  have r := byI_r x s
  have x1 : xA (sB h 175 (ii n) ((shr x (ii s)).toInt8.toInt32)) 175 = upf (xA h 175) n (ii (byI x s)) := by
    have := xA_sI (h := h) (a := 175) (b := 175) (j := ii (n : Nat)) (w := vp_nar (aT h 175) ((shr x (ii s)).toInt8.toInt32)) (by rw [k]) (by rw [k, e]; exact hn)
    rw [if_pos rfl, e, hR.aT175] at this
    have nr : vp_nar .byte ((shr x (ii s)).toInt8.toInt32) = (shr x (ii s)).toInt8.toInt32 := by
      show ((shr x (ii s)).toInt8.toInt32).toInt8.toInt32 = _
      rw [Int8.toInt8_toInt32]
    rw [nr, ← r.2.2] at this
    rw [← r.2.2]
    unfold sB
    rw [hR.aT175]
    rw [show vp_nar .byte (ii (byI x s)) = ii (byI x s) by rw [r.2.2]; exact nr]
    exact this
  have z1 : RF [] [175] h (sB h 175 (ii n) ((shr x (ii s)).toInt8.toInt32)) := RF.sB
  generalize sB h 175 (ii n) ((shr x (ii s)).toInt8.toInt32) = H1 at *
  have R1 := z1.rs hR (by decide)
  have g27 : fI H1 148 27 = ii (n : Nat) := by rw [z1.fe (by decide)]; exact hB.1
  have y := RF.sF (x := ii ((n + 1 : Nat) : Int)) R1.t27
  simp only [(RS.ok R1), (RS.fr R1), true_and, and_true, true_or, or_true, R1.op, g27]
  rw [show ii (n : Nat) + ii 1 = ii ((n + 1 : Nat) : Int) from ii_add _ _, ii_add, show (s : Int) + -8 = (s : Int) - 8 by omega]
  refine hK _ ((z1.wd (by decide) (by decide)).tr (y.1.wd (by decide) (by decide))) ⟨y.2, by omega, fun i hi => ?_⟩
  rw [xA_sF, x1]
  unfold upf
  by_cases c : i = n
  · rw [if_pos c, if_pos c]
  · rw [if_neg c, if_neg c]
    exact hB.2.2 i (by omega)
theorem c194 {K : mHeap → Prop} (hR : RS h) (hB : RTx h B n) (hn : n + 4 ≤ 400) {x : Int32} (hK : ∀ h1, RF [27] [175] h h1 → RTx h1 (apB B n x) (n + 4) → K h1) : GoCv (d + 1) 194 [.ref 148, .int x] h K := by
  have r64 : ∀ a ∈ [175], 64 ≤ a := by decide
  rw [e194, b194_0]
  refine put1 (s := 24) hR hB (by omega) (by decide) (fun h1 z1 b1 => ?_)
  refine put1 (s := 16) (z1.rs hR r64) b1 (by omega) (by decide) (fun h2 z2 b2 => ?_)
  have z12 := z1.tr z2
  refine put1 (s := 8) (z12.rs hR r64) b2 (by omega) (by decide) (fun h3 z3 b3 => ?_)
  have z13 := z12.tr z3
  refine put1 (s := 0) (z13.rs hR r64) b3 (by omega) (by decide) (fun h4 z4 b4 => ?_)
  rw [b194_3, if_pos (by decide), rV_s]
  exact hK h4 (z13.tr z4) b4
theorem c193 (hI : RI h s) (hC : CsI s) {x1 x2 x3 x4 x5 : Int32} (hK : ∀ h1, RI h1 (sTx s (aFeed (cs_B s) (cs_n s) x1 x2 x3 x4 x5).2.1 (aFeed (cs_B s) (cs_n s) x1 x2 x3 x4 x5).2.2) → K (ii (aFeed (cs_B s) (cs_n s) x1 x2 x3 x4 x5).1) h1) : GoCi (d + 2) 193 [.ref 148, .int x1, .int x2, .int x3, .int x4, .int x5] h K := by
  have hR := hI.1.1
  have hB := hI.2.1
  have n4 := hB.2.1
  have r64 : ∀ a ∈ [175], 64 ≤ a := by decide
  unfold aFeed at hK
  rw [e193, b193_0]
  simp only [(RS.ok hR), (RS.fr hR), true_and, and_true, true_or, or_true, hB.1]
  rw [show ii (cs_n s : Nat) + ii 20 = ii ((cs_n s + 20 : Nat) : Int) from ii_add _ _]
  by_cases c : cs_n s ≤ 380
  · rw [if_pos c] at hK
    rw [if_pos (by rw [show ii 400 = ii (400 : Int) from rfl, ii_le (by omega) (by omega) (by omega) (by omega)]; omega)]
    refine c194 hR hB (by omega) (fun h1 z1 b1 => ?_)
    have R1 := z1.rs hR r64
    (try simp only [(RS.ok R1), (RS.fr R1), true_and, and_true, true_or, or_true])
    refine c194 R1 b1 (by omega) (fun h2 z2 b2 => ?_)
    have R2 := z2.rs R1 r64
    (try simp only [(RS.ok R2), (RS.fr R2), true_and, and_true, true_or, or_true])
    refine c194 R2 b2 (by omega) (fun h3 z3 b3 => ?_)
    have R3 := z3.rs R2 r64
    (try simp only [(RS.ok R3), (RS.fr R3), true_and, and_true, true_or, or_true])
    refine c194 R3 b3 (by omega) (fun h4 z4 b4 => ?_)
    have R4 := z4.rs R3 r64
    (try simp only [(RS.ok R4), (RS.fr R4), true_and, and_true, true_or, or_true])
    refine c194 R4 b4 (by omega) (fun h5 z5 b5 => ?_)
    have R5 := z5.rs R4 r64
    simp only [(RS.ok R5), (RS.fr R5), true_and, and_true, true_or, or_true, b5.1, rI_s]
    exact hK h5 (hI.tx hC ((z1.tr (z2.tr (z3.tr (z4.tr z5)))).wd (by decide) (by decide)) b5)
  · rw [if_neg c] at hK
    rw [if_neg (by rw [show ii 400 = ii (400 : Int) from rfl, ii_le (by omega) (by omega) (by omega) (by omega)]; omega), rI_s]
    exact hK h hI
theorem c195 (hI : RI h s) (hC : CsI s) (hx : i32 x) (hK : ∀ h1, RI h1 (sTx s (cs_B s) (aEnd (cs_n s) x).2) → K (ii (aEnd (cs_n s) x).1) h1) : GoCi (d + 1) 195 [.ref 148, .int (ii x)] h K := by
  have hR := hI.1.1
  have hB := hI.2.1
  have n4 := hB.2.1
  unfold aEnd at hK
  rw [e195, b195_0]
  simp only [(RS.ok hR), (RS.fr hR), true_and, and_true, true_or, or_true, hR.op, hB.1, rI_s]
  by_cases c0 : x < 0
  · rw [if_pos (by rw [show ii 0 = ii (0 : Int) from rfl, ii_lt hx.1 hx.2 (by omega) (by omega)]; omega)]
    rw [if_neg (by omega)] at hK
    exact hK h hI
  · rw [if_neg (by rw [show ii 0 = ii (0 : Int) from rfl, ii_lt hx.1 hx.2 (by omega) (by omega)]; omega)]
    by_cases c1 : x ≤ cs_n s
    · rw [if_pos (by rw [ii_le hx.1 hx.2 (by omega) (by omega)]; omega)]
      rw [if_pos (by omega)] at hK
      obtain ⟨k, rfl⟩ := nat_of (show 0 ≤ x by omega)
      have y := RF.sF (x := ii (k : Nat)) hR.t27
      refine hK _ (hI.tx hC (y.1.wd (by decide) (by decide)) ⟨y.2, by show k ≤ 400; omega, fun i hi => ?_⟩)
      have hi : i < k := hi
      rw [xA_sF]
      exact hB.2.2 i (by omega)
    · rw [if_neg (by rw [ii_le hx.1 hx.2 (by omega) (by omega)]; omega)]
      rw [if_neg (by omega)] at hK
      exact hK h hI
/-- only a trial or the draw's number changes -/
theorem RI.p9 {t' : List (Nat × Bool)} {x' : Nat} (hI : RI h s) (hC : CsI s) (z : RF [] [149, 161, 162] h h1) (e : ∀ i, ¬ i = 7 → ¬ i = 8 → xA h1 149 i = xA h 149 i) (t : RTr (lv h1) t') (hx : xA h1 149 8 = ii (x' : Nat)) : RI h1 (sPg s (pg_l (cs_P s), pg_m (cs_P s), pg_u (cs_P s), t', x')) := by
  have hP := hI.2.2.2.2.1
  refine hI.pg hC (z.wd (by decide) (by decide)) (fun i _ => by rw [z.ae (by decide) (by decide)]) ⟨RLd_cong hP.1 hC.1.1 (fun i _ _ a b _ => e i a b) (fun r i a _ _ _ => z.lv (by omega) (by
    intro g
    rcases List.mem_cons.mp g with q | g
    · omega
    rcases List.mem_cons.mp g with q | g
    · omega
    have := List.mem_singleton.mp g
    omega) i), ?_, RPa_sc hP.2.2.1 z (by decide) (by decide), t, hx⟩
  exact RMo_cong hP.2.1 hC.1.1.2.2.1 (e 6 (by decide) (by decide)) (e 1 (by decide) (by decide)) (fun q _ => ⟨z.lv (by decide) (by decide) q, z.lv (by decide) (by decide) q, z.lv (by decide) (by decide) q⟩) (fun j _ => z.lv (by decide) (by decide) j)
theorem c308 (hI : RI h s) (hC : CsI s) (hx : i32 x) (hK : ∀ h1, RI h1 (sPg s (aSeed (cs_P s) x).2) → K (ii (aSeed (cs_P s) x).1) h1) : GoCi (d + 1) 308 [.ref 148, .int (ii x)] h K := by
  have hR := hI.1.1
  have hP := hI.2.2.2.2.1
  have p8 : xA h 149 8 = ii (pg_x (cs_P s) : Nat) := hP.2.2.2.2
  unfold aSeed at hK
  rw [e308, b308_0]
  simp only [(RS.ok hR), (RS.fr hR), true_and, and_true, true_or, or_true, hR.l149, p8, rI_s]
  by_cases c0 : 0 ≤ x
  · rw [if_pos (by rw [show ii 0 = ii (0 : Int) from rfl, ii_le (by omega) (by omega) hx.1 hx.2]; omega)]
    rw [if_pos c0] at hK
    obtain ⟨k, rfl⟩ := nat_of c0
    refine ⟨by decide, ?_⟩
    have e8 : ∀ r, xA (sI h 149 (ii 8) (ii (k : Nat))) r = if 149 = r then upf (xA h 149) 8 (ii (k : Nat)) else xA h r := fun r => hR.s149 (i := 8) (by decide)
    refine hK _ (hI.p9 hC (RF.sI.wd (by decide) (by decide)) (fun i _ i8 => by rw [e8, if_pos rfl]; unfold upf; rw [if_neg i8]) ⟨?_, hP.2.2.2.1.2.1, fun i hi => ?_⟩ ?_)
    · show xA _ 149 7 = _
      rw [e8, if_pos rfl]; unfold upf; rw [if_neg (by decide)]
      exact hP.2.2.2.1.1
    · rw [lv_x (by decide), lv_x (by decide), e8, e8, if_neg (by decide), if_neg (by decide)]
      exact hP.2.2.2.1.2.2 i hi
    · rw [e8, if_pos rfl]; unfold upf; rw [if_pos rfl]
      rfl
  · rw [if_neg (by rw [show ii 0 = ii (0 : Int) from rfl, ii_le (by omega) (by omega) hx.1 hx.2]; omega)]
    rw [if_neg c0] at hK
    exact hK h hI
theorem c303 (hI : RI h s) (hC : CsI s) (hx : i32 x) {f : Bool} (hK : ∀ h1, RI h1 (sPg s (aTri (cs_P s) (cs_S s) x f).2) → K (ii (aTri (cs_P s) (cs_S s) x f).1) h1) : GoCi (d + 3) 303 [.ref 148, .int (ii x), .int (if f = true then ii 1 else ii 0)] h K := by
  have W := hI.w hC
  have hR := hI.1.1
  have hP := hI.2.2.2.2.1
  have s24 := W.s24
  have p7 : xA h 149 7 = ii ((pg_t (cs_P s)).length : Nat) := hP.2.2.2.1.1
  have p8 : xA h 149 8 = ii (pg_x (cs_P s) : Nat) := hP.2.2.2.2
  have t10 := hP.2.2.2.1.2.1
  unfold aTri at hK
  rw [e303, b303_0]
  have e7 : ∀ (H : mHeap), RS H → ∀ (v : Int32) r, xA (sI H 149 (ii 7) v) r = if 149 = r then upf (xA H 149) 7 v else xA H r := fun H hH v r => hH.s149 (i := 7) (by decide)
  by_cases c0 : x = -1
  · rw [if_pos c0] at hK
    rw [if_neg (by rw [c0]; exact fun n => n rfl)]
    simp only [(RS.ok hR), (RS.fr hR), true_and, and_true, true_or, or_true, hR.l149, rI_s]
    refine ⟨by decide, hK _ (hI.p9 hC (RF.sI.wd (by decide) (by decide)) (fun i i7 _ => by rw [e7 h hR, if_pos rfl]; unfold upf; rw [if_neg i7]) ⟨?_, by decide, fun i hi => absurd hi (Nat.not_lt_zero _)⟩ ?_)⟩
    · show xA _ 149 7 = _
      rw [e7 h hR, if_pos rfl]; unfold upf; rw [if_pos rfl]; rfl
    · rw [e7 h hR, if_pos rfl]; unfold upf; rw [if_neg (by decide)]; exact p8
  · rw [if_neg c0] at hK
    rw [if_pos (by rw [show ii (-1) = ii (-1 : Int) from rfl, ii_eq hx.1 hx.2 (by omega) (by omega)]; exact c0)]
    simp only [(RS.ok hR), (RS.fr hR), true_and, and_true, true_or, or_true, hR.l149, p7]
    rw [c190 W hx]
    by_cases c : 0 ≤ x ∧ x < (cs_S s).length
    · rw [if_pos c, if_neg (by decide)]
      (try simp only [(RS.ok hR), (RS.fr hR), true_and, and_true, true_or, or_true])
      rw [c186 W]
      by_cases c2 : 0 < ld_n (pg_l (cs_P s))
      · rw [if_pos c2, if_neg (by decide)]
        by_cases c3 : (pg_t (cs_P s)).length = 10
        · rw [if_neg (by rw [c3]; exact fun n => n rfl), rI_s]
          rw [if_neg (by omega)] at hK
          exact hK h hI
        · rw [if_pos (by rw [show ii 10 = ii (10 : Int) from rfl, ii_eq (by omega) (by omega) (by omega) (by omega)]; omega)]
          rw [if_pos (⟨⟨c, c2⟩, by omega⟩ : (isSa (cs_S s) x ∧ 0 < ld_n (pg_l (cs_P s))) ∧ (pg_t (cs_P s)).length < 10)] at hK
          obtain ⟨k, rfl⟩ := nat_of c.1
          have hR1 : RS (sI h 161 (ii ((pg_t (cs_P s)).length : Nat)) (ii (k : Nat))) := hR.si (by decide)
          have a1 : ∀ r, xA (sI h 161 (ii ((pg_t (cs_P s)).length : Nat)) (ii (k : Nat))) r = if 161 = r then upf (xA h 161) (pg_t (cs_P s)).length (ii (k : Nat)) else xA h r := fun r => hR.s161 (by omega)
          have z1 : RF [] [161] h (sI h 161 (ii ((pg_t (cs_P s)).length : Nat)) (ii (k : Nat))) := RF.sI
          simp only [(RS.ok hR), (RS.fr hR), true_and, and_true, true_or, or_true, hR.x161 (show (pg_t (cs_P s)).length < 10 by omega), (RS.ok hR1), (RS.fr hR1), true_and, and_true, true_or, or_true]
          refine ⟨by decide, ?_⟩
          generalize sI h 161 (ii ((pg_t (cs_P s)).length : Nat)) (ii (k : Nat)) = H at *
          have fin : ∀ l1 l2, Go (d + 2) 303 68 [some (.ref 148), l1, l2, some (.int (ii ((pg_t (cs_P s)).length : Nat)))] [.int (if f = true then ii 1 else ii 0), .int (ii ((pg_t (cs_P s)).length : Nat)), .ref 162] H (rI K) := fun l1 l2 => by
            have hR2 : RS (sI H 162 (ii ((pg_t (cs_P s)).length : Nat)) (if f = true then ii 1 else ii 0)) := hR1.si (by decide)
            have a2 : ∀ r, xA (sI H 162 (ii ((pg_t (cs_P s)).length : Nat)) (if f = true then ii 1 else ii 0)) r = if 162 = r then upf (xA H 162) (pg_t (cs_P s)).length (if f = true then ii 1 else ii 0) else xA H r := fun r => hR1.s162 (by omega)
            have z2 : RF [] [162] H (sI H 162 (ii ((pg_t (cs_P s)).length : Nat)) (if f = true then ii 1 else ii 0)) := RF.sI
            have o162 := hR1.x162 (show (pg_t (cs_P s)).length < 10 by omega)
            rw [b303_68]
            generalize sI H 162 (ii ((pg_t (cs_P s)).length : Nat)) (if f = true then ii 1 else ii 0) = H2 at *
            have g7 : xA H2 149 7 = ii ((pg_t (cs_P s)).length : Nat) := by rw [a2, if_neg (by decide), a1, if_neg (by decide)]; exact p7
            simp only [(RS.ok hR2), (RS.fr hR2), true_and, and_true, true_or, or_true, hR2.l149, g7, o162, rI_s]
            refine ⟨by decide, by decide, ?_⟩
            rw [show ii ((pg_t (cs_P s)).length : Nat) + ii 1 = ii (((pg_t (cs_P s)).length + 1 : Nat) : Int) from ii_add _ _]
            have z3 : RF [] [149] H2 (sI H2 149 (ii 7) (ii (((pg_t (cs_P s)).length + 1 : Nat) : Int))) := RF.sI
            have e0 := e7 H2 hR2 (ii (((pg_t (cs_P s)).length + 1 : Nat) : Int))
            refine hK _ (hI.p9 hC ((z1.wd (by decide) (by decide)).tr ((z2.wd (by decide) (by decide)).tr (z3.wd (by decide) (by decide)))) (fun i i7 _ => ?_) ⟨?_, ?_, fun i hi => ?_⟩ ?_)
            · rw [e0, if_pos rfl]; unfold upf; rw [if_neg i7, a2, if_neg (by decide), a1, if_neg (by decide)]
            · show xA _ 149 7 = _
              rw [e0, if_pos rfl]; unfold upf; rw [if_pos rfl, List.length_append, List.length_singleton]
            · rw [List.length_append, List.length_singleton]; omega
            · rw [List.length_append, List.length_singleton] at hi
              rw [lv_x (by decide), lv_x (by decide), e0, e0, if_neg (by decide), if_neg (by decide), a2, a2, if_neg (by decide), if_pos rfl, a1, a1, if_pos rfl, if_neg (by decide), getD_app]
              unfold upf
              by_cases c5 : i = (pg_t (cs_P s)).length
              · rw [if_pos c5, if_pos c5, if_pos c5]
                exact ⟨rfl, by cases f <;> rfl⟩
              · rw [if_neg c5, if_neg c5, if_neg c5, if_pos (by omega)]
                exact hP.2.2.2.1.2.2 i (by omega)
            · rw [e0, if_pos rfl]; unfold upf; rw [if_neg (by decide), a2, if_neg (by decide), a1, if_neg (by decide)]; exact p8
          cases f with
          | true => rw [if_neg (by decide)]; exact fin _ _
          | false => rw [if_pos (by decide)]; exact fin _ _
      · rw [if_neg c2, if_pos rfl, rI_s]
        rw [if_neg (fun g => c2 g.1.2)] at hK
        exact hK h hI
    · rw [if_neg c, if_pos rfl, rI_s]
      rw [if_neg (fun g => c g.1.1)] at hK
      exact hK h hI
end Rz
