/-! THE REFERENCE: images -/
def Cv (h h' : mHeap) (k : Nat) (b : Bool) (j : Nat) : Prop := RF [59, 75, 76] (192 :: 200 :: pgR) h h' ∧ fI h' 148 76 = (if b = true then ii 1 else ii 0) ∧ fI h' 148 75 = ii ((1760 * k + j : Nat) : Int) ∧ (∀ i, (i < 1760 * k ∨ 1760 * k + j ≤ i) → xA h' 200 i = xA h 200 i) ∧ (b = false → (∀ r ∈ pgR, xA h' r = xA h r) ∧ fI h' 148 59 = fI h 148 59 ∧ xA h' 200 (1760 * k) = fI h 148 59 ∧ ∀ r ∈ pgR, ∀ i, i < sz r → ofs r + i < j → xA h' 200 (1760 * k + (ofs r + i)) = xA h r i) ∧ (b = true → xA h' 200 = xA h 200 ∧ fI h' 148 59 = xA h 200 (1760 * k) ∧ ∀ r ∈ pgR, ∀ i, i < sz r → ofs r + i < j → xA h' r i = xA h 200 (1760 * k + (ofs r + i)))
section Ru2
variable {d : Nat} {h h1 h2 : mHeap} {l : Ld} {m : Mo} {S : List Wd} {P Q : Pg} {s : Cs} {a k n p j : Nat} {b : Bool} {x y z : Int}
theorem c313 {K : mHeap → Prop} (hR : RS h) (ha : kd h a = (1, 1, [n])) (h64 : 64 ≤ a) (n1 : ¬ a = 148) (n2 : ¬ a = 200) (h76 : fI h 148 76 = if b = true then ii 1 else ii 0) (h75 : fI h 148 75 = ii (p : Nat)) (hp : p + n ≤ 8800) (hK : ∀ h1, RF [75] [200, a] h h1 → fI h1 148 75 = ii ((p + n : Nat) : Int) → (∀ i, xA h1 200 i = if b = false ∧ p ≤ i ∧ i < p + n then xA h a (i - p) else xA h 200 i) → (∀ i, xA h1 a i = if b = true ∧ i < n then xA h 200 (p + i) else xA h a i) → K h1) : GoCv (d + 1) 313 [.ref 148, .ref a] h K := by
  rw [e313, b313_0]
  refine Go_loop (fun k L h' => L = [some (.ref 148), some (.ref a), some (.int (ii (k : Nat)))] ∧ RF [75] [200, a] h h' ∧ fI h' 148 75 = ii ((p + k : Nat) : Int) ∧ (∀ i, xA h' 200 i = if b = false ∧ p ≤ i ∧ i < p + k then xA h a (i - p) else xA h 200 i) ∧ ∀ i, xA h' a i = if b = true ∧ i < k then xA h 200 (p + i) else xA h a i) n ?_ ?_ 0 _ h (Nat.zero_le _) ⟨rfl, RF.rf, h75, fun i => by rw [if_neg (by omega)], fun i => by rw [if_neg (by omega)]⟩
  · rintro k L h' hk ⟨rfl, z, f75, x1, x2⟩ nx
    have ka : kd h' a = (1, 1, [n]) := by rw [z.1.1]; exact ha
    have r64 : ∀ c ∈ [200, a], 64 ≤ c := fun c hc => by
      rcases List.mem_cons.mp hc with q | q
      · rw [q]; decide
      · rw [List.mem_singleton.mp q]; exact h64
    have hR' : RS h' := z.rs hR r64
    have r0 := row_ok (h := h') (c := a) (n := n) (p := k) ka hk (by omega)
    have ip : p + k < 8800 := by omega
    rw [b313_2]
    simp only [okL_kd, nL_kd, ka, lnK, List.headD_cons]
    refine ⟨by decide, ?_⟩
    rw [if_neg (show ¬ (1 : Nat) = 4 by decide), if_neg (by rw [ii_le (by omega) (by omega) (by omega) (by omega)]; omega)]
    have f76 : fI h' 148 76 = if b = true then ii 1 else ii 0 := by rw [z.fe (by decide)]; exact h76
    simp only [(RS.ok hR'), (RS.fr hR'), true_and, and_true, true_or, or_true, f75, f76, r0, hR'.x200 ip]
    have fin : ∀ h2, RF [] [200, a] h' h2 → (∀ i, xA h2 200 i = if b = false ∧ p ≤ i ∧ i < p + (k + 1) then xA h a (i - p) else xA h 200 i) → (∀ i, xA h2 a i = if b = true ∧ i < k + 1 then xA h 200 (p + i) else xA h a i) → Go d 313 42 [some (.ref 148), some (.ref a), some (.int (ii (k : Nat)))] [] h2 (rV K) := fun h2 z2 y1 y2 => by
      have hR2 : RS h2 := z2.rs hR' r64
      have t75 : tgK (kd h2 148) 75 = some 0 := hR2.tg.2.2.2.2.2.2.2.2.2.2.2.2.2.2.2.2.2.2.2.2.2.1
      have g75 : fI h2 148 75 = ii ((p + k : Nat) : Int) := by rw [z2.fe (by decide)]; exact f75
      have y := RF.sF (x := ii ((p + (k + 1) : Nat) : Int)) t75
      rw [b313_42]
      simp only [(RS.ok hR2), (RS.fr hR2), true_and, and_true, true_or, or_true, hR2.op, g75]
      rw [show ii (k : Nat) + ii 1 = ii ((k + 1 : Nat) : Int) from ii_add _ _, show ii ((p + k : Nat) : Int) + ii 1 = ii ((p + (k + 1) : Nat) : Int) from ii_add _ _]
      refine nx _ _ ⟨rfl, z.tr ((z2.wd (by decide) (fun _ g => g)).tr (y.1.wd (fun _ g => g) (fun _ g => by cases g))), y.2, fun i => ?_, fun i => ?_⟩
      · rw [xA_sF]; exact y1 i
      · rw [xA_sF]; exact y2 i
    cases b with
    | true =>
      rw [if_neg (by decide)]
      refine ⟨h64, ?_⟩
      have v0 : xA h' 200 (p + k) = xA h 200 (p + k) := by rw [x1, if_neg (fun g => by cases g.1)]
      refine fin _ (RF.sI.wd (fun _ g => g) (fun c hc => by rw [List.mem_singleton.mp hc]; exact List.mem_cons_of_mem _ (List.mem_singleton.mpr rfl))) (fun i => ?_) (fun i => ?_)
      · rw [xA_sI_o n2, x1, if_neg (fun g => by cases g.1), if_neg (fun g => by cases g.1)]
      · rw [sI_row ka hk (by omega), if_pos rfl]
        unfold upf
        by_cases c : i = k
        · rw [if_pos c, if_pos ⟨rfl, by omega⟩, v0, c]
        · rw [if_neg c, x2]
          by_cases q : true = true ∧ i < k
          · rw [if_pos q, if_pos ⟨rfl, by omega⟩]
          · rw [if_neg q, if_neg (fun g => q ⟨rfl, by omega⟩)]
    | false =>
      rw [if_pos (by decide)]
      refine ⟨by decide, ?_⟩
      have v0 : xA h' a k = xA h a k := by rw [x2, if_neg (fun g => by cases g.1)]
      refine fin _ (RF.sI.wd (fun _ g => g) (fun c hc => by rw [List.mem_singleton.mp hc]; exact List.mem_cons_self)) (fun i => ?_) (fun i => ?_)
      · rw [hR'.s200 ip, if_pos rfl]
        unfold upf
        by_cases c : i = p + k
        · rw [if_pos c, if_pos ⟨rfl, by omega, by omega⟩, v0]
          exact congrArg _ (by omega)
        · rw [if_neg c, x1]
          by_cases q : false = false ∧ p ≤ i ∧ i < p + k
          · rw [if_pos q, if_pos ⟨rfl, q.2.1, by omega⟩]
          · rw [if_neg q, if_neg (fun g => q ⟨rfl, g.2.1, by omega⟩)]
      · rw [xA_sI_o (fun e => n2 e.symm), x2, if_neg (fun g => by cases g.1), if_neg (fun g => by cases g.1)]
  · rintro L h' ⟨rfl, z, f75, x1, x2⟩
    have ka : kd h' a = (1, 1, [n]) := by rw [z.1.1]; exact ha
    rw [b313_2]
    simp only [okL_kd, nL_kd, ka, lnK, List.headD_cons]
    refine ⟨by decide, ?_⟩
    rw [if_neg (show ¬ (1 : Nat) = 4 by decide), if_pos (Int32.le_refl _), rV_s]
    exact hK _ z f75 x1 x2
theorem Cv.row {h' : mHeap} (C : Cv h h' k b (ofs a)) (ha : a ∈ pgR) (z : RF [75] [200, a] h' h2) (f75 : fI h2 148 75 = ii ((1760 * k + ofs a + sz a : Nat) : Int)) (x1 : ∀ i, xA h2 200 i = if b = false ∧ 1760 * k + ofs a ≤ i ∧ i < 1760 * k + ofs a + sz a then xA h' a (i - (1760 * k + ofs a)) else xA h' 200 i) (x2 : ∀ i, xA h2 a i = if b = true ∧ i < sz a then xA h' 200 (1760 * k + ofs a + i) else xA h' a i) : Cv h h2 k b (ofs a + sz a) := by
  obtain ⟨c1, c2, c3, c4, c5, c6⟩ := C
  obtain ⟨⟨a1, a2, a3, a4⟩, ad⟩ := ofs_d a ha
  have oth : ∀ r ∈ pgR, ¬ r = a → xA h2 r = xA h' r := fun r hr hn => z.ae (by
    have := (ofs_d r hr).1; omega) (fun hc => by
    have := (ofs_d r hr).1
    rcases List.mem_cons.mp hc with q | q
    · omega
    · exact hn (List.mem_singleton.mp q))
  refine ⟨c1.tr (z.wd (by decide) (fun r hr => ?_)), by rw [z.fe (by decide)]; exact c2, by rw [f75]; exact congrArg (fun t : Nat => ii (t : Int)) (by omega), fun i hi => ?_, fun hb => ?_, fun hb => ?_⟩
  · rcases List.mem_cons.mp hr with q | q
    · rw [q]; decide
    · rw [List.mem_singleton.mp q]
      exact List.mem_cons_of_mem _ (List.mem_cons_of_mem _ ha)
  · rw [x1, if_neg (by omega)]
    exact c4 i (by omega)
  · obtain ⟨d1, d2, d3, d4⟩ := c5 hb
    refine ⟨fun r hr => ?_, by rw [z.fe (by decide)]; exact d2, by rw [x1, if_neg (by omega)]; exact d3, fun r hr i hi ho => ?_⟩
    · by_cases c : r = a
      · subst c
        funext i
        rw [x2, if_neg (fun w => by rw [hb] at w; cases w.1)]
        exact congrFun (d1 r hr) i
      · rw [oth r hr c]; exact d1 r hr
    · by_cases c : r = a
      · subst c
        rw [x1, if_pos ⟨hb, by omega, by omega⟩, show 1760 * k + (ofs r + i) - (1760 * k + ofs r) = i by omega]
        exact congrFun (d1 r hr) i
      · have := ad r hr c
        rw [x1, if_neg (by omega)]
        exact d4 r hr i hi (by omega)
  · obtain ⟨d1, d2, d3⟩ := c6 hb
    refine ⟨?_, by rw [z.fe (by decide)]; exact d2, fun r hr i hi ho => ?_⟩
    · funext i
      rw [x1, if_neg (fun w => by rw [hb] at w; cases w.1), d1]
    · by_cases c : r = a
      · subst c
        rw [x2, if_pos ⟨hb, hi⟩, d1]
        exact congrArg _ (by omega)
      · have := ad r hr c
        rw [oth r hr c]
        exact d3 r hr i hi (by omega)
theorem Cv.rs {h' : mHeap} (C : Cv h h' k b j) (hR : RS h) : RS h' := C.1.rs hR (by decide)
theorem c314 {K : mHeap → Prop} (hR : RS h) (hk : k < 5) (hK : ∀ h1, Cv h h1 k b 1688 → K h1) : GoCv (d + 2) 314 [.ref 148, .int (ii (k : Nat)), .int (if b = true then ii 1 else ii 0)] h K := by
  have b01 : ((if b = true then ii 1 else ii 0) = ii 0 ∨ (if b = true then ii 1 else ii 0) = ii 1) := by cases b <;> decide
  rw [e314, b314_0]
  have e0 : ii 1760 * ii (k : Nat) = ii ((1760 * k : Nat) : Int) := by rw [ii_mul]; exact congrArg ii (by omega)
  rw [e0]
  have s1 := RF.sF (h := h) (k := 75) (x := ii ((1760 * k : Nat) : Int)) hR.tg.2.2.2.2.2.2.2.2.2.2.2.2.2.2.2.2.2.2.2.2.2.1
  have hR1 : RS (sF h 148 75 (.int (ii ((1760 * k : Nat) : Int)))) := hR.sf hR.tg.2.2.2.2.2.2.2.2.2.2.2.2.2.2.2.2.2.2.2.2.2.1
  have s2 := RF.sF (h := sF h 148 75 (.int (ii ((1760 * k : Nat) : Int)))) (k := 76) (x := if b = true then ii 1 else ii 0) hR1.tg.2.2.2.2.2.2.2.2.2.2.2.2.2.2.2.2.2.2.2.2.2.2
  have hR2 : RS (sF (sF h 148 75 (.int (ii ((1760 * k : Nat) : Int)))) 148 76 (.int (if b = true then ii 1 else ii 0))) := hR1.sf hR1.tg.2.2.2.2.2.2.2.2.2.2.2.2.2.2.2.2.2.2.2.2.2.2
  have z0 : RF [75, 76] [] h (sF (sF h 148 75 (.int (ii ((1760 * k : Nat) : Int)))) 148 76 (.int (if b = true then ii 1 else ii 0))) := (s1.1.wd (by decide) (by decide)).tr (s2.1.wd (by decide) (by decide))
  have f75 : fI (sF (sF h 148 75 (.int (ii ((1760 * k : Nat) : Int)))) 148 76 (.int (if b = true then ii 1 else ii 0))) 148 75 = ii ((1760 * k : Nat) : Int) := by rw [s2.1.fe (by decide)]; exact s1.2
  have f76 := s2.2
  generalize sF (sF h 148 75 (.int (ii ((1760 * k : Nat) : Int)))) 148 76 (.int (if b = true then ii 1 else ii 0)) = H at *
  have hR3 : RS (sI H 192 (ii 0) (fI H 148 59)) := hR2.si (by decide)
  have k192 : okA H 192 .int (ii 0) := (hR2.x192 (i := 0) (by decide)).1
  have e192 : ∀ r, xA (sI H 192 (ii 0) (fI H 148 59)) r = if 192 = r then upf (xA H 192) 0 (fI H 148 59) else xA H r := fun r => hR2.s192 (i := 0) (by decide)
  simp only [hR.op, hR1.op, (RS.ok hR2), (RS.fr hR2), true_and, and_true, true_or, or_true, b01, k192, (RS.ok hR3), (RS.fr hR3), true_and, and_true, true_or, or_true]
  refine ⟨by decide, ?_⟩
  have z1 : RF [] [192] H (sI H 192 (ii 0) (fI H 148 59)) := RF.sI
  have g59 : fI H 148 59 = fI h 148 59 := z0.fe (by decide)
  refine c313 (b := b) (p := 1760 * k) hR3 hR3.k192 (by decide) (by decide) (by decide) (by rw [fI_sI]; exact f76) (by rw [fI_sI]; exact f75) (by omega) (fun h1 y1 y2 y3 y4 => ?_)
  have hR4 : RS h1 := y1.rs hR3 (by decide)
  have o192 : okA h1 192 .int (ii 0) ∧ eI h1 192 (ii 0) = xA h1 192 0 := hR4.x192 (i := 0) (by decide)
  have t59 : tgK (kd h1 148) 59 = some 0 := hR4.tg.2.2.2.2.2.2.2.2.2.2.2.2.2.2.1
  have s3 := RF.sF (h := h1) (k := 59) (x := xA h1 192 0) t59
  have hR5 : RS (sF h1 148 59 (.int (xA h1 192 0))) := hR4.sf t59
  have C0 : Cv h (sF h1 148 59 (.int (xA h1 192 0))) k b 1 := by
    refine ⟨(z0.wd (by decide) (by decide)).tr ((z1.wd (by decide) (by decide)).tr ((y1.wd (by decide) (by decide)).tr (s3.1.wd (by decide) (by decide)))), by rw [s3.1.fe (by decide), y1.fe (by decide), fI_sI]; exact f76, by rw [s3.1.fe (by decide)]; exact y2, fun i hi => ?_, fun hb => ⟨fun r hr => ?_, ?_, ?_, fun r hr i hi ho => ?_⟩, fun hb => ⟨?_, ?_, fun r hr i hi ho => ?_⟩⟩
    · rw [xA_sF, y3, if_neg (by omega), e192, if_neg (by decide), z0.ae (by decide) (by decide)]
    · have := (ofs_d r hr).1
      rw [xA_sF, y1.ae (by omega) (fun hc => by
        rcases List.mem_cons.mp hc with q | q
        · omega
        · have := List.mem_singleton.mp q; omega), e192, if_neg (by omega), z0.ae (by omega) (fun hc => by cases hc)]
    · rw [s3.2, y4, if_neg (fun w => by rw [hb] at w; cases w.1), e192, if_pos rfl]
      unfold upf
      rw [if_pos rfl, g59]
    · rw [xA_sF, y3, if_pos ⟨hb, by omega, by omega⟩, e192, if_pos rfl]
      unfold upf
      rw [if_pos (by omega), g59]
    · exact absurd ho (by have := (ofs_d r hr).1; omega)
    · rw [xA_sF]
      funext i
      rw [y3, if_neg (fun w => by rw [hb] at w; cases w.1), e192, if_neg (by decide), z0.ae (by decide) (by decide)]
    · rw [s3.2, y4, if_pos ⟨hb, by decide⟩, e192, if_neg (by decide), z0.ae (by decide) (by decide)]
      rfl
    · exact absurd ho (by have := (ofs_d r hr).1; omega)
  simp only [(RS.ok hR4), (RS.fr hR4), true_and, and_true, true_or, or_true, hR4.op, o192, (RS.ok hR5), (RS.fr hR5), true_and, and_true, true_or, or_true]
  generalize sF h1 148 59 (.int (xA h1 192 0)) = H1 at *
  have nxt : ∀ {h' : mHeap} {a : Nat} {K' : mHeap → Prop}, Cv h h' k b (ofs a) → a ∈ pgR → kd h' a = (1, 1, [sz a]) → ofs a + sz a ≤ 1688 → (∀ h2, Cv h h2 k b (ofs a + sz a) → K' h2) → GoCv (d + 1) 313 [.ref 148, .ref a] h' K' := fun {h' a K'} C ha hk' hs hG => by
    have aa := (ofs_d a ha).1
    refine c313 (b := b) (p := 1760 * k + ofs a) (C.rs hR) hk' (by omega) (by omega) (by omega) C.2.1 C.2.2.1 (by omega) (fun h2 w1 w2 w3 w4 => hG h2 (C.row ha w1 w2 w3 w4))
  refine nxt (a := 149) C0 (by decide) hR5.k149 (by decide) (fun g1 D1 => ?_)
  have q1 := D1.rs hR
  (try simp only [(RS.ok q1), (RS.fr q1), true_and, and_true, true_or, or_true])
  refine nxt (a := 150) D1 (by decide) q1.k150 (by decide) (fun g2 D2 => ?_)
  have q2 := D2.rs hR
  (try simp only [(RS.ok q2), (RS.fr q2), true_and, and_true, true_or, or_true])
  refine nxt (a := 151) D2 (by decide) q2.k151 (by decide) (fun g3 D3 => ?_)
  have q3 := D3.rs hR
  (try simp only [(RS.ok q3), (RS.fr q3), true_and, and_true, true_or, or_true])
  refine nxt (a := 152) D3 (by decide) q3.k152 (by decide) (fun g4 D4 => ?_)
  have q4 := D4.rs hR
  (try simp only [(RS.ok q4), (RS.fr q4), true_and, and_true, true_or, or_true])
  refine nxt (a := 153) D4 (by decide) q4.k153 (by decide) (fun g5 D5 => ?_)
  have q5 := D5.rs hR
  (try simp only [(RS.ok q5), (RS.fr q5), true_and, and_true, true_or, or_true])
  refine nxt (a := 154) D5 (by decide) q5.k154 (by decide) (fun g6 D6 => ?_)
  have q6 := D6.rs hR
  (try simp only [(RS.ok q6), (RS.fr q6), true_and, and_true, true_or, or_true])
  refine nxt (a := 155) D6 (by decide) q6.k155 (by decide) (fun g7 D7 => ?_)
  have q7 := D7.rs hR
  (try simp only [(RS.ok q7), (RS.fr q7), true_and, and_true, true_or, or_true])
  refine nxt (a := 156) D7 (by decide) q7.k156 (by decide) (fun g8 D8 => ?_)
  have q8 := D8.rs hR
  (try simp only [(RS.ok q8), (RS.fr q8), true_and, and_true, true_or, or_true])
  refine nxt (a := 157) D8 (by decide) q8.k157 (by decide) (fun g9 D9 => ?_)
  have q9 := D9.rs hR
  (try simp only [(RS.ok q9), (RS.fr q9), true_and, and_true, true_or, or_true])
  refine nxt (a := 158) D9 (by decide) q9.k158 (by decide) (fun g10 D10 => ?_)
  have q10 := D10.rs hR
  (try simp only [(RS.ok q10), (RS.fr q10), true_and, and_true, true_or, or_true])
  refine nxt (a := 159) D10 (by decide) q10.k159 (by decide) (fun g11 D11 => ?_)
  have q11 := D11.rs hR
  (try simp only [(RS.ok q11), (RS.fr q11), true_and, and_true, true_or, or_true])
  refine nxt (a := 160) D11 (by decide) q11.k160 (by decide) (fun g12 D12 => ?_)
  have q12 := D12.rs hR
  (try simp only [(RS.ok q12), (RS.fr q12), true_and, and_true, true_or, or_true])
  refine nxt (a := 161) D12 (by decide) q12.k161 (by decide) (fun g13 D13 => ?_)
  have q13 := D13.rs hR
  (try simp only [(RS.ok q13), (RS.fr q13), true_and, and_true, true_or, or_true])
  refine nxt (a := 162) D13 (by decide) q13.k162 (by decide) (fun g14 D14 => ?_)
  have q14 := D14.rs hR
  (try simp only [(RS.ok q14), (RS.fr q14), true_and, and_true, true_or, or_true])
  refine nxt (a := 163) D14 (by decide) q14.k163 (by decide) (fun g15 D15 => ?_)
  have q15 := D15.rs hR
  (try simp only [(RS.ok q15), (RS.fr q15), true_and, and_true, true_or, or_true])
  refine nxt (a := 191) D15 (by decide) q15.k191 (by decide) (fun g16 D16 => ?_)
  rw [rV_s]
  exact hK g16 D16
theorem Cv.keep (C : Cv h h1 k false 1688) (hP : RPg (lv h) P) (ok : LdOk (pg_l P)) : RPg (iv h1 k) P := by
  obtain ⟨d1, d2, d3, d4⟩ := C.2.2.2.2.1 rfl
  refine RPg_cong hP ok ?_ (fun r i a b c e f g w => ?_)
  · rw [iv_at]
    exact d3
  · obtain ⟨w1, w2, w3⟩ := sz_in a b c e f g w
    rw [iv_at, lv_x (by omega)]
    exact d4 r w1 i w2 w3
theorem Cv.back (C : Cv h h1 k true 1688) (hP : RPg (iv h k) P) (ok : LdOk (pg_l P)) : RPg (lv h1) P := by
  obtain ⟨d1, d2, d3⟩ := C.2.2.2.2.2 rfl
  refine RPg_cong hP ok ?_ (fun r i a b c e f g w => ?_)
  · rw [iv_at]
    exact d2
  · obtain ⟨w1, w2, w3⟩ := sz_in a b c e f g w
    rw [iv_at, lv_x (by omega)]
    exact d3 r w1 i w2 w3
theorem RS.xB (hR : RS h) (hk : k < 4) : okB h 201 (ii (k : Nat)) ∧ eI h 201 (ii (k : Nat)) = xA h 201 k := by
  rw [okB_kd, hR.k201, eI_xA, ix_ii (by omega) (by omega)]
  refine ⟨⟨rfl, Or.inr rfl, fun g => ?_, ?_⟩, rfl⟩
  · rw [ii_lt0 (by omega) (by omega)] at g; omega
  · show ((k : Int).toNat) < 4
    omega
theorem RS.aT201 (hR : RS h) : aT h 201 = .boolean := by
  have e1 : (kd h 201).1 = 1 := by rw [hR.k201]
  have e2 := (kd1 e1).2
  rw [hR.k201] at e2
  have e3 : tyN (aT h 201) = 3 := by
    have := congrArg (fun t : mKd => t.2.1) e2
    exact this.symm
  exact tyN_bool.mp e3
theorem RS.sB1 (hR : RS h) (hk : k < 4) (r : Nat) : xA (sB h 201 (ii (k : Nat)) (ii 1)) r = if 201 = r then upf (xA h 201) k (ii 1) else xA h r := by
  have := xA_sI (h := h) (a := 201) (b := r) (j := ii (k : Nat)) (w := ii 1) (by rw [hR.k201]) (by rw [hR.k201, ix_ii (by omega) (by omega)]; show ((k : Int).toNat) < 4; omega)
  rw [ix_ii (by omega) (by omega), show ((k : Int)).toNat = k from rfl] at this
  unfold sB
  rw [hR.aT201, show vp_nar .boolean (ii 1) = ii 1 by decide]
  exact this
theorem c315 {K : Int32 → mHeap → Prop} (hI : RI h s) (hC : CsI s) (hx : i32 x) (hK : ∀ h1, RI h1 (sIm s (aImg s x).2) → K (ii (aImg s x).1) h1) : GoCi (d + 3) 315 [.ref 148, .int (ii x)] h K := by
  have hR := hI.1.1
  rw [e315, b315_0, show jj 0 = jj (0 : Int) from rfl, show jj 3 = jj (3 : Int) from rfl, cin2 hx (by decide) (by decide)]
  unfold aImg at hK
  by_cases c : 0 ≤ x ∧ x < 4
  · rw [if_pos (show 0 ≤ x ∧ x ≤ 3 by omega), if_pos (by decide)]
    rw [if_pos c] at hK
    obtain ⟨k, rfl⟩ := nat_of c.1
    have hk : k < 4 := by omega
    have z0 : RF [] [201] h (sB h 201 (ii (k : Nat)) (ii 1)) := RF.sB
    have hR1 : RS (sB h 201 (ii (k : Nat)) (ii 1)) := z0.rs hR (by decide)
    have e1 : ∀ r, xA (sB h 201 (ii (k : Nat)) (ii 1)) r = if 201 = r then upf (xA h 201) k (ii 1) else xA h r := hR.sB1 hk
    simp only [(RS.ok hR), (RS.fr hR), true_and, and_true, true_or, or_true, hR.xB hk, (RS.ok hR1), (RS.fr hR1), true_and, and_true, true_or, or_true]
    refine ⟨by decide, ?_⟩
    refine c314 (b := false) hR1 (by omega) (fun h1 C => ?_)
    have hR2 := C.rs hR1
    have zz : RF [59, 75, 76] (201 :: 192 :: 200 :: pgR) h h1 := (z0.wd (by decide) (by decide)).tr (C.1.wd (by decide) (by decide))
    obtain ⟨d1, d2, d3, d4⟩ := C.2.2.2.2.1 rfl
    have rows : ∀ r ∈ pgR, xA h1 r = xA h r := fun r hr => by
      have := (ofs_d r hr).1
      have n201 : ¬ 201 = r := (by decide : ∀ r ∈ pgR, ¬ 201 = r) r hr
      rw [d1 r hr, e1, if_neg n201]
    have f59 : fI h1 148 59 = fI h 148 59 := by rw [d2, z0.fe (by decide)]
    have hP : RPg (lv h1) (cs_P s) := RPg_cong hI.2.2.2.2.1 hC.1.1 f59 (fun r i a b c e f g w => by
      have := (sz_in a b c e f g w).1
      rw [lv_x (by omega), lv_x (by omega), rows r this])
    have W1 : xA h1 149 6 = ii (mo_d (pg_m (cs_P s)) : Nat) := hP.2.1.1.1
    simp only [(RS.ok hR2), (RS.fr hR2), true_and, and_true, true_or, or_true, hR2.l149, W1, rI_s]
    refine hK h1 ?_
    have hPP := hI.2.2.2.2.1
    obtain ⟨⟨a1, a2⟩, b, c', f, _, g⟩ := hI
    refine ⟨⟨hR2, by rw [zz.fe (by decide)]; exact a2⟩, ⟨by rw [zz.fe (by decide)]; exact b.1, b.2.1, fun i hi => by rw [zz.ae (by decide) (by decide)]; exact b.2.2 i hi⟩, ⟨by rw [zz.fe (by decide)]; exact c'.1, c'.2.1, fun k hk => by rw [zz.ae (by decide) (by decide)]; exact c'.2.2 k hk⟩, ⟨by rw [zz.fe (by decide)]; exact f.1, f.2.1, fun k hk => RRr_eq (f.2.2 k hk) (fun a h1 h2 => zz.ae (by omega) (by
      have : a = 176 ∨ a = 177 ∨ a = 178 ∨ a = 179 ∨ a = 180 ∨ a = 181 := by omega
      rcases this with q | q | q | q | q | q <;> (subst q; decide)))⟩, hP, fun j hj => ?_⟩
    have m201 : xA h1 201 = upf (xA h 201) k (ii 1) := by rw [C.1.ae (by decide) (by decide), e1, if_pos rfl]
    have e200 : xA (sB h 201 (ii (k : Nat)) (ii 1)) 200 = xA h 200 := by rw [e1, if_neg (by decide)]
    rw [m201]
    show (upf (xA h 201) k (ii 1) j = ii 0 ∧ upf (cs_I s) ((k : Int).toNat) (some (cs_P s)) j = none) ∨ _ ∧ ∃ Q, upf (cs_I s) ((k : Int).toNat) (some (cs_P s)) j = some Q ∧ _
    rw [show ((k : Int).toNat) = k from rfl]
    unfold upf
    by_cases c2 : j = k
    · refine Or.inr ⟨if_pos c2, cs_P s, if_pos c2, ?_⟩
      rw [c2]
      refine C.keep (RPg_cong (v' := lv (sB h 201 (ii (k : Nat)) (ii 1))) hPP hC.1.1 (z0.fe (k := 59) (by decide)) (fun r i a b c e f g w => ?_)) hC.1.1
      have rp := (sz_in a b c e f g w).1
      have n201 : ¬ 201 = r := (by decide : ∀ r ∈ pgR, ¬ 201 = r) r rp
      rw [lv_x (by omega), lv_x (by omega), e1, if_neg n201]
    · rw [if_neg c2, if_neg c2]
      rcases g j hj with q | ⟨q, Q, q1, q2⟩
      · exact Or.inl q
      · refine Or.inr ⟨q, Q, q1, RPg_cong q2 (hC.2.2.2.2 j Q hj q1).1 ?_ (fun r i a b c e f g w => ?_)⟩
        · rw [iv_at, iv_at, C.2.2.2.1 _ (by show 1760 * j + 0 < 1760 * k ∨ 1760 * k + 1688 ≤ 1760 * j + 0; omega), e200]
        · have rp := (sz_in a b c e f g w).2.2
          rw [iv_at, iv_at, C.2.2.2.1 _ (by omega), e200]
  · rw [if_neg (show ¬ (0 ≤ x ∧ x ≤ 3) by omega), if_neg (by decide), rI_s]
    rw [if_neg c] at hK
    exact hK h hI
theorem c316 {K : Int32 → mHeap → Prop} (hI : RI h s) (hC : CsI s) (hx : i32 x) (hK : ∀ h1, RI h1 (sPg s (aBack s x).2) → K (ii (aBack s x).1) h1) : GoCi (d + 3) 316 [.ref 148, .int (ii x)] h K := by
  have hR := hI.1.1
  rw [e316, b316_0, show jj 0 = jj (0 : Int) from rfl, show jj 3 = jj (3 : Int) from rfl, cin2 hx (by decide) (by decide)]
  unfold aBack at hK
  by_cases c : 0 ≤ x ∧ x < 4
  · rw [if_pos (show 0 ≤ x ∧ x ≤ 3 by omega), if_neg (by decide)]
    rw [if_pos c] at hK
    obtain ⟨k, rfl⟩ := nat_of c.1
    have hk : k < 4 := by omega
    simp only [(RS.ok hR), (RS.fr hR), true_and, and_true, true_or, or_true, hR.xB hk]
    rw [show ((k : Int).toNat) = k from rfl] at hK
    rcases hI.2.2.2.2.2 k hk with ⟨q, q1⟩ | ⟨q, Q, q1, q2⟩
    · rw [q, if_neg (fun n => n rfl), rI_s]
      rw [q1] at hK
      exact hK h hI
    · rw [q, if_pos (by decide)]
      rw [q1] at hK
      have okQ := (hC.2.2.2.2 k Q hk q1).1
      refine c314 (b := true) hR (by omega) (fun h1 C => ?_)
      have hR2 := C.rs hR
      have hP := C.back q2 okQ
      have W1 : xA h1 149 6 = ii (mo_d (pg_m Q) : Nat) := hP.2.1.1.1
      simp only [(RS.ok hR2), (RS.fr hR2), true_and, and_true, true_or, or_true, hR2.l149, W1, rI_s]
      refine hK h1 (hI.pg hC (C.1.wd (by decide) (by decide)) (fun i _ => ?_) hP)
      rw [(C.2.2.2.2.2 rfl).1]
  · rw [if_neg (show ¬ (0 ≤ x ∧ x ≤ 3) by omega), if_pos rfl, rI_s]
    rw [if_neg c] at hK
    exact hK h hI
/-- all kept, to be laid back -/
theorem c291 {K : mHeap → Prop} (hR : RS h) (hP : RPg (lv h) P) (ok : LdOk (pg_l P)) (hK : ∀ h1, RF [59, 75, 76] (192 :: 200 :: pgR) h h1 → (∀ r ∈ pgR, xA h1 r = xA h r) → fI h1 148 59 = fI h 148 59 → (∀ i, i < 7040 → xA h1 200 i = xA h 200 i) → RPg (iv h1 4) P → K h1) : GoCv (d + 3) 291 [.ref 148] h K := by
  rw [e291, b291_0]
  (try simp only [(RS.ok hR), (RS.fr hR), true_and, and_true, true_or, or_true])
  refine c314 (b := false) (k := 4) hR (by decide) (fun h1 C => ?_)
  obtain ⟨d1, d2, d3, d4⟩ := C.2.2.2.2.1 rfl
  rw [rV_s]
  exact hK h1 C.1 d1 d2 (fun i hi => C.2.2.2.1 i (by omega)) (C.keep hP ok)
theorem c292 {K : mHeap → Prop} (hR : RS h) (hP : RPg (iv h 4) P) (ok : LdOk (pg_l P)) (hK : ∀ h1, RF [59, 75, 76] (192 :: 200 :: pgR) h h1 → xA h1 200 = xA h 200 → RPg (lv h1) P → K h1) : GoCv (d + 3) 292 [.ref 148] h K := by
  rw [e292, b292_0]
  (try simp only [(RS.ok hR), (RS.fr hR), true_and, and_true, true_or, or_true])
  refine c314 (b := true) (k := 4) hR (by decide) (fun h1 C => ?_)
  rw [rV_s]
  exact hK h1 C.1 (C.2.2.2.2.2 rfl).1 (C.back hP ok)
end Ru2
