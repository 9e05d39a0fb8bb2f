/-! THE REFERENCE: an act kept, an act undone -/
section Rm
variable {d : Nat} {h h1 h2 : mHeap} {l : Ld} {m : Mo} {u : List Mo} {b : Bool} {a k n o p : Nat}
theorem RS.si (hR : RS h) {j w : Int32} (ha : 64 ≤ a) : RS (sI h a j w) := RF.sI.rs hR (fun c hc => by rw [List.mem_singleton.mp hc]; exact ha)
theorem RS.sf (hR : RS h) {x : Int32} (e : tgK (kd h 148) k = some 0) : RS (sF h 148 k (.int x)) := (RF.sF e).1.rs hR (fun c hc => by cases hc)
theorem bz {b : Bool} : ((if b = true then ii 1 else ii 0) = ii 0) ↔ ¬ b = true := by
  cases b <;> simp <;> decide
theorem c267 {K : Int32 → mHeap → Prop} {v : Int32} (hR : RS h) (h61 : fI h 148 61 = if b = true then ii 1 else ii 0) (h60 : fI h 148 60 = ii (p : Nat)) (hp : p < 1520) (hK : ∀ h1, RF [60] [191] h h1 → fI h1 148 60 = ii ((p + 1 : Nat) : Int) → xA h1 191 = upf (xA h 191) p (if b = true then xA h 191 p else v) → K (if b = true then xA h 191 p else v) h1) : GoCi (d + 1) 267 [.ref 148, .int v] h K := by
  rw [e267, b267_0]
  simp only [(RS.ok hR), (RS.fr hR), true_and, and_true, true_or, or_true, h61, h60, hR.x191 hp]
  have fin : ∀ w : Int32, w = (if b = true then xA h 191 p else v) → Go d 267 20 [some (.ref 148), some (.int v), none] [.int w] h (rI K) := fun w hw => by
    rw [b267_20 rfl]
    have hR1 : RS (sI h 191 (ii (p : Nat)) w) := hR.si (by decide)
    simp only [(RS.ok hR), (RS.fr hR), true_and, and_true, true_or, or_true, h60, hR.x191 hp, (RS.ok hR1), (RS.fr hR1), true_and, and_true, true_or, or_true, hR1.op, fI_sI, rI_s]
    refine ⟨by decide, ?_⟩
    have f := RF.sF (x := ii (p : Nat) + ii 1) hR1.tg.2.2.2.2.2.2.2.2.2.2.2.2.2.2.2.1
    rw [hw] at f ⊢
    refine hK _ ((RF.sI.wd (fun _ g => by cases g) (fun _ g => g)).tr (f.1.wd (fun _ g => g) (fun _ g => by cases g))) ?_ ?_
    · rw [f.2, ii_add]; rfl
    · rw [xA_sF, hR.s191 hp, if_pos rfl]
  cases b with
  | true =>
    rw [if_neg (by decide)]
    exact fin _ rfl
  | false =>
    rw [if_pos (by decide)]
    exact fin _ rfl
theorem c268 {K : mHeap → Prop} (hR : RS h) (ha : kd h a = (1, 1, [n])) (h64 : 64 ≤ a) (n1 : ¬ a = 148) (n2 : ¬ a = 191) (h61 : fI h 148 61 = if b = true then ii 1 else ii 0) (h60 : fI h 148 60 = ii (p : Nat)) (hp : p + n ≤ 1520) (hK : ∀ h1, RF [60] [191, a] h h1 → fI h1 148 60 = ii ((p + n : Nat) : Int) → (∀ i, xA h1 191 i = if b = false ∧ p ≤ i ∧ i < p + n then xA h a (i - p) else xA h 191 i) → (∀ i, xA h1 a i = if b = true ∧ i < n then xA h 191 (p + i) else xA h a i) → K h1) : GoCv (d + 2) 268 [.ref 148, .ref a] h K := by
  rw [e268, b268_0]
  refine Go_loop (fun k L h' => L = [some (.ref 148), some (.ref a), some (.int (ii (k : Nat)))] ∧ RF [60] [191, a] h h' ∧ fI h' 148 60 = ii ((p + k : Nat) : Int) ∧ (∀ i, xA h' 191 i = if b = false ∧ p ≤ i ∧ i < p + k then xA h a (i - p) else xA h 191 i) ∧ ∀ i, xA h' a i = if b = true ∧ i < k then xA h 191 (p + i) else xA h a i) n ?_ ?_ 0 _ h (Nat.zero_le _) ⟨rfl, RF.rf, h60, fun i => by rw [if_neg (by omega)], fun i => by rw [if_neg (by omega)]⟩
  · rintro k L h' hk ⟨rfl, z, f60, x1, x2⟩ nx
    have ka : kd h' a = (1, 1, [n]) := by rw [z.1.1]; exact ha
    have hR' : RS h' := z.rs hR (fun c hc => by
      rcases List.mem_cons.mp hc with q | q
      · rw [q]; decide
      · rw [List.mem_singleton.mp q]; exact h64)
    rw [b268_2]
    have r0 := row_ok (h := h') (c := a) (n := n) (p := k) ka hk (by omega)
    simp only [okL_kd, nL_kd, ka, lnK, List.headD_cons, (RS.ok hR'), (RS.fr hR'), true_and, and_true, true_or, or_true, r0]
    refine ⟨by decide, ?_⟩
    rw [if_neg (show ¬ (1 : Nat) = 4 by decide), if_neg (by rw [ii_le (by omega) (by omega) (by omega) (by omega)]; omega)]
    refine c267 (b := b) (p := p + k) hR' (by rw [z.fe (by decide)]; exact h61) f60 (by omega) (fun h1 y1 y2 y3 => ?_)
    have ka1 : kd h1 a = (1, 1, [n]) := by rw [y1.1.1]; exact ka
    have r1 := row_ok (h := h1) (c := a) (n := n) (p := k) ka1 hk (by omega)
    refine ⟨⟨h64, r1.1⟩, ?_⟩
    rw [show ii (k : Nat) + ii 1 = ii ((k + 1 : Nat) : Int) from ii_add _ _]
    refine nx _ _ ⟨rfl, z.tr ((y1.wd (fun _ g => g) (fun c hc => by rw [List.mem_singleton.mp hc]; exact List.mem_cons_self)).tr (RF.sI.wd (fun _ g => by cases g) (fun c hc => by rw [List.mem_singleton.mp hc]; exact List.mem_cons_of_mem _ (List.mem_singleton.mpr rfl)))), ?_, fun i => ?_, fun i => ?_⟩
    · rw [fI_sI, y2]; exact congrArg (fun t : Nat => ii (t : Int)) (by omega)
    · rw [xA_sI_o n2, y3]
      unfold upf
      by_cases c : i = p + k
      · subst c
        rw [if_pos rfl]
        cases b with
        | true =>
          rw [if_pos rfl, x1, if_neg (fun g => by cases g.1), if_neg (fun g => by cases g.1)]
        | false =>
          rw [if_neg Bool.false_ne_true, if_pos ⟨rfl, by omega, by omega⟩, x2, if_neg (fun g => by cases g.1)]
          exact congrArg _ (by omega)
      · rw [if_neg c, x1]
        by_cases q : b = false ∧ p ≤ i ∧ i < p + k
        · rw [if_pos q, if_pos ⟨q.1, q.2.1, by omega⟩]
        · rw [if_neg q, if_neg (fun g => q ⟨g.1, g.2.1, by omega⟩)]
    · rw [sI_row ka1 hk (by omega), if_pos rfl]
      have e1 : xA h1 a = xA h' a := y1.ae n1 (fun hc => n2 (List.mem_singleton.mp hc))
      unfold upf
      by_cases c : i = k
      · subst c
        rw [if_pos rfl]
        cases b with
        | true =>
          rw [if_pos rfl, if_pos ⟨rfl, by omega⟩, x1, if_neg (fun g => by cases g.1)]
        | false =>
          rw [if_neg Bool.false_ne_true, if_neg (fun g => by cases g.1), x2, if_neg (fun g => by cases g.1)]
      · rw [if_neg c, e1, x2]
        by_cases q : b = true ∧ i < k
        · rw [if_pos q, if_pos ⟨q.1, by omega⟩]
        · rw [if_neg q, if_neg (fun g => q ⟨g.1, by omega⟩)]
  · rintro L h' ⟨rfl, z, f60, x1, x2⟩
    have ka : kd h' a = (1, 1, [n]) := by rw [z.1.1]; exact ha
    rw [b268_2]
    simp only [okL_kd, nL_kd, ka, lnK, List.headD_cons]
    refine ⟨by decide, ?_⟩
    rw [if_neg (show ¬ (1 : Nat) = 4 by decide), if_pos (Int32.le_refl _), rV_s]
    exact hK _ z f60 x1 x2
def MvI (h h' : mHeap) (k : Nat) (b : Bool) (j : Nat) : Prop := RF [60, 61] [149, 150, 153, 154, 163, 191] h h' ∧ fI h' 148 61 = (if b = true then ii 1 else ii 0) ∧ fI h' 148 60 = ii ((76 * k + j : Nat) : Int) ∧ (∀ i, xA h' 191 i = if b = false ∧ 76 * k ≤ i ∧ i < 76 * k + j then fm (lv h) (i - 76 * k) else xA h 191 i) ∧ (∀ i, i < 76 → fm (lv h') i = if b = true ∧ i < j then xA h 191 (76 * k + i) else fm (lv h) i) ∧ (∀ i, ¬ i = 6 → ¬ i = 1 → xA h' 149 i = xA h 149 i) ∧ (b = false → ∀ r ∈ [149, 150, 153, 154, 163], xA h' r = xA h r)
theorem fm_o {v v' : Nat → Nat → Int32} (c : (a = 150 ∧ o = 2 ∧ n = 6) ∨ (a = 153 ∧ o = 8 ∧ n = 6) ∨ (a = 154 ∧ o = 14 ∧ n = 6) ∨ (a = 163 ∧ o = 20 ∧ n = 56)) (e : ∀ r ∈ [149, 150, 153, 154, 163], ¬ r = a → v' r = v r) {i : Nat} (hi : i < 76) : (¬ (o ≤ i ∧ i < o + n) → fm v' i = fm v i) ∧ (o ≤ i ∧ i < o + n → fm v i = v a (i - o)) := by
  rcases c with ⟨rfl, rfl, rfl⟩ | ⟨rfl, rfl, rfl⟩ | ⟨rfl, rfl, rfl⟩ | ⟨rfl, rfl, rfl⟩
  all_goals
    constructor
    · intro g
      unfold fm
      repeat' split
      all_goals first | omega | (rw [e 149 (by decide) (by decide)]; done) | (rw [e 150 (by decide) (by decide)]; done) | (rw [e 153 (by decide) (by decide)]; done) | (rw [e 154 (by decide) (by decide)]; done) | (rw [e 163 (by decide) (by decide)]; done)
    · intro g
      unfold fm
      repeat' split
      all_goals first | rfl | omega
theorem lv_x {r : Nat} (hr : 149 ≤ r) : lv h r = xA h r := by
  funext i
  unfold lv
  rw [if_neg (by omega)]
theorem MvI.row {h' : mHeap} (M : MvI h h' k b o) (c : (a = 150 ∧ o = 2 ∧ n = 6) ∨ (a = 153 ∧ o = 8 ∧ n = 6) ∨ (a = 154 ∧ o = 14 ∧ n = 6) ∨ (a = 163 ∧ o = 20 ∧ n = 56)) (z : RF [60] [191, a] h' h2) (f60 : fI h2 148 60 = ii ((76 * k + o + n : Nat) : Int)) (x1 : ∀ i, xA h2 191 i = if b = false ∧ 76 * k + o ≤ i ∧ i < 76 * k + o + n then xA h' a (i - (76 * k + o)) else xA h' 191 i) (x2 : ∀ i, xA h2 a i = if b = true ∧ i < n then xA h' 191 (76 * k + o + i) else xA h' a i) : MvI h h2 k b (o + n) := by
  obtain ⟨m1, m2, m3, m4, m5, m6, m7⟩ := M
  have a5 : a ∈ [149, 150, 153, 154, 163] ∧ 149 ≤ a ∧ ¬ a = 149 ∧ o + n ≤ 76 := by
    rcases c with ⟨rfl, rfl, rfl⟩ | ⟨rfl, rfl, rfl⟩ | ⟨rfl, rfl, rfl⟩ | ⟨rfl, rfl, rfl⟩ <;> decide
  have oth : ∀ r ∈ [149, 150, 153, 154, 163], ¬ r = a → xA h2 r = xA h' r := fun r hr hn => z.ae (by
    intro e; subst e; revert hr; decide) (fun hc => by
    rcases List.mem_cons.mp hc with q | q
    · subst q; revert hr; decide
    · exact hn (List.mem_singleton.mp q))
  have l149 : ∀ r ∈ [149, 150, 153, 154, 163], 149 ≤ r := by decide
  have othv : ∀ r ∈ [149, 150, 153, 154, 163], ¬ r = a → lv h2 r = lv h' r := fun r hr hn => by rw [lv_x (l149 r hr), lv_x (l149 r hr)]; exact oth r hr hn
  refine ⟨m1.tr (z.wd (by decide) (fun r hr => ?_)), by rw [z.fe (by decide)]; exact m2, by rw [f60]; exact congrArg (fun t : Nat => ii (t : Int)) (by omega), fun i => ?_, fun i hi => ?_, fun i h6 h1 => by rw [oth 149 (by decide) (fun e => a5.2.2.1 e.symm)]; exact m6 i h6 h1, fun hb r hr => ?_⟩
  · rcases List.mem_cons.mp hr with q | q
    · subst q; decide
    · rw [List.mem_singleton.mp q]
      have : ∀ r ∈ [149, 150, 153, 154, 163], r ∈ [149, 150, 153, 154, 163, 191] := by decide
      exact this a a5.1
  · rw [x1]
    by_cases q : b = false ∧ 76 * k + o ≤ i ∧ i < 76 * k + o + n
    · rw [if_pos q, if_pos ⟨q.1, by omega, by omega⟩]
      have g := (fm_o (v := lv h') (v' := lv h') c (fun _ _ _ => rfl) (i := i - 76 * k) (by omega)).2 ⟨by omega, by omega⟩
      rw [m5 _ (by omega), if_neg (fun w => by rw [q.1] at w; cases w.1)] at g
      rw [g, lv_x a5.2.1]
      exact congrArg _ (by omega)
    · rw [if_neg q, m4]
      by_cases q2 : b = false ∧ 76 * k ≤ i ∧ i < 76 * k + o
      · rw [if_pos q2, if_pos ⟨q2.1, q2.2.1, by omega⟩]
      · rw [if_neg q2, if_neg (fun g => by
          rcases Nat.lt_or_ge i (76 * k + o) with w | w
          · exact q2 ⟨g.1, g.2.1, w⟩
          · exact q ⟨g.1, w, by omega⟩)]
  · by_cases q : o ≤ i ∧ i < o + n
    · rw [(fm_o (v := lv h2) (v' := lv h2) c (fun _ _ _ => rfl) hi).2 q, lv_x a5.2.1, x2]
      by_cases q2 : b = true
      · rw [if_pos ⟨q2, by omega⟩, if_pos ⟨q2, by omega⟩, m4, if_neg (fun w => by rw [q2] at w; cases w.1)]
        exact congrArg _ (by omega)
      · rw [if_neg (fun w => q2 w.1), if_neg (fun w => q2 w.1)]
        have g := (fm_o (v := lv h') (v' := lv h') c (fun _ _ _ => rfl) hi).2 q
        rw [m5 i hi, if_neg (fun w => q2 w.1)] at g
        rw [g, lv_x a5.2.1]
    · rw [(fm_o c othv hi).1 q, m5 i hi]
      by_cases q2 : b = true ∧ i < o
      · rw [if_pos q2, if_pos ⟨q2.1, by omega⟩]
      · rw [if_neg q2, if_neg (fun g => q2 ⟨g.1, by omega⟩)]
  · by_cases c2 : r = a
    · subst c2
      funext i
      rw [x2, if_neg (fun w => by rw [hb] at w; cases w.1)]
      exact congrFun (m7 hb r hr) i
    · rw [oth r hr c2]; exact m7 hb r hr
theorem MvI.rs {h' : mHeap} (M : MvI h h' k b o) (hR : RS h) : RS h' := M.1.rs hR (by decide)
theorem c269 {K : mHeap → Prop} (hR : RS h) (hk : k < 20) (hK : ∀ h1, MvI h h1 k b 76 → K h1) : GoCv (d + 3) 269 [.ref 148, .int (ii (k : Nat)), .int (if b = true then ii 1 else ii 0)] h K := by
  have b01 : ((if b = true then ii 1 else ii 0) = ii 0 ∨ (if b = true then ii 1 else ii 0) = ii 1) := by cases b <;> decide
  rw [e269, b269_0]
  have e0 : ii 76 * ii (k : Nat) = ii ((76 * k : Nat) : Int) := by rw [ii_mul]; exact congrArg ii (by omega)
  rw [e0]
  have s1 := RF.sF (h := h) (k := 60) (x := ii ((76 * k : Nat) : Int)) hR.tg.2.2.2.2.2.2.2.2.2.2.2.2.2.2.2.1
  have hR1 : RS (sF h 148 60 (.int (ii ((76 * k : Nat) : Int)))) := hR.sf hR.tg.2.2.2.2.2.2.2.2.2.2.2.2.2.2.2.1
  have s2 := RF.sF (h := sF h 148 60 (.int (ii ((76 * k : Nat) : Int)))) (k := 61) (x := if b = true then ii 1 else ii 0) hR1.tg.2.2.2.2.2.2.2.2.2.2.2.2.2.2.2.2.1
  have hR2 : RS (sF (sF h 148 60 (.int (ii ((76 * k : Nat) : Int)))) 148 61 (.int (if b = true then ii 1 else ii 0))) := hR1.sf hR1.tg.2.2.2.2.2.2.2.2.2.2.2.2.2.2.2.2.1
  have M0 : MvI h (sF (sF h 148 60 (.int (ii ((76 * k : Nat) : Int)))) 148 61 (.int (if b = true then ii 1 else ii 0))) k b 0 := by
    refine ⟨(s1.1.wd (by decide) (by decide)).tr (s2.1.wd (by decide) (by decide)), s2.2, by rw [s2.1.fe (by decide), s1.2]; rfl, fun i => by rw [xA_sF, xA_sF, if_neg (by omega)], fun i _ => by
      unfold fm
      simp only [lv_x (show 149 ≤ 149 by decide), lv_x (show 149 ≤ 150 by decide), lv_x (show 149 ≤ 153 by decide), lv_x (show 149 ≤ 154 by decide), lv_x (show 149 ≤ 163 by decide), xA_sF]
      rw [if_neg (show ¬ (b = true ∧ i < 0) from fun g => absurd g.2 (Nat.not_lt_zero _))], fun i _ _ => by rw [xA_sF, xA_sF], fun _ r _ => by rw [xA_sF, xA_sF]⟩
  generalize sF (sF h 148 60 (.int (ii ((76 * k : Nat) : Int)))) 148 61 (.int (if b = true then ii 1 else ii 0)) = H at *
  simp only [hR.op, hR1.op, (RS.ok hR2), (RS.fr hR2), true_and, and_true, true_or, or_true, hR2.l149, b01]
  refine c267 (b := b) (p := 76 * k) hR2 M0.2.1 M0.2.2.1 (by omega) (fun h1 y1 y2 y3 => ?_)
  have hR3 : RS h1 := y1.rs hR2 (by decide)
  have e6 : ∀ w r, xA (sI h1 149 (ii 6) w) r = if 149 = r then upf (xA h1 149) 6 w else xA h1 r := fun w r => hR3.s149 (i := 6) (by decide)
  have hR4 : ∀ w, RS (sI h1 149 (ii 6) w) := fun w => hR3.si (by decide)
  have M1 : MvI h (sI h1 149 (ii 6) (if b = true then xA H 191 (76 * k) else xA H 149 6)) k b 1 := by
    obtain ⟨m1, m2, m3, m4, m5, m6, m7⟩ := M0
    have a1 : ∀ r, 149 ≤ r → ¬ r = 149 → ¬ r = 191 → xA (sI h1 149 (ii 6) (if b = true then xA H 191 (76 * k) else xA H 149 6)) r = xA H r := fun r r1 r2 r3 => by
      rw [e6, if_neg (fun e => r2 e.symm), y1.ae (by omega) (fun hc => r3 (List.mem_singleton.mp hc))]
    have a0 : xA h1 149 = xA H 149 := y1.ae (by decide) (by decide)
    have a9 : xA (sI h1 149 (ii 6) (if b = true then xA H 191 (76 * k) else xA H 149 6)) 149 = upf (xA H 149) 6 (if b = true then xA H 191 (76 * k) else xA H 149 6) := by rw [e6, if_pos rfl, a0]
    have h6 : xA H 149 6 = xA h 149 6 := by
      have := m5 0 (by decide)
      rw [if_neg (by omega)] at this
      exact this
    refine ⟨m1.tr ((y1.wd (by decide) (by decide)).tr (RF.sI.wd (by decide) (by decide))), by rw [fI_sI, y1.fe (by decide)]; exact m2, by rw [fI_sI, y2], fun i => ?_, fun i hi => ?_, fun i i6 i1 => ?_, fun hb r hr => ?_⟩
    · rw [e6, if_neg (by decide), y3]
      unfold upf
      by_cases c : i = 76 * k
      · subst c
        rw [if_pos rfl]
        cases b with
        | true => rw [if_pos rfl, m4, if_neg (fun g => by cases g.1), if_neg (fun g => by cases g.1)]
        | false => rw [if_neg Bool.false_ne_true, if_pos ⟨rfl, by omega, by omega⟩, Nat.sub_self, h6]; rfl
      · rw [if_neg c, m4, if_neg (by omega), if_neg (by omega)]
    · by_cases c : i = 0
      · subst c
        show xA _ 149 6 = _
        rw [a9]
        unfold upf
        rw [if_pos rfl]
        cases b with
        | true => rw [if_pos rfl, if_pos ⟨rfl, by decide⟩, m4, if_neg (fun g => by cases g.1)]; rfl
        | false => rw [if_neg Bool.false_ne_true, if_neg (fun g => by cases g.1), h6]; rfl
      · have : fm (lv (sI h1 149 (ii 6) (if b = true then xA H 191 (76 * k) else xA H 149 6))) i = fm (lv H) i := by
          unfold fm
          simp only [lv_x (show 149 ≤ 149 by decide), lv_x (show 149 ≤ 150 by decide), lv_x (show 149 ≤ 153 by decide), lv_x (show 149 ≤ 154 by decide), lv_x (show 149 ≤ 163 by decide), a9, a1 150 (by decide) (by decide) (by decide), a1 153 (by decide) (by decide) (by decide), a1 154 (by decide) (by decide) (by decide), a1 163 (by decide) (by decide) (by decide)]
          rw [if_neg c, if_neg c]
          rfl
        rw [this, m5 i hi, if_neg (by omega), if_neg (by omega)]
    · rw [a9]
      unfold upf
      rw [if_neg i6]
      exact m6 i i6 i1
    · by_cases c : r = 149
      · subst c
        rw [a9, hb, if_neg Bool.false_ne_true]
        funext i
        unfold upf
        by_cases c : i = 6
        · rw [if_pos c, c, h6]
        · rw [if_neg c]; exact congrFun (m7 hb 149 hr) i
      · have qq : ∀ r ∈ [149, 150, 153, 154, 163], 149 ≤ r ∧ ¬ r = 191 := by decide
        have this := qq r hr
        rw [a1 r this.1 c this.2]
        exact m7 hb r hr
  have k149 : ∀ (w : Int32), okA h1 149 .int (ii 6) := fun w => (hR3.l149).2.2.2.2.2.2.1.1
  refine ⟨⟨by decide, k149 0⟩, ?_⟩
  rw [show 76 * k = 76 * k + 0 from rfl] at *
  generalize sI h1 149 (ii 6) (if b = true then xA H 191 (76 * k + 0) else xA H 149 6) = H1 at *
  have hR5 : RS H1 := M1.rs hR
  simp only [(RS.ok hR5), (RS.fr hR5), true_and, and_true, true_or, or_true, hR5.l149]
  refine c267 (b := b) (p := 76 * k + 1) hR5 M1.2.1 M1.2.2.1 (by omega) (fun g1 y1 y2 y3 => ?_)
  have hR3 : RS g1 := y1.rs hR5 (by decide)
  have e6 : ∀ w r, xA (sI g1 149 (ii 1) w) r = if 149 = r then upf (xA g1 149) 1 w else xA g1 r := fun w r => hR3.s149 (i := 1) (by decide)
  have M2 : MvI h (sI g1 149 (ii 1) (if b = true then xA H1 191 (76 * k + 1) else xA H1 149 1)) k b 2 := by
    obtain ⟨m1, m2, m3, m4, m5, m6, m7⟩ := M1
    have a1 : ∀ r, 149 ≤ r → ¬ r = 149 → ¬ r = 191 → xA (sI g1 149 (ii 1) (if b = true then xA H1 191 (76 * k + 1) else xA H1 149 1)) r = xA H1 r := fun r r1 r2 r3 => by
      rw [e6, if_neg (fun e => r2 e.symm), y1.ae (by omega) (fun hc => r3 (List.mem_singleton.mp hc))]
    have a0 : xA g1 149 = xA H1 149 := y1.ae (by decide) (by decide)
    have a9 : xA (sI g1 149 (ii 1) (if b = true then xA H1 191 (76 * k + 1) else xA H1 149 1)) 149 = upf (xA H1 149) 1 (if b = true then xA H1 191 (76 * k + 1) else xA H1 149 1) := by rw [e6, if_pos rfl, a0]
    have h6 : xA H1 149 1 = xA h 149 1 := by
      have := m5 1 (by decide)
      rw [if_neg (by omega)] at this
      exact this
    refine ⟨m1.tr ((y1.wd (by decide) (by decide)).tr (RF.sI.wd (by decide) (by decide))), by rw [fI_sI, y1.fe (by decide)]; exact m2, by rw [fI_sI, y2], fun i => ?_, fun i hi => ?_, fun i i6 i1 => ?_, fun hb r hr => ?_⟩
    · rw [e6, if_neg (by decide), y3]
      unfold upf
      by_cases c : i = 76 * k + 1
      · subst c
        rw [if_pos rfl]
        cases b with
        | true => rw [if_pos rfl, m4, if_neg (fun g => by cases g.1), if_neg (fun g => by cases g.1)]
        | false => rw [if_neg Bool.false_ne_true, if_pos ⟨rfl, by omega, by omega⟩, show 76 * k + 1 - 76 * k = 1 by omega, h6]; rfl
      · rw [if_neg c, m4]
        by_cases q : b = false ∧ 76 * k ≤ i ∧ i < 76 * k + 1
        · rw [if_pos q, if_pos ⟨q.1, q.2.1, by omega⟩]
        · rw [if_neg q, if_neg (fun g => q ⟨g.1, g.2.1, by omega⟩)]
    · by_cases c : i = 1
      · subst c
        show xA _ 149 1 = _
        rw [a9]
        unfold upf
        rw [if_pos rfl]
        cases b with
        | true => rw [if_pos rfl, if_pos ⟨rfl, by decide⟩, m4, if_neg (fun g => by cases g.1)]
        | false => rw [if_neg Bool.false_ne_true, if_neg (fun g => by cases g.1), h6]; rfl
      · have : fm (lv (sI g1 149 (ii 1) (if b = true then xA H1 191 (76 * k + 1) else xA H1 149 1))) i = fm (lv H1) i := by
          unfold fm
          simp only [lv_x (show 149 ≤ 149 by decide), lv_x (show 149 ≤ 150 by decide), lv_x (show 149 ≤ 153 by decide), lv_x (show 149 ≤ 154 by decide), lv_x (show 149 ≤ 163 by decide), a9, a1 150 (by decide) (by decide) (by decide), a1 153 (by decide) (by decide) (by decide), a1 154 (by decide) (by decide) (by decide), a1 163 (by decide) (by decide) (by decide)]
          rw [if_neg c, if_neg c]
          rfl
        rw [this, m5 i hi]
        by_cases q : b = true ∧ i < 1
        · rw [if_pos q, if_pos ⟨q.1, by omega⟩]
        · rw [if_neg q, if_neg (fun g => q ⟨g.1, by omega⟩)]
    · rw [a9]
      unfold upf
      rw [if_neg i1]
      exact m6 i i6 i1
    · by_cases c : r = 149
      · subst c
        rw [a9, hb, if_neg Bool.false_ne_true]
        funext i
        unfold upf
        by_cases c : i = 1
        · rw [if_pos c, c, h6]
        · rw [if_neg c]; exact congrFun (m7 hb 149 hr) i
      · have qq : ∀ r ∈ [149, 150, 153, 154, 163], 149 ≤ r ∧ ¬ r = 191 := by decide
        have this := qq r hr
        rw [a1 r this.1 c this.2]
        exact m7 hb r hr
  refine ⟨⟨by decide, (hR3.l149).2.1.1⟩, ?_⟩
  generalize sI g1 149 (ii 1) (if b = true then xA H1 191 (76 * k + 1) else xA H1 149 1) = H2 at *
  have hR6 : RS H2 := M2.rs hR
  simp only [(RS.ok hR6), (RS.fr hR6), true_and, and_true, true_or, or_true]
  refine c268 (b := b) (p := 76 * k + 2) hR6 hR6.k150 (by decide) (by decide) (by decide) M2.2.1 M2.2.2.1 (by omega) (fun h3 z1 z2 z3 z4 => ?_)
  have M3 := M2.row (a := 150) (n := 6) (Or.inl ⟨rfl, rfl, rfl⟩) z1 z2 z3 z4
  have hR7 : RS h3 := M3.rs hR
  simp only [(RS.ok hR7), (RS.fr hR7), true_and, and_true, true_or, or_true]
  refine c268 (b := b) (p := 76 * k + 8) hR7 hR7.k153 (by decide) (by decide) (by decide) M3.2.1 M3.2.2.1 (by omega) (fun h4 z1 z2 z3 z4 => ?_)
  have M4 := M3.row (a := 153) (n := 6) (Or.inr (Or.inl ⟨rfl, rfl, rfl⟩)) z1 z2 z3 z4
  have hR8 : RS h4 := M4.rs hR
  simp only [(RS.ok hR8), (RS.fr hR8), true_and, and_true, true_or, or_true]
  refine c268 (b := b) (p := 76 * k + 14) hR8 hR8.k154 (by decide) (by decide) (by decide) M4.2.1 M4.2.2.1 (by omega) (fun h5 z1 z2 z3 z4 => ?_)
  have M5 := M4.row (a := 154) (n := 6) (Or.inr (Or.inr (Or.inl ⟨rfl, rfl, rfl⟩))) z1 z2 z3 z4
  have hR9 : RS h5 := M5.rs hR
  simp only [(RS.ok hR9), (RS.fr hR9), true_and, and_true, true_or, or_true]
  refine c268 (b := b) (p := 76 * k + 20) hR9 hR9.k163 (by decide) (by decide) (by decide) M5.2.1 M5.2.2.1 (by omega) (fun h6 z1 z2 z3 z4 => ?_)
  have M6 := M5.row (a := 163) (n := 56) (Or.inr (Or.inr (Or.inr ⟨rfl, rfl, rfl⟩))) z1 z2 z3 z4
  rw [rV_s]
  exact hK _ M6
end Rm
