/-! THE REFERENCE: an act kept, undone, as lists -/
section Rn
variable {d : Nat} {h h1 h2 : mHeap} {l : Ld} {m m' : Mo} {u u' : List Mo} {a k n o p : Nat} {P : Pg} {F R : List Nat} {s : Cs}
theorem c270_50 {K : mHeap → Prop} {l1 : Option Value} (hR : RS h) (q6 : (ld_q l).length ≤ 6) (hM : RMv (lv h) l m) (hU : RPa (lv h) l u) (hn : u.length < 20) (hK : ∀ h1, RF [59, 60, 61] [149, 150, 153, 154, 163, 191] h h1 → (∀ r ∈ [149, 150, 153, 154, 163], xA h1 r = xA h r) → RPa (lv h1) l (u ++ [m]) → K h1) : Go (d + 3) 270 50 [some (.ref 148), l1] [] h (rV K) := by
  have f59 : fI h 148 59 = ii (u.length : Nat) := hU.1
  rw [b270_50]
  simp only [(RS.ok hR), (RS.fr hR), true_and, and_true, true_or, or_true, f59]
  refine c269 (b := false) hR hn (fun h1 M => ?_)
  have hR1 := M.rs hR
  have g59 : fI h1 148 59 = ii (u.length : Nat) := by rw [M.1.fe (by decide)]; exact f59
  have t59 : tgK (kd h1 148) 59 = some 0 := hR1.tg.2.2.2.2.2.2.2.2.2.2.2.2.2.2.1
  simp only [(RS.ok hR1), (RS.fr hR1), true_and, and_true, true_or, or_true, hR1.op, g59, rV_s]
  have z := RF.sF (x := ii (u.length : Nat) + ii 1) t59
  refine hK _ ((M.1.wd (by decide) (by decide)).tr (z.1.wd (by decide) (by decide))) (fun r hr => by rw [xA_sF]; exact M.2.2.2.2.2.2 rfl r hr) ⟨?_, by rw [List.length_append, List.length_singleton]; omega, fun i hi => ?_⟩
  · show fI _ 148 59 = _
    rw [z.2, ii_add, List.length_append, List.length_singleton]
    rfl
  · rw [List.length_append, List.length_singleton] at hi
    rw [getD_app]
    have x9 : ∀ j, lv (sF h1 148 59 (.int (ii (u.length : Nat) + ii 1))) 191 j = xA h1 191 j := fun j => by rw [lv_x (by decide), xA_sF]
    by_cases c : i = u.length
    · rw [if_pos c]
      refine RMf_cong ((RMv_f q6).mp hM) q6 (fun j hj => ?_)
      rw [x9, M.2.2.2.1, if_pos ⟨rfl, by rw [c]; omega, by rw [c]; omega⟩]
      exact congrArg _ (by rw [c]; omega)
    · rw [if_neg c, if_pos (by omega)]
      refine RMf_cong (hU.2.2 i (by omega)) q6 (fun j hj => ?_)
      rw [x9, M.2.2.2.1, if_neg (by omega), lv_x (by decide)]
theorem c270 {K : mHeap → Prop} (hR : RS h) (q6 : (ld_q l).length ≤ 6) (hM : RMv (lv h) l m) (hU : RPa (lv h) l u) (hK : ∀ h1, RF [59, 60, 61] [149, 150, 153, 154, 163, 191] h h1 → (∀ r ∈ [149, 150, 153, 154, 163], xA h1 r = xA h r) → RPa (lv h1) l (rem u m) → K h1) : GoCv (d + 4) 270 [.ref 148] h K := by
  have f59 : fI h 148 59 = ii (u.length : Nat) := hU.1
  have u20 := hU.2.1
  rw [e270, b270_0]
  simp only [(RS.ok hR), (RS.fr hR), true_and, and_true, true_or, or_true, f59]
  by_cases c : u.length = 20
  · rw [if_neg (by rw [c]; exact fun n => n rfl)]
    refine Go_loop (fun k L h' => L = [some (.ref 148), some (.int (ii ((76 + k : Nat) : Int)))] ∧ RF [] [191] h h' ∧ ∀ i, xA h' 191 i = if i < k then xA h 191 (i + 76) else xA h 191 i) 1444 ?_ ?_ 0 _ h (Nat.zero_le _) ⟨rfl, RF.rf, fun i => by rw [if_neg (by omega)]⟩
    · rintro k L h' hk ⟨rfl, z, x1⟩ nx
      have hR' : RS h' := z.rs hR (by decide)
      rw [b270_12]
      rw [if_neg (by rw [show ii 1520 = ii (1520 : Int) from rfl, ii_le (by omega) (by omega) (by omega) (by omega)]; omega)]
      rw [show ii ((76 + k : Nat) : Int) - ii 76 = ii (k : Nat) by rw [ii_sub]; exact congrArg ii (by omega)]
      simp only [(RS.ok hR'), (RS.fr hR'), true_and, and_true, true_or, or_true, hR'.x191 (show 76 + k < 1520 by omega), hR'.x191 (show k < 1520 by omega)]
      refine ⟨by decide, ?_⟩
      rw [show ii ((76 + k : Nat) : Int) + ii 1 = ii ((76 + (k + 1) : Nat) : Int) from ii_add _ _]
      refine nx _ _ ⟨rfl, z.tr RF.sI, fun i => ?_⟩
      rw [hR'.s191 (show k < 1520 by omega), if_pos rfl]
      unfold upf
      by_cases q : i = k
      · rw [if_pos q, if_pos (by omega), x1, if_neg (by omega)]
        exact congrArg _ (by omega)
      · rw [if_neg q, x1]
        by_cases q2 : i < k
        · rw [if_pos q2, if_pos (by omega)]
        · rw [if_neg q2, if_neg (by omega)]
    · rintro L h' ⟨rfl, z, x1⟩
      have hR' : RS h' := z.rs hR (by decide)
      have g59 : fI h' 148 59 = ii (20 : Nat) := by rw [z.fe (by decide), f59, c]
      have t59 : tgK (kd h' 148) 59 = some 0 := hR'.tg.2.2.2.2.2.2.2.2.2.2.2.2.2.2.1
      rw [b270_12, if_pos (show ii 1520 ≤ ii ((76 + 1444 : Nat) : Int) by decide)]
      simp only [(RS.ok hR'), (RS.fr hR'), true_and, and_true, true_or, or_true, hR'.op, g59]
      rw [show ii ((20 : Nat) : Int) - ii 1 = ii ((19 : Nat) : Int) from ii_sub _ _]
      have y := RF.sF (x := ii ((19 : Nat) : Int)) t59
      have zy : RF [59] [191] h (sF h' 148 59 (.int (ii ((19 : Nat) : Int)))) := (z.wd (by decide) (by decide)).tr (y.1.wd (by decide) (by decide))
      have lt : u.tail.length = 19 := by rw [List.length_tail, c]
      refine c270_50 (u := u.tail) (m := m) (hR'.sf t59) q6 ?_ ⟨?_, by omega, fun i hi => ?_⟩ (by omega) (fun h1 w1 w2 w3 => hK h1 ((zy.wd (by decide) (by decide)).tr w1) (fun r hr => ?_) ?_)
      · exact RMo_cong hM q6 (zy.lv (by decide) (by decide) 6) (zy.lv (by decide) (by decide) 1) (fun q _ => ⟨zy.lv (by decide) (by decide) q, zy.lv (by decide) (by decide) q, zy.lv (by decide) (by decide) q⟩) (fun j _ => zy.lv (by decide) (by decide) j)
      · show fI _ 148 59 = _
        rw [y.2, lt]
      · have e : u.tail.getD i mo0 = u.getD (i + 1) mo0 := by
          cases u with
          | nil => rfl
          | cons x t => rfl
        rw [e]
        refine RMf_cong (hU.2.2 (i + 1) (by omega)) q6 (fun j hj => ?_)
        rw [lv_x (by decide), lv_x (by decide), xA_sF, x1, if_pos (by omega)]
        exact congrArg _ (by omega)
      · rw [w2 r hr]
        have : 149 ≤ r ∧ ¬ r = 191 := by revert hr; revert r; decide
        exact zy.ae (by omega) (fun g => this.2 (List.mem_singleton.mp g))
      · unfold rem
        rw [if_pos c]
        exact w3
  · rw [if_pos (by rw [show ii 20 = ii (20 : Int) from rfl, ii_eq (by omega) (by omega) (by omega) (by omega)]; omega)]
    refine c270_50 hR q6 hM hU (by omega) (fun h1 w1 w2 w3 => hK h1 w1 w2 ?_)
    unfold rem
    rw [if_neg c]
    exact w3
theorem RPg.act (hP : RPg (lv h) P) (ok : LdOk (pg_l P)) (z : RF F R h h1) (e : ∀ a ∈ [151, 152, 155, 156, 157, 158, 159, 160, 161, 162], ¬ a ∈ R) (e149 : ∀ i, ¬ i = 6 → ¬ i = 1 → xA h1 149 i = xA h 149 i) (hM : RMv (lv h1) (pg_l P) m') (hU : RPa (lv h1) (pg_l P) u') : RPg (lv h1) (pg_l P, m', u', pg_t P, pg_x P) := by
  refine ⟨RLd_cong hP.1 ok (fun i a b _ _ _ => e149 i a b) (fun r i a _ _ _ => z.lv (by omega) (e r (by
    rcases a with a | a | ⟨a, b⟩
    · subst a; decide
    · subst a; decide
    · have : r = 155 ∨ r = 156 ∨ r = 157 ∨ r = 158 ∨ r = 159 ∨ r = 160 := by omega
      rcases this with q | q | q | q | q | q <;> (subst q; decide))) i), hM, hU, ⟨(e149 7 (by decide) (by decide)).trans hP.2.2.2.1.1, hP.2.2.2.1.2.1, fun i hi => ?_⟩, (e149 8 (by decide) (by decide)).trans hP.2.2.2.2⟩
  have g := hP.2.2.2.1.2.2 i hi
  exact ⟨(z.lv (by decide) (e 161 (by decide)) i).trans g.1, (z.lv (by decide) (e 162 (by decide)) i).trans g.2⟩
theorem c271 {K : Int32 → mHeap → Prop} (hI : RI h s) (hC : CsI s) (hK : ∀ h1, RI h1 (sPg s (aUndo (cs_P s)).2) → K (ii (aUndo (cs_P s)).1) h1) : GoCi (d + 4) 271 [.ref 148] h K := by
  have hR := hI.1.1
  have hP := hI.2.2.2.2.1
  have q6 := hC.1.1.2.2.1
  have hU := hP.2.2.1
  have f59 : fI h 148 59 = ii ((pg_u (cs_P s)).length : Nat) := hU.1
  have u20 := hU.2.1
  rw [e271, b271_0]
  simp only [(RS.ok hR), (RS.fr hR), true_and, and_true, true_or, or_true, f59, hR.op, rI_s]
  unfold aUndo at hK
  by_cases c : pg_u (cs_P s) = []
  · rw [if_pos c] at hK
    rw [if_neg (by rw [c]; exact fun n => n rfl)]
    exact hK h hI
  · rw [if_neg c] at hK
    have l0 : 0 < (pg_u (cs_P s)).length := List.length_pos_iff.mpr c
    rw [if_pos (by rw [show ii 0 = ii (0 : Int) from rfl, ii_eq (by omega) (by omega) (by omega) (by omega)]; omega)]
    rw [show ii ((pg_u (cs_P s)).length : Nat) - ii 1 = ii (((pg_u (cs_P s)).length - 1 : Nat) : Int) by rw [ii_sub]; exact congrArg ii (by omega)]
    have t59 : tgK (kd h 148) 59 = some 0 := hR.tg.2.2.2.2.2.2.2.2.2.2.2.2.2.2.1
    have z := RF.sF (x := ii (((pg_u (cs_P s)).length - 1 : Nat) : Int)) t59
    have hR1 := hR.sf (x := ii (((pg_u (cs_P s)).length - 1 : Nat) : Int)) t59
    generalize sF h 148 59 (.int (ii (((pg_u (cs_P s)).length - 1 : Nat) : Int))) = H at *
    simp only [(RS.ok hR1), (RS.fr hR1), true_and, and_true, true_or, or_true, z.2]
    refine c269 (b := true) hR1 (by omega) (fun h1 M => ?_)
    have hR2 := M.rs hR1
    have zz : RF [59, 60, 61] [149, 150, 153, 154, 163, 191] h h1 := (z.1.wd (by decide) (by decide)).tr (M.1.wd (by decide) (by decide))
    simp only [(RS.ok hR2), (RS.fr hR2), true_and, and_true, true_or, or_true, M.1.fe (show ¬ 59 ∈ [60, 61] by decide), z.2, rI_s]
    have x9 : xA h1 191 = xA h 191 := by
      funext i
      rw [M.2.2.2.1, if_neg (fun g => by cases g.1), z.1.ae (by decide) (by decide)]
    refine hK h1 (hI.pg hC (zz.wd (by decide) (by decide)) (fun i _ => by rw [zz.ae (by decide) (by decide)]) (RPg.act hP hC.1.1 zz (by decide) (fun i a b => by rw [M.2.2.2.2.2.1 i a b, z.1.ae (by decide) (by decide)]) ?_ ⟨?_, ?_, fun i hi => ?_⟩))
    · refine (RMv_f q6).mpr (RMf_cong (hU.2.2 ((pg_u (cs_P s)).length - 1) (by omega)) q6 (fun j hj => ?_))
      rw [M.2.2.2.2.1 j hj, if_pos ⟨rfl, hj⟩, z.1.ae (by decide) (by decide), lv_x (by decide)]
    · show fI h1 148 59 = _
      rw [M.1.fe (by decide), z.2, List.length_take, Nat.min_eq_left (by omega)]
    · rw [List.length_take]; omega
    · rw [List.length_take] at hi
      rw [List.getD_eq_getElem?_getD, List.getElem?_take_of_lt (by omega), ← List.getD_eq_getElem?_getD]
      refine RMf_cong (hU.2.2 i (by omega)) q6 (fun j hj => ?_)
      rw [lv_x (by decide), lv_x (by decide), x9]
end Rn
