/-! A MOMENT COPIED, A MOMENT BEGUN -/
section M3
variable {d : Nat} {h h1 : mHeap} {a b b2 : Nat} {l : Ld} {m m2 : Mo}
/-- copyFrom -/
theorem c44 {K : mHeap → Prop} (hM : MoR h b m) (hB : MoR h b2 m2) (dis : b2 + 10 ≤ b ∨ b + 10 ≤ b2) (hK : ∀ h1, Fr b 10 h h1 → MoR h1 b m2 → K h1) : GoCv (d + 3) 44 [.ref b, .ref b2] h K := by
  rw [e44, b44_0]
  have f0 := hB.2.1
  rw [f0]
  obtain ⟨A1, F1⟩ := MoR_d hM (mo_d m2)
  have B1 := hB.fr F1 dis
  rw [B1.2.2.1]
  obtain ⟨A2, F2⟩ := MoR_f A1 (mo_f m2)
  have B2 := B1.fr F2 dis
  rw [B2.2.2.2.1]
  obtain ⟨A3, F3⟩ := MoR_s A2 (mo_s m2)
  have B3 := B2.fr F3 dis
  rw [B3.2.2.2.2.1]
  obtain ⟨A4, F4⟩ := MoR_l A3 (mo_l m2)
  have B4 := B3.fr F4 dis
  have F14 := ((F1.tr F2).tr F3).tr F4
  refine ⟨(MoS_okF hB.1).1, MoS_okP hM.1 (by decide), (MoS_okF B1.1).2.1, MoS_okP A1.1 (by decide), (MoS_okF B2.1).2.2.1, MoS_okP A2.1 (by decide), (MoS_okF B3.1).2.2.2.1, MoS_okP A3.1 (by decide), ?_⟩
  -- hours
  refine Go_loop (fun k L' h' => L' = [some (.ref b), some (.ref b2), some (.int (ii k))] ∧ Fr b 10 h h' ∧ MoR h' b (mo_d m2, mo_f m2, mo_s m2, mo_l m2, (fun p => if p < k then mo_h m2 p else mo_h m p), mo_w m)) 6 ?_ ?_ 0 _ _ (Nat.zero_le _) ⟨rfl, F14, ?_⟩
  · rintro k L' h' hk ⟨rfl, hf, hM'⟩ next
    have hB' := hB.fr hf dis
    have r1 := MoS_hours hM'.1 hk
    have r2 := MoS_hours hB'.1 hk
    have ek : ii (k : Int) + ii 1 = ii ((k + 1 : Nat) : Int) := by rw [ii_add]; rfl
    rw [b44_34, if_neg (by rw [ii_le (by omega) (by omega) (by omega) (by omega)]; omega)]
    simp only [MoS_okF hM'.1, MoS_okF hB'.1, r1, r2, true_and, and_true]
    refine ⟨by have := hM.1.1; omega, ?_⟩
    rw [ek]
    have fI1 : Fr (b + 1) 1 h' (sI h' (b + 1) (ii k) (xA h' (b2 + 1) k)) := Fr.sI
    obtain ⟨A5, F5⟩ := MoR_h hM' fI1 (g := fun p => if p < k + 1 then mo_h m2 p else mo_h m p) (fun p hp => by
      rw [sI_row hM'.1.2.2.1 hk (by omega), if_pos rfl]
      unfold upf
      by_cases c : p = k
      · subst c
        rw [if_pos rfl, if_pos (by omega)]
        exact hB'.2.2.2.2.2.1 p hp
      · rw [if_neg c, hM'.2.2.2.2.2.1 p hp]
        show ii (((if p < k then mo_h m2 p else mo_h m p : Nat)) : Int) = _
        by_cases c2 : p < k
        · rw [if_pos c2, if_pos (by omega)]
        · rw [if_neg c2, if_neg (by omega)])
    exact next _ _ ⟨rfl, hf.tr F5, A5⟩
  · rintro L' h' ⟨rfl, hf, hM'⟩
    rw [b44_34, if_pos (by rw [ii_le (by omega) (by omega) (by omega) (by omega)]; omega)]
    refine Go_loop (fun k L' h' => L' = [some (.ref b), some (.ref b2), some (.int (ii k))] ∧ Fr b 10 h h' ∧ MoR h' b (mo_d m2, mo_f m2, mo_s m2, mo_l m2, (fun p => if p < 6 then mo_h m2 p else mo_h m p), fun i => if i < k then mo_w m2 i else mo_w m i)) 7 ?_ ?_ 0 _ _ (Nat.zero_le _) ⟨rfl, hf, hM'⟩
    · rintro k L' h' hk ⟨rfl, hf, hM'⟩ next
      have hB' := hB.fr hf dis
      have r1 := MoS_held hM'.1 hk
      have r2 := MoS_held hB'.1 hk
      have w1 := hM'.1.2.2.2.2.2 k hk
      have w2 := hB'.1.2.2.2.2.2 k hk
      have ek : ii (k : Int) + ii 1 = ii ((k + 1 : Nat) : Int) := by rw [ii_add]; rfl
      have nl : okL h' (b + 2) ∧ nL h' (b + 2) = 7 := by
        rw [okL_kd, nL_kd, hM'.1.2.2.2.1]
        exact ⟨Or.inr (Or.inr ⟨rfl, rfl⟩), rfl⟩
      rw [b44_60]
      simp only [MoS_okF hM'.1, MoS_okF hB'.1, r1, r2, nl, true_and, W_ok w1]
      rw [if_neg (by rw [ii_le (by omega) (by omega) (by omega) (by omega)]; omega), c117 w1 w2, ek]
      obtain ⟨A5, F5⟩ := MoR_pW hM' hk (wo h' (b2 + 3 + k))
      refine next _ _ ⟨rfl, hf.tr F5, ?_⟩
      have e : mo_sw (mo_d m2, mo_f m2, mo_s m2, mo_l m2, (fun p => if p < 6 then mo_h m2 p else mo_h m p), fun i => if i < k then mo_w m2 i else mo_w m i) k (fun j => decide (j < 256) && wo h' (b2 + 3 + k) j) = (mo_d m2, mo_f m2, mo_s m2, mo_l m2, (fun p => if p < 6 then mo_h m2 p else mo_h m p), fun i => if i < k + 1 then mo_w m2 i else mo_w m i) := by
        have : upf (fun i => if i < k then mo_w m2 i else mo_w m i) k (fun j => decide (j < 256) && wo h' (b2 + 3 + k) j) = fun i => if i < k + 1 then mo_w m2 i else mo_w m i := by
          funext i
          unfold upf
          by_cases c : i = k
          · subst c
            rw [if_pos rfl, if_pos (by omega), ← hB'.2.2.2.2.2.2 i hk]
            funext j
            by_cases cj : j < 256
            · simp [cj]
            · simp [cj, wo_big (show 256 ≤ j by omega)]
          · rw [if_neg c]; try dsimp only
            by_cases c2 : i < k
            · rw [if_pos c2, if_pos (by omega)]
            · rw [if_neg c2, if_neg (by omega)]
        exact congrArg (fun w : Nat → Wd => ((mo_d m2, mo_f m2, mo_s m2, mo_l m2, (fun p => if p < 6 then mo_h m2 p else mo_h m p), w) : Mo)) this
      rw [e] at A5
      exact A5
    · rintro L' h' ⟨rfl, hf, hM'⟩
      have nl : okL h' (b + 2) ∧ nL h' (b + 2) = 7 := by
        rw [okL_kd, nL_kd, hM'.1.2.2.2.1]
        exact ⟨Or.inr (Or.inr ⟨rfl, rfl⟩), rfl⟩
      rw [b44_60]
      simp only [MoS_okF hM'.1, nl, true_and]
      rw [if_pos (by rw [ii_le (by omega) (by omega) (by omega) (by omega)]; omega), rV_s]
      obtain ⟨g1, g2, g3, g4, g5, g6⟩ := hM'.2
      exact hK h' hf ⟨hM'.1, g1, g2, g3, g4, fun p hp => by rw [g5 p hp]; show ii ((if p < 6 then mo_h m2 p else mo_h m p : Nat) : Int) = _; rw [if_pos hp], fun i hi => by rw [g6 i hi]; show (if i < 7 then mo_w m2 i else mo_w m i) = _; rw [if_pos hi]⟩
  · exact A4
/-! the start in a land -/
def allW (n : Nat) : Wd := fun w => decide (w < 256) && decide (w < 2 ^ n)
/-- what one who knows some of the first k facts holds -/
def knK (n so kn k : Nat) : Wd := fun w => allW n w && (List.range k).all (fun f => !kn.testBit f || (w.testBit f == so.testBit f))
def sta (l : Ld) : Mo := (0, ld_so l, (fun q => decide ((la_q l q).1 = 1)), (fun _ => false), (fun _ => 0), fun i => if 1 ≤ i ∧ i < (ld_q l).length + 1 then knK (ld_n l) (ld_so l) (la_q l (i - 1)).2.2.1 (ld_n l) else allW (ld_n l))
theorem knK_0 {n so kn : Nat} : knK n so kn 0 = allW n := by
  funext w
  unfold knK
  simp
theorem knK_1 {n so kn k : Nat} (e : kn.testBit k = true) : (fun j => decide (j < 256) && (knK n so kn k j && (j.testBit k == so.testBit k))) = knK n so kn (k + 1) := by
  funext w
  unfold knK
  rw [List.range_succ, List.all_append]
  simp only [List.all_cons, List.all_nil, e, Bool.and_true, Bool.not_true, Bool.false_or]
  unfold allW
  by_cases c : w < 256
  · simp [c, Bool.and_assoc]
  · simp [c]
theorem knK_n {n so kn k : Nat} (e : kn.testBit k = false) : knK n so kn (k + 1) = knK n so kn k := by
  funext w
  unfold knK
  rw [List.range_succ, List.all_append]
  simp [e]
theorem pow_le {n : Nat} (h : n ≤ 8) : 2 ^ n ≤ 256 := Nat.pow_le_pow_right (n := 2) (by decide) h
/-- startIn -/
theorem c45 {K : mHeap → Prop} (hS : St h) (hM : MoR h b m) (hL : LaR h a l) (ok : LdOk l) (dis : a + 8 ≤ b ∨ b + 10 ≤ a) (hK : ∀ h1, Fr b 10 h h1 → MoR h1 b (sta l) → K h1) : GoCv (d + 4) 45 [.ref b, .ref a] h K := by
  have hq : (ld_q l).length ≤ 6 := ok.2.2.1
  have hn : ld_n l ≤ 8 := ok.1
  have hso : ld_so l < 256 := Nat.lt_of_lt_of_le ok.2.1 (pow_le hn)
  rw [e45, b45_0]
  obtain ⟨A1, F1⟩ := MoR_d hM 0
  rw [show ((0 : Nat) : Int) = 0 from rfl] at A1 F1
  have L1 := hL.fr F1 (by omega)
  rw [L1.2.2.1]
  obtain ⟨A2, F2⟩ := MoR_f A1 (ld_so l)
  have L2 := L1.fr F2 (by omega)
  rw [L2.2.2.2.2.1]
  obtain ⟨A3, F3⟩ := MoR_s A2 (fun q => decide ((la_q l q).1 = 1))
  have L3 := L2.fr F3 (by omega)
  have A4' := MoR_l A3 (fun _ => false)
  rw [nb_no, show ((0 : Nat) : Int) = 0 from rfl] at A4'
  obtain ⟨A4, F4⟩ := A4'
  have F14 := ((F1.tr F2).tr F3).tr F4
  refine ⟨MoS_okP hM.1 (by decide), (LaS_ok L1.1).2.1, MoS_okP A1.1 (by decide), (LaS_ok L2.1).2.2.2.1, MoS_okP A2.1 (by decide), MoS_okP A3.1 (by decide), (MoS_okF A4.1).2.2.2.2.1, ?_⟩
  rw [(MoS_okF A4.1).2.2.2.2.2.2.1]
  refine c325 (n := 6) (by have := hM.1.1; omega) A4.1.2.2.1 (by decide) (fun h2 F5 hx => ?_)
  obtain ⟨A5, F5⟩ := MoR_h A4 F5 (g := fun _ => 0) (fun p hp => hx p hp)
  have F15 := F14.tr F5
  -- all worlds for all
  refine Go_loop (fun k L' h' => L' = [some (.ref b), some (.ref a), some (.int (ii k)), none] ∧ Fr b 10 h h' ∧ MoR h' b (0, ld_so l, (fun q => decide ((la_q l q).1 = 1)), (fun _ => false), (fun _ => 0), fun i => if i < k then allW (ld_n l) else mo_w m i)) 7 ?_ ?_ 0 _ _ (Nat.zero_le _) ⟨rfl, F15, A5⟩
  · rintro k L' h' hk ⟨rfl, hf, hM'⟩ next
    have hS' := hf.St hM.1.1 hS
    have hL' := hL.fr hf (by omega)
    have r1 := MoS_held hM'.1 hk
    have w1 := hM'.1.2.2.2.2.2 k hk
    have ek : ii (k : Int) + ii 1 = ii ((k + 1 : Nat) : Int) := by rw [ii_add]; rfl
    have nl : okL h' (b + 2) ∧ nL h' (b + 2) = 7 := by
      rw [okL_kd, nL_kd, hM'.1.2.2.2.1]
      exact ⟨Or.inr (Or.inr ⟨rfl, rfl⟩), rfl⟩
    rw [b45_36]
    simp only [MoS_okF hM'.1, LaS_ok hL'.1, r1, nl, true_and, W_ok w1, hL'.2.1]
    rw [if_neg (by rw [ii_le (by omega) (by omega) (by omega) (by omega)]; omega), c118 hS' w1 (by omega), ek]
    obtain ⟨A6, F6⟩ := MoR_pW hM' hk (fun i => decide (i < 2 ^ ld_n l))
    refine next _ _ ⟨rfl, hf.tr F6, ?_⟩
    have : upf (fun i => if i < k then allW (ld_n l) else mo_w m i) k (fun j => decide (j < 256) && decide (j < 2 ^ ld_n l)) = fun i => if i < k + 1 then allW (ld_n l) else mo_w m i := by
      funext i
      unfold upf
      by_cases c : i = k
      · subst c
        rw [if_pos rfl, if_pos (by omega)]
        rfl
      · rw [if_neg c]; try dsimp only
        by_cases c2 : i < k
        · rw [if_pos c2, if_pos (by omega)]
        · rw [if_neg c2, if_neg (by omega)]
    rw [← this]
    exact A6
  · rintro L' h' ⟨rfl, hf, hM'⟩
    have nl : okL h' (b + 2) ∧ nL h' (b + 2) = 7 := by
      rw [okL_kd, nL_kd, hM'.1.2.2.2.1]
      exact ⟨Or.inr (Or.inr ⟨rfl, rfl⟩), rfl⟩
    rw [b45_36]
    simp only [MoS_okF hM'.1, nl, true_and]
    rw [if_pos (by rw [ii_le (by omega) (by omega) (by omega) (by omega)]; omega)]
    -- people
    refine Go_loop (fun k L' h' => (∃ l3, L' = [some (.ref b), some (.ref a), some (.int (ii k)), l3]) ∧ Fr b 10 h h' ∧ MoR h' b (0, ld_so l, (fun q => decide ((la_q l q).1 = 1)), (fun _ => false), (fun _ => 0), fun i => if 1 ≤ i ∧ i < k + 1 then knK (ld_n l) (ld_so l) (la_q l (i - 1)).2.2.1 (ld_n l) else if i < 7 then allW (ld_n l) else mo_w m i)) (ld_q l).length ?_ ?_ 0 _ _ (Nat.zero_le _) ⟨⟨none, rfl⟩, hf, ?_⟩
    · rintro k L' h' hk ⟨⟨l3, rfl⟩, hf, hM'⟩ next
      have hL' := hL.fr hf (by omega)
      have ek : ii (k : Int) + ii 1 = ii ((k + 1 : Nat) : Int) := by rw [ii_add]; rfl
      have hkn := (hL'.2.2.2.2.2.2.2.2.1 k hk).1
      have hqm := (ok.2.2.2.2.2.2.1 _ (la_q_mem hk)).2.2.1
      have hk8 : (la_q l k).2.2.1 < 256 := Nat.lt_of_lt_of_le hqm (pow_le hn)
      rw [b45_66]
      simp only [LaS_ok hL'.1, hL'.2.2.2.1, true_and]
      rw [if_neg (by rw [ii_le (by omega) (by omega) (by omega) (by omega)]; omega)]
      refine Go_loop (fun f L' h' => L' = [some (.ref b), some (.ref a), some (.int (ii k)), some (.int (ii f))] ∧ Fr b 10 h h' ∧ MoR h' b (0, ld_so l, (fun q => decide ((la_q l q).1 = 1)), (fun _ => false), (fun _ => 0), fun i => if i = k + 1 then knK (ld_n l) (ld_so l) (la_q l k).2.2.1 f else if 1 ≤ i ∧ i < k + 1 then knK (ld_n l) (ld_so l) (la_q l (i - 1)).2.2.1 (ld_n l) else if i < 7 then allW (ld_n l) else mo_w m i)) (ld_n l) ?_ ?_ 0 _ _ (Nat.zero_le _) ⟨rfl, hf, ?_⟩
      · rintro f L' h' hf' ⟨rfl, hfr, hM''⟩ next2
        have hS'' := hfr.St hM.1.1 hS
        have hL'' := hL.fr hfr (by omega)
        have r3 := row_ok hL''.1.2.2.1 (show k < 6 by omega) (by omega)
        have hkn2 := (hL''.2.2.2.2.2.2.2.2.1 k hk).1
        have ef : ii (f : Int) + ii 1 = ii ((f + 1 : Nat) : Int) := by rw [ii_add]; rfl
        rw [b45_76]
        simp only [LaS_ok hL''.1, hL''.2.1, true_and, LaS_fR hL''.1, r3, hkn2]
        rw [if_neg (by rw [ii_le (by omega) (by omega) (by omega) (by omega)]; omega)]
        rw [bit_n (show (la_q l k).2.2.1 < 2147483648 by omega) (show f < 32 by omega)]
        cases hb : (la_q l k).2.2.1.testBit f with
        | false =>
          rw [if_pos (by decide), b45_111, ef]
          refine next2 _ _ ⟨rfl, hfr, ?_⟩
          rw [knK_n hb]
          exact hM''
        | true =>
          rw [if_neg (by decide)]
          refine ⟨(MoS_okF hM''.1).2.2.2.2.2.2.2.2, ?_⟩
          rw [c46 hM''.1 (i := k + 1) (by omega) (by omega)]
          refine ⟨(MoS_okF hM''.1).2.2.2.2.2.2.2.2, ?_⟩
          rw [c47 hM'' (by omega) hso]
          have w1 := hM''.1.2.2.2.2.2 (k + 1) (by omega)
          refine ⟨W_oC w1, ?_⟩
          rw [c123 hS'' w1 (by omega)]
          obtain ⟨A7, F7⟩ := MoR_pW hM'' (i := k + 1) (by omega) (fun i => wo h' (b + 3 + (k + 1)) i && (i.testBit f == (ld_so l).testBit f))
          rw [b45_111, ef]
          refine next2 _ _ ⟨rfl, hfr.tr F7, ?_⟩
          have hwo := hM''.2.2.2.2.2.2 (k + 1) (by omega)
          have hwo2 : wo h' (b + 3 + (k + 1)) = knK (ld_n l) (ld_so l) (la_q l k).2.2.1 f := by
            rw [hwo]
            show (if k + 1 = k + 1 then _ else _) = _
            rw [if_pos rfl]
          rw [hwo2] at A7
          have : upf (fun i => if i = k + 1 then knK (ld_n l) (ld_so l) (la_q l k).2.2.1 f else if 1 ≤ i ∧ i < k + 1 then knK (ld_n l) (ld_so l) (la_q l (i - 1)).2.2.1 (ld_n l) else if i < 7 then allW (ld_n l) else mo_w m i) (k + 1) (fun j => decide (j < 256) && (knK (ld_n l) (ld_so l) (la_q l k).2.2.1 f j && (j.testBit f == (ld_so l).testBit f))) = fun i => if i = k + 1 then knK (ld_n l) (ld_so l) (la_q l k).2.2.1 (f + 1) else if 1 ≤ i ∧ i < k + 1 then knK (ld_n l) (ld_so l) (la_q l (i - 1)).2.2.1 (ld_n l) else if i < 7 then allW (ld_n l) else mo_w m i := by
            funext i
            unfold upf
            by_cases c : i = k + 1
            · rw [if_pos c, if_pos c, knK_1 hb]
            · rw [if_neg c]; dsimp only; rw [if_neg c, if_neg c]
          rw [← this]
          rw [← hwo2] at A7 ⊢
          exact A7
      · rintro L' h' ⟨rfl, hfr, hM''⟩
        have hL'' := hL.fr hfr (by omega)
        rw [b45_76]
        simp only [LaS_ok hL''.1, hL''.2.1, true_and]
        rw [if_pos (by rw [ii_le (by omega) (by omega) (by omega) (by omega)]; omega), ek]
        refine next _ _ ⟨⟨_, rfl⟩, hfr, ?_⟩
        have : (fun i => if i = k + 1 then knK (ld_n l) (ld_so l) (la_q l k).2.2.1 (ld_n l) else if 1 ≤ i ∧ i < k + 1 then knK (ld_n l) (ld_so l) (la_q l (i - 1)).2.2.1 (ld_n l) else if i < 7 then allW (ld_n l) else mo_w m i) = fun i => if 1 ≤ i ∧ i < k + 1 + 1 then knK (ld_n l) (ld_so l) (la_q l (i - 1)).2.2.1 (ld_n l) else if i < 7 then allW (ld_n l) else mo_w m i := by
          funext i
          by_cases c : i = k + 1
          · subst c
            rw [if_pos rfl, if_pos (by omega)]
            rfl
          · rw [if_neg c]; try dsimp only
            by_cases c2 : 1 ≤ i ∧ i < k + 1
            · rw [if_pos c2, if_pos (by omega)]
            · rw [if_neg c2, if_neg (show ¬ (1 ≤ i ∧ i < k + 1 + 1) by omega)]
        rw [← this]
        exact hM''
      · have : (fun i => if i = k + 1 then knK (ld_n l) (ld_so l) (la_q l k).2.2.1 0 else if 1 ≤ i ∧ i < k + 1 then knK (ld_n l) (ld_so l) (la_q l (i - 1)).2.2.1 (ld_n l) else if i < 7 then allW (ld_n l) else mo_w m i) = fun i => if 1 ≤ i ∧ i < k + 1 then knK (ld_n l) (ld_so l) (la_q l (i - 1)).2.2.1 (ld_n l) else if i < 7 then allW (ld_n l) else mo_w m i := by
          funext i
          by_cases c : i = k + 1
          · subst c
            rw [if_pos rfl, if_neg (by omega), if_pos (by omega), knK_0]
          · rw [if_neg c]
        rw [this]
        exact hM'
    · rintro L' h' ⟨⟨l3, rfl⟩, hf, hM'⟩
      have hL' := hL.fr hf (by omega)
      rw [b45_66]
      simp only [LaS_ok hL'.1, hL'.2.2.2.1, true_and]
      rw [if_pos (by rw [ii_le (by omega) (by omega) (by omega) (by omega)]; omega), rV_s]
      obtain ⟨g1, g2, g3, g4, g5, g6⟩ := hM'.2
      refine hK h' hf ⟨hM'.1, g1, g2, g3, g4, g5, fun i hi => ?_⟩
      rw [g6 i hi]
      show (if 1 ≤ i ∧ i < (ld_q l).length + 1 then _ else if i < 7 then allW (ld_n l) else mo_w m i) = (if 1 ≤ i ∧ i < (ld_q l).length + 1 then _ else allW (ld_n l))
      rw [if_pos hi]
    · have : (fun i => if 1 ≤ i ∧ i < 0 + 1 then knK (ld_n l) (ld_so l) (la_q l (i - 1)).2.2.1 (ld_n l) else if i < 7 then allW (ld_n l) else mo_w m i) = fun i => if i < 7 then allW (ld_n l) else mo_w m i := by
        funext i
        rw [if_neg (by omega)]
      rw [this]
      exact hM'
end M3
