/-! THE REFERENCE: a day passes, one crosses -/
section Rr
variable {d : Nat} {h h1 h2 : mHeap} {l : Ld} {m m' : Mo} {S : List Wd} {k n q f w b t : Nat} {V : Wd} {x : Nat → Int32} {v : Int32}
theorem tOnK_mem (ok : LdOk l) {dd t f : Nat} (hf : f ∈ tOnK l dd t) : f < ld_n l := by
  unfold tOnK at hf
  obtain ⟨x, hx, rfl⟩ := List.mem_map.mp hf
  have := List.mem_of_mem_take (List.mem_filter.mp hx).1
  exact (ok.2.2.2.2.2.2.2.2.2 x this).1
def DyV (h h' : mHeap) (l : Ld) (m : Mo) (t : Nat) : Prop := RF [] [149, 153, 154, 163, 193] h h' ∧ xA h' 149 6 = ii ((mo_d m + 1 : Nat) : Int) ∧ xA h' 149 1 = ii ((mo_f m ^^^ xAll (tOnK l (mo_d m + 1) t) : Nat) : Int) ∧ (∀ i, ¬ i = 6 → ¬ i = 1 → xA h' 149 i = xA h 149 i) ∧ (∀ q, q < 6 → xA h' 153 q = ii 0 ∧ xA h' 154 q = ii 0) ∧ (∀ q, q < (ld_q l).length → rw8 (xA h' 163) q = sprL (tOnK l (mo_d m + 1) t) (mo_w m (q + 1))) ∧ rw8 (xA h' 163) 6 = sprL (tOnK l (mo_d m + 1) t) (mo_w m 0)
theorem MoJ_mid (ok : LdOk l) (hJ : MoJ l m) (hd : mo_d m < 20000) : MoJ l (mid l m) := by
  refine ⟨?_, ?_, fun q => ?_, fun i w hi hw => ?_⟩
  · show mo_f m ^^^ xAll (tOn l (mo_d m + 1)) < _
    exact Nat.xor_lt_two_pow hJ.1 (xAll_ltN _ _ 0 (Nat.pow_pos (by decide)) (fun f hf => tOn_mem ok hf))
  · show mo_d m + 1 ≤ 20000
    omega
  · show 0 ≤ 24
    decide
  · have e : mo_w (mid l m) i = if i < (ld_q l).length + 1 then sprL (tOn l (mo_d m + 1)) (mo_w m i) else mo_w m i := rfl
    rw [e] at hw
    by_cases c : i < (ld_q l).length + 1
    · rw [if_pos c] at hw
      exact sprL_W2 _ _ (fun f hf => tOn_mem ok hf) (fun x hx => hJ.2.2.2 i x hi hx) w hw
    · rw [if_neg c] at hw
      exact hJ.2.2.2 i w hi hw
theorem c277_13 {K : mHeap → Prop} (hR : RS h) (hG : ∀ h1, RF [] [153, 154] h h1 → (∀ q, q < 6 → xA h1 153 q = ii 0 ∧ xA h1 154 q = ii 0) → Go d 277 41 [some (.ref 148), some (.int (ii 0))] [] h1 (rV K)) : Go d 277 13 [some (.ref 148), some (.int (ii 0))] [] h (rV K) := by
  refine Go_loop (fun j L h' => L = [some (.ref 148), some (.int (ii (j : Nat)))] ∧ RF [] [153, 154] h h' ∧ ∀ q, q < j → xA h' 153 q = ii 0 ∧ xA h' 154 q = ii 0) 6 ?_ ?_ 0 _ h (Nat.zero_le _) ⟨rfl, RF.rf, fun q hq => absurd hq (Nat.not_lt_zero _)⟩
  · rintro j L h' hj ⟨rfl, z, x2⟩ nx
    have hR' : RS h' := z.rs hR (by decide)
    have hR2 : RS (sI h' 153 (ii (j : Nat)) (ii 0)) := hR'.si (by decide)
    rw [b277_13, if_neg (by rw [show ii 6 = ii (6 : Int) from rfl, ii_le (by omega) (by omega) (by omega) (by omega)]; omega)]
    simp only [(RS.ok hR'), (RS.fr hR'), true_and, and_true, true_or, or_true, hR'.x153 (show j < 6 by omega), (RS.ok hR2), (RS.fr hR2), true_and, and_true, true_or, or_true, hR2.x154 (show j < 6 by omega)]
    refine ⟨by decide, by decide, ?_⟩
    rw [show ii (j : Nat) + ii 1 = ii ((j + 1 : Nat) : Int) from ii_add _ _]
    refine nx _ _ ⟨rfl, z.tr ((RF.sI.wd (by decide) (by decide)).tr (RF.sI.wd (by decide) (by decide))), fun q hq => ?_⟩
    rw [hR2.s154 hj, hR2.s154 hj, if_neg (by decide), if_pos rfl, hR'.s153 hj, hR'.s153 hj, if_pos rfl, if_neg (by decide)]
    unfold upf
    by_cases c : q = j
    · rw [if_pos c]; exact ⟨rfl, if_pos c⟩
    · rw [if_neg c, if_neg c]; exact x2 q (by omega)
  · rintro L h' ⟨rfl, z, x2⟩
    rw [b277_13, if_pos (show ii 6 ≤ ii ((6 : Nat) : Int) by decide)]
    exact hG h' z x2
theorem c277 {K : mHeap → Prop} (W : Rw h l m S) (hd : mo_d m < 20000) (hK : ∀ h1, RF [] [149, 153, 154, 163, 193] h h1 → (∀ i, ¬ i = 6 → ¬ i = 1 → xA h1 149 i = xA h 149 i) → Rw h1 l (mid l m) S → K h1) : GoCv (d + 5) 277 [.ref 148] h K := by
  have t8 := W.ok.2.2.2.2.2.1
  rw [e277, b277_0]
  simp only [(RS.ok W.1), (RS.fr W.1), true_and, and_true, true_or, or_true, W.1.l149, W.day]
  refine ⟨by decide, ?_⟩
  rw [show ii (mo_d m : Nat) + ii 1 = ii ((mo_d m + 1 : Nat) : Int) from ii_add _ _]
  have e6 : ∀ r, xA (sI h 149 (ii 6) (ii ((mo_d m + 1 : Nat) : Int))) r = if 149 = r then upf (xA h 149) 6 (ii ((mo_d m + 1 : Nat) : Int)) else xA h r := fun r => W.1.s149 (i := 6) (by decide)
  have hR1 : RS (sI h 149 (ii 6) (ii ((mo_d m + 1 : Nat) : Int))) := W.1.si (by decide)
  refine c277_13 hR1 (fun h1 z1 y1 => ?_)
  have z0 : RF [] [149, 153, 154, 163, 193] h h1 := (RF.sI.wd (by decide) (by decide)).tr (z1.wd (by decide) (by decide))
  have a149 : xA h1 149 = upf (xA h 149) 6 (ii ((mo_d m + 1 : Nat) : Int)) := by rw [z1.ae (by decide) (by decide), e6, if_pos rfl]
  have a163 : xA h1 163 = xA h 163 := by rw [z1.ae (by decide) (by decide), e6, if_neg (by decide)]
  refine Go_loop (fun j L h' => L = [some (.ref 148), some (.int (ii (j : Nat)))] ∧ DyV h h' l m j) (ld_t l).length ?_ ?_ 0 _ h1 (Nat.zero_le _) ⟨rfl, z0, by rw [a149]; unfold upf; rw [if_pos rfl], ?_, fun i i6 i1 => by rw [a149]; unfold upf; rw [if_neg i6], y1, fun q hq => by rw [a163]; exact (W.mo hq).2.2.2, by rw [a163]; exact W.br⟩
  · rintro j L h' hj ⟨rfl, D⟩ nx
    obtain ⟨z, x1, x2, x3, x4, x5, x6⟩ := D
    have hR' : RS h' := z.rs W.1 (by decide)
    have e5 : xA h' 149 5 = ii ((ld_t l).length : Nat) := by rw [x3 5 (by decide) (by decide)]; exact W.nt
    have tt := W.tt hj
    have tk := W.ok.t hj
    have b1 : xA h' 160 j = ii ((la_t l j).2 : Nat) := by rw [z.ae (by decide) (by decide)]; exact tt.2
    have b2 : xA h' 159 j = ii ((la_t l j).1 : Nat) := by rw [z.ae (by decide) (by decide)]; exact tt.1
    rw [b277_41]
    simp only [(RS.ok hR'), (RS.fr hR'), true_and, and_true, true_or, or_true, hR'.l149, e5, hR'.x160 (show j < 8 by omega), hR'.x159 (show j < 8 by omega), b1, b2, x1, x2]
    rw [if_neg (by rw [ii_le (by omega) (by omega) (by omega) (by omega)]; omega)]
    by_cases c : (la_t l j).2 = mo_d m + 1
    · rw [if_neg (by rw [c]; exact fun n => n rfl)]
      have f8 : (la_t l j).1 < 32 := by omega
      rw [shl1 f8, xor_ii]
      refine ⟨by decide, ?_⟩
      have s1 : tOnK l (mo_d m + 1) (j + 1) = tOnK l (mo_d m + 1) j ++ [(la_t l j).1] := by rw [tOnK_succ hj, if_pos c]
      have s2 : (mo_f m ^^^ xAll (tOnK l (mo_d m + 1) j)) ^^^ 2 ^ (la_t l j).1 = mo_f m ^^^ xAll (tOnK l (mo_d m + 1) (j + 1)) := by rw [s1, xAll_app, Nat.xor_assoc]
      rw [s2]
      have e1 : ∀ r, xA (sI h' 149 (ii 1) (ii ((mo_f m ^^^ xAll (tOnK l (mo_d m + 1) (j + 1)) : Nat) : Int))) r = if 149 = r then upf (xA h' 149) 1 (ii ((mo_f m ^^^ xAll (tOnK l (mo_d m + 1) (j + 1)) : Nat) : Int)) else xA h' r := fun r => hR'.s149 (i := 1) (by decide)
      have hR2 : RS (sI h' 149 (ii 1) (ii ((mo_f m ^^^ xAll (tOnK l (mo_d m + 1) (j + 1)) : Nat) : Int))) := hR'.si (by decide)
      have b3 : xA (sI h' 149 (ii 1) (ii ((mo_f m ^^^ xAll (tOnK l (mo_d m + 1) (j + 1)) : Nat) : Int))) 159 j = ii ((la_t l j).1 : Nat) := by rw [e1, if_neg (by decide)]; exact b2
      simp only [(RS.ok hR2), (RS.fr hR2), true_and, and_true, true_or, or_true, hR2.x159 (show j < 8 by omega), b3]
      have z2 : RF [] [149, 153, 154, 163, 193] h (sI h' 149 (ii 1) (ii ((mo_f m ^^^ xAll (tOnK l (mo_d m + 1) (j + 1)) : Nat) : Int))) := z.tr (RF.sI.wd (by decide) (by decide))
      have q6 := W.q6
      -- the world of cells as it stands, for the forgetting
      have W2 : Rw (sI h' 149 (ii 1) (ii ((mo_f m ^^^ xAll (tOnK l (mo_d m + 1) (j + 1)) : Nat) : Int))) l (mo_d m + 1, mo_f m ^^^ xAll (tOnK l (mo_d m + 1) (j + 1)), mo_s m, (fun _ => false), (fun _ => 0), fun i => sprL (tOnK l (mo_d m + 1) j) (mo_w m i)) S := by
        refine W.mv z2 (by decide) (by decide) (by decide) (fun i i6 i1 _ _ => by rw [e1, if_pos rfl]; unfold upf; rw [if_neg i1]; exact x3 i i6 i1) ⟨⟨?_, ?_⟩, fun q hq => ⟨?_, ?_, ?_, ?_⟩, ?_⟩ ⟨?_, ?_, fun q => by show 0 ≤ 24; decide, fun i w hi hw => ?_⟩
        · rw [lv_x (by decide), e1, if_pos rfl]; unfold upf; rw [if_neg (by decide)]; exact x1
        · rw [lv_x (by decide), e1, if_pos rfl]; unfold upf; rw [if_pos rfl]; rfl
        · rw [lv_x (by decide), e1, if_neg (by decide), z.ae (by decide) (by decide)]; exact (W.mo hq).1
        · rw [lv_x (by decide), e1, if_neg (by decide)]; exact (x4 q (by omega)).1
        · rw [lv_x (by decide), e1, if_neg (by decide)]; exact (x4 q (by omega)).2
        · rw [lv_x (by decide), e1, if_neg (by decide)]; exact x5 q hq
        · rw [lv_x (by decide), e1, if_neg (by decide)]; exact x6
        · exact Nat.xor_lt_two_pow W.mj.1 (xAll_ltN _ _ 0 (Nat.pow_pos (by decide)) (fun f hf => tOnK_mem W.ok hf))
        · show mo_d m + 1 ≤ 20000; omega
        · exact sprL_W2 _ _ (fun f hf => tOnK_mem W.ok hf) (fun x hx => W.mj.2.2.2 i x hi hx) w hw
      refine c276 W2 tk.2.1 (fun h3 z3 y3 => ?_)
      rw [b277_94, show ii (j : Nat) + ii 1 = ii ((j + 1 : Nat) : Int) from ii_add _ _]
      have a3 : xA h3 149 = xA (sI h' 149 (ii 1) (ii ((mo_f m ^^^ xAll (tOnK l (mo_d m + 1) (j + 1)) : Nat) : Int))) 149 := z3.ae (by decide) (by decide)
      refine nx _ _ ⟨rfl, z2.tr (z3.wd (by decide) (by decide)), ?_, ?_, fun i i6 i1 => ?_, fun q hq => ?_, fun q hq => ?_, ?_⟩
      · rw [a3, e1, if_pos rfl]; unfold upf; rw [if_neg (by decide)]; exact x1
      · rw [a3, e1, if_pos rfl]; unfold upf; rw [if_pos rfl]
      · rw [a3, e1, if_pos rfl]; unfold upf; rw [if_neg i1]; exact x3 i i6 i1
      · rw [z3.ae (by decide) (by decide), z3.ae (by decide) (by decide), e1, e1, if_neg (by decide), if_neg (by decide)]; exact x4 q hq
      · have g := (W2.mo hq).2.2.2
        rw [y3 q (by omega) (fun w hw => by rw [g] at hw; exact W2.mj.2.2.2 (q + 1) w (by omega) hw), g, s1, sprL_app]
        rfl
      · have g := W2.br
        rw [y3 6 (by omega) (fun w hw => by rw [g] at hw; exact W2.mj.2.2.2 0 w (by omega) hw), g, s1, sprL_app]
        rfl
    · rw [if_pos (by rw [ii_eq (by omega) (by omega) (by omega) (by omega)]; omega)]
      rw [b277_94, show ii (j : Nat) + ii 1 = ii ((j + 1 : Nat) : Int) from ii_add _ _]
      have s1 : tOnK l (mo_d m + 1) (j + 1) = tOnK l (mo_d m + 1) j := by rw [tOnK_succ hj, if_neg c, List.append_nil]
      refine nx _ _ ⟨rfl, z, x1, by rw [s1]; exact x2, x3, x4, fun q hq => by rw [s1]; exact x5 q hq, by rw [s1]; exact x6⟩
  · rintro L h' ⟨rfl, D⟩
    obtain ⟨z, x1, x2, x3, x4, x5, x6⟩ := D
    have hR' : RS h' := z.rs W.1 (by decide)
    have e5 : xA h' 149 5 = ii ((ld_t l).length : Nat) := by rw [x3 5 (by decide) (by decide)]; exact W.nt
    have q6 := W.q6
    rw [b277_41]
    simp only [(RS.ok hR'), (RS.fr hR'), true_and, and_true, true_or, or_true, hR'.l149, e5, rV_s]
    rw [if_pos (Int32.le_refl _)]
    rw [tOnK_all] at x2 x5 x6
    refine hK h' z x3 (W.mv z (by decide) (by decide) (by decide) (fun i i6 i1 _ _ => x3 i i6 i1) ⟨⟨?_, ?_⟩, fun q hq => ⟨?_, ?_, ?_, ?_⟩, ?_⟩ (MoJ_mid W.ok W.mj hd))
    · rw [lv_x (by decide)]; exact x1
    · rw [lv_x (by decide)]; exact x2
    · rw [lv_x (by decide), z.ae (by decide) (by decide)]; exact (W.mo hq).1
    · rw [lv_x (by decide)]; exact (x4 q (by omega)).1
    · rw [lv_x (by decide)]; exact (x4 q (by omega)).2
    · rw [lv_x (by decide), x5 q hq]
      show _ = if q + 1 < (ld_q l).length + 1 then sprL (tOn l (mo_d m + 1)) (mo_w m (q + 1)) else mo_w m (q + 1)
      rw [if_pos (by omega)]
    · rw [lv_x (by decide), x6]
      show _ = if 0 < (ld_q l).length + 1 then sprL (tOn l (mo_d m + 1)) (mo_w m 0) else mo_w m 0
      rw [if_pos (by omega)]
  · rw [a149]
    unfold upf
    rw [if_neg (by decide), W.so]
    have : tOnK l (mo_d m + 1) 0 = [] := by unfold tOnK; rw [List.take_zero]; rfl
    rw [this]
    show _ = ii ((mo_f m ^^^ 0 : Nat) : Int)
    rw [Nat.xor_zero]
theorem gain_sub {v w : Wd} : gainW v w = 0 ↔ sub v w := by
  unfold gainW sub
  rw [cB_zero]
  constructor
  · intro g i hi a
    have := g i hi
    rw [a] at this
    cases e : w i with
    | true => rfl
    | false => rw [e] at this; cases this
  · intro g i hi
    cases a : v i with
    | false => rfl
    | true => rw [g i hi a]; rfl
theorem cB_256 {w : Wd} : cB w 256 ≤ 256 := cB_le _ _
theorem c272 {K : Int32 → mHeap → Prop} (W : Rw h l m S) (hq : q < (ld_q l).length) (hk : k < S.length) (hK : ∀ h1, RF [] [150, 154, 163] h h1 → Rw h1 l (cro m q (la_q l q).2.1 (sy S k)).2 S → K (ii ((cro m q (la_q l q).2.1 (sy S k)).1 : Nat)) h1) : GoCi (d + 3) 272 [.ref 148, .int (ii (q : Nat)), .int (ii (k : Nat))] h K := by
  have q6 := W.q6
  have s24 := W.s24
  have wt := PgI.w (P := (l, m, [], [], 0)) W.ok q hq
  have wt : (la_q l q).2.1 ≤ 128 := wt
  rw [e272, b272_0]
  simp only [(RS.ok W.1), (RS.fr W.1), true_and, and_true, true_or, or_true, W.1.l149, W.so]
  rw [c250 W.1 (by omega) W.f8, W.ss hk]
  have fall : (sy S k (mo_f m) = false ∨ gainW (mo_w m 0) (sy S k) = 0) → ∀ l3, Go (d + 2) 272 24 [some (.ref 148), some (.int (ii (q : Nat))), some (.int (ii (k : Nat))), l3] [] h (rI K) := fun c l3 => by
    rw [b272_24]
    have hR1 : RS (sI h 154 (ii (q : Nat)) (ii 1)) := W.1.si (by decide)
    have a154 : ∀ r, xA (sI h 154 (ii (q : Nat)) (ii 1)) r = if 154 = r then upf (xA h 154) q (ii 1) else xA h r := fun r => W.1.s154 (by omega)
    have z : RF [] [154] h (sI h 154 (ii (q : Nat)) (ii 1)) := RF.sI
    have e1 : xA (sI h 154 (ii (q : Nat)) (ii 1)) 149 1 = ii (mo_f m : Nat) := by rw [a154, if_neg (by decide)]; exact W.so
    simp only [(RS.ok W.1), (RS.fr W.1), true_and, and_true, true_or, or_true, W.1.x154 (show q < 6 by omega), (RS.ok hR1), (RS.fr hR1), true_and, and_true, true_or, or_true, hR1.l149, e1]
    refine ⟨by decide, ?_⟩
    have e183 : xA (sI h 154 (ii (q : Nat)) (ii 1)) 183 = xA h 183 := by rw [a154, if_neg (by decide)]
    rw [c250 hR1 (by omega) W.f8, e183, W.ss hk]
    have ce : cro m q (la_q l q).2.1 (sy S k) = ((if sy S k (mo_f m) = true then 1 else 0), (m.1, m.2.1, m.2.2.1, upf (mo_l m) q true, m.2.2.2.2)) := by
      unfold cro
      rw [if_pos c]
    rw [ce] at hK
    have kk := hK _ (z.wd (by decide) (by decide)) (W.mv z (by decide) (by decide) (by decide) (fun i _ _ _ _ => by rw [a154, if_neg (by decide)]) ⟨⟨?_, ?_⟩, fun p hp => ?_, ?_⟩ ⟨W.mj.1, W.mj.2.1, W.mj.2.2.1, W.mj.2.2.2⟩)
    · cases e : sy S k (mo_f m) with
      | true => rw [e] at kk; rw [if_pos rfl, if_neg (by decide), rI_s]; exact kk
      | false => rw [e] at kk; rw [if_neg Bool.false_ne_true, if_pos rfl, rI_s]; exact kk
    · rw [lv_x (by decide), a154, if_neg (by decide)]; exact W.day
    · rw [lv_x (by decide), a154, if_neg (by decide)]; exact W.so
    · have g := W.mo hp
      refine ⟨?_, ?_, ?_, ?_⟩
      · rw [lv_x (by decide), a154, if_neg (by decide)]; exact g.1
      · rw [lv_x (by decide), a154, if_neg (by decide)]; exact g.2.1
      · rw [lv_x (by decide), a154, if_pos rfl]
        show upf (xA h 154) q (ii 1) p = ii (bt (upf (mo_l m) q true p))
        unfold upf
        by_cases c3 : p = q
        · rw [if_pos c3, if_pos c3]; rfl
        · rw [if_neg c3, if_neg c3]; exact g.2.2.1
      · rw [lv_x (by decide), a154, if_neg (by decide)]; exact g.2.2.2
    · rw [lv_x (by decide), a154, if_neg (by decide)]; exact W.br
  cases e : sy S k (mo_f m) with
  | false =>
    rw [if_neg Bool.false_ne_true, if_pos rfl]
    exact fall (Or.inl e) _
  | true =>
    rw [if_pos rfl, if_neg (by decide)]
    simp only [(RS.ok W.1), (RS.fr W.1), true_and, and_true, true_or, or_true]
    rw [show ii 6 = ii ((6 : Nat) : Int) from rfl, c247 W.1 (by omega) (by omega), W.ss hk, W.br]
    by_cases g : sub (mo_w m 0) (sy S k)
    · rw [bP_t g, if_neg (by decide)]
      exact fall (Or.inr (gain_sub.mpr g)) _
    · rw [bP_f g, if_pos rfl]
      simp only [(RS.ok W.1), (RS.fr W.1), true_and, and_true, true_or, or_true]
      rw [c248 W.1 (by omega), W.ss hk, W.br]
      simp only [(RS.ok W.1), (RS.fr W.1), true_and, and_true, true_or, or_true, W.1.x151 (show q < 6 by omega), W.qq hq]
      have gl : gainW (mo_w m 0) (sy S k) ≤ 256 := cB_256
      have nf : ¬ (sy S k (mo_f m) = false ∨ gainW (mo_w m 0) (sy S k) = 0) := fun n => n.elim (fun a => by rw [e] at a; cases a) (fun a => g (gain_sub.mp a))
      have hcap : ∀ w, capW (mo_w m 0) (sy S k) w = true → w < 2 ^ ld_n l := capW_W2 (fun w hw => W.mj.2.2.2 0 w (by decide) hw)
      have told : ∀ (b : Bool) l3, (∀ h1, Hw h h1 6 (capW (mo_w m 0) (sy S k)) → Go (d + 2) 272 104 [some (.ref 148), some (.int (ii (q : Nat))), some (.int (ii (k : Nat))), some (.int (if b = true then ii 1 else ii 0))] [.int (if b = true then ii (bt (!mo_s m q)) else ii (bt (mo_s m q))), .int (ii (q : Nat)), .ref 150] h1 (rI K)) → Go (d + 2) 272 70 [some (.ref 148), some (.int (ii (q : Nat))), some (.int (ii (k : Nat))), l3] [.int (if b = true then ii 1 else ii 0)] h (rI K) := fun b l3 hG => by
        rw [b272_70]
        simp only [(RS.ok W.1), (RS.fr W.1), true_and, and_true, true_or, or_true]
        rw [show ii 6 = ii ((6 : Nat) : Int) from rfl]
        refine c249 W.1 (by decide) (by omega) (fun h1 z => ?_)
        rw [W.ss hk, W.br] at z
        have hR1 := z.rs W.1
        have g1 : xA h1 150 q = ii (bt (mo_s m q)) := by rw [z.1.ae (by decide) (by decide)]; exact (W.mo hq).1
        simp only [(RS.ok hR1), (RS.fr hR1), true_and, and_true, true_or, or_true, hR1.x150 (show q < 6 by omega), g1]
        have kk := hG h1 z
        cases b with
        | true =>
          rw [if_neg (by decide)]
          have : ii 1 - ii (bt (mo_s m q)) = ii (bt (!mo_s m q)) := by cases mo_s m q <;> rfl
          rw [this]
          exact kk
        | false =>
          rw [if_pos (by decide)]
          exact kk
      by_cases c : gainW (mo_w m 0) (sy S k) < (la_q l q).2.1
      · rw [if_pos (by rw [ii_lt (by omega) (by omega) (by omega) (by omega)]; omega)]
        refine told false _ (fun h1 z => ?_)
        have W1 := z.hw W (Or.inr rfl) hcap
        have hR1 := z.rs W.1
        rw [if_pos rfl] at W1
        have ce : cro m q (la_q l q).2.1 (sy S k) = (2, mo_sw m 0 (capW (mo_w m 0) (sy S k))) := by
          unfold cro
          rw [if_neg nf, if_pos c]
        rw [ce] at hK
        rw [b272_104]
        refine ⟨⟨by decide, (hR1.x150 (show q < 6 by omega)).1⟩, ?_⟩
        rw [if_pos (by decide), rI_s]
        have z2 : RF [] [150] h1 (sI h1 150 (ii (q : Nat)) (if false = true then ii (bt (!mo_s m q)) else ii (bt (mo_s m q)))) := RF.sI
        have a150 : ∀ r, xA (sI h1 150 (ii (q : Nat)) (if false = true then ii (bt (!mo_s m q)) else ii (bt (mo_s m q)))) r = xA h1 r := fun r => by
          rw [hR1.s150 (show q < 6 by omega)]
          by_cases c2 : 150 = r
          · rw [if_pos c2, ← c2]
            funext i
            unfold upf
            by_cases c3 : i = q
            · rw [if_pos c3, c3, (W1.mo hq).1]
              rfl
            · rw [if_neg c3]
          · rw [if_neg c2]
        refine hK _ ((z.1.wd (by decide) (by decide)).tr (z2.wd (by decide) (by decide))) (W1.mv z2 (by decide) (by decide) (by decide) (fun i _ _ _ _ => by rw [a150]) ?_ W1.mj)
        have rm := W1.2.2.1.1
        unfold RMv at rm ⊢
        rw [lv_x (by decide), lv_x (by decide), lv_x (by decide), lv_x (by decide), lv_x (by decide)] at rm ⊢
        simp only [a150]
        exact rm
      · rw [if_neg (by rw [ii_lt (by omega) (by omega) (by omega) (by omega)]; omega)]
        refine told true _ (fun h1 z => ?_)
        have W1 := z.hw W (Or.inr rfl) hcap
        have hR1 := z.rs W.1
        rw [if_pos rfl] at W1
        have ce : cro m q (la_q l q).2.1 (sy S k) = (3, (m.1, m.2.1, upf (mo_s m) q (!mo_s m q), m.2.2.2.1, m.2.2.2.2.1, upf (mo_w m) 0 (capW (mo_w m 0) (sy S k)))) := by
          unfold cro
          rw [if_neg nf, if_neg c]
        rw [ce] at hK
        rw [b272_104]
        refine ⟨⟨by decide, (hR1.x150 (show q < 6 by omega)).1⟩, ?_⟩
        rw [if_neg (by decide), rI_s]
        have z2 : RF [] [150] h1 (sI h1 150 (ii (q : Nat)) (if true = true then ii (bt (!mo_s m q)) else ii (bt (mo_s m q)))) := RF.sI
        have a150 : ∀ r, xA (sI h1 150 (ii (q : Nat)) (if true = true then ii (bt (!mo_s m q)) else ii (bt (mo_s m q)))) r = if 150 = r then upf (xA h1 150) q (ii (bt (!mo_s m q))) else xA h1 r := fun r => hR1.s150 (show q < 6 by omega)
        refine hK _ ((z.1.wd (by decide) (by decide)).tr (z2.wd (by decide) (by decide))) (W1.mv z2 (by decide) (by decide) (by decide) (fun i _ _ _ _ => by rw [a150, if_neg (by decide)]) ⟨⟨?_, ?_⟩, fun p hp => ?_, ?_⟩ ⟨W1.mj.1, W1.mj.2.1, W1.mj.2.2.1, W1.mj.2.2.2⟩)
        · rw [lv_x (by decide), a150, if_neg (by decide)]; exact W1.day
        · rw [lv_x (by decide), a150, if_neg (by decide)]; exact W1.so
        · have g := W1.mo hp
          refine ⟨?_, ?_, ?_, ?_⟩
          · rw [lv_x (by decide), a150, if_pos rfl]
            show upf (xA h1 150) q (ii (bt (!mo_s m q))) p = ii (bt (upf (mo_s m) q (!mo_s m q) p))
            unfold upf
            by_cases c3 : p = q
            · rw [if_pos c3, if_pos c3]
            · rw [if_neg c3, if_neg c3]; exact g.1
          · rw [lv_x (by decide), a150, if_neg (by decide)]; exact g.2.1
          · rw [lv_x (by decide), a150, if_neg (by decide)]; exact g.2.2.1
          · rw [lv_x (by decide), a150, if_neg (by decide)]; exact g.2.2.2
        · rw [lv_x (by decide), a150, if_neg (by decide)]; exact W1.br
end Rr
