/-! THE REFERENCE: plans, the pieces -/
noncomputable def sq (S : List Wd) (P : Pg) (l : List Nat) : Nat → Wd → Nat → List Nat
  | 0, _, _ => []
  | k + 1, v, ov => if plF S P l (k + 1) v ov < 32 then [] else (plF S P l (k + 1) v ov % 32) :: sq S P l k (capW v (sy S (plF S P l (k + 1) v ov % 32 % 8))) (ov ||| 2 ^ (plF S P l (k + 1) v ov % 32 / 8))
def vL (S : List Wd) (v0 : Wd) (T : List Nat) : Wd := T.foldl (fun v t => capW v (sy S (t % 8))) v0
def oL (T : List Nat) : Nat := T.foldl (fun o t => o ||| 2 ^ (t / 8)) 0
section Sf
variable {d : Nat} {h h1 h0 : mHeap} {l : List Nat} {L : Ld} {m m' : Mo} {S : List Wd} {P : Pg} {s : Cs} {x y z : Int} {q k n o p at_ t ov : Nat} {v v0 : Wd} {Q : Option Value → mHeap → Prop} {T B : List Nat} {sd : Bool}
theorem sq_s : sq S P l (k + 1) v ov = if plF S P l (k + 1) v ov < 32 then [] else (plF S P l (k + 1) v ov % 32) :: sq S P l k (capW v (sy S (plF S P l (k + 1) v ov % 32 % 8))) (ov ||| 2 ^ (plF S P l (k + 1) v ov % 32 / 8)) := rfl
theorem sq_at (h4 : l.length ≤ 4) : ∀ j i, (plT S P l v0 i).1 < 16 → (plT S P l v0 i).2 < 256 → j < plV S P l v0 i / 32 → (sq S P l (l.length - i) (vtW S v0 (plT S P l v0 i).2) (plT S P l v0 i).1).getD j 0 = plV S P l v0 (i + j) % 32 := by
  intro j
  induction j with
  | zero =>
    intro i h1 h2 hj
    have hv : 32 ≤ plV S P l v0 i := by omega
    have st := plV_s h4 h1 h2 hv
    obtain ⟨k, hk⟩ : ∃ k, l.length - i = k + 1 := ⟨l.length - i - 1, by omega⟩
    have e : plF S P l (k + 1) (vtW S v0 (plT S P l v0 i).2) (plT S P l v0 i).1 = plV S P l v0 i := by unfold plV; rw [hk]
    rw [hk, sq_s, e, if_neg (by omega)]
    rfl
  | succ j ih =>
    intro i h1 h2 hj
    have hv : 32 ≤ plV S P l v0 i := by omega
    have st := plV_s h4 h1 h2 hv
    obtain ⟨k, hk⟩ : ∃ k, l.length - i = k + 1 := ⟨l.length - i - 1, by omega⟩
    have e : plF S P l (k + 1) (vtW S v0 (plT S P l v0 i).2) (plT S P l v0 i).1 = plV S P l v0 i := by unfold plV; rw [hk]
    rw [hk, sq_s, e, if_neg (by omega), vtW_s (by omega)]
    have r := ih (i + 1) st.2.2.2.2.2.1 st.2.2.2.2.2.2 (by omega)
    rw [show l.length - (i + 1) = k by omega, plT_s] at r
    rw [show i + (j + 1) = i + 1 + j by omega, ← r]
    rfl
theorem thK_mem {k i : Nat} (hi : i < (thK P sd k).length) : mo_l (pg_m P) ((thK P sd k).getD i 0) = false := by
  have e : (thK P sd k).getD i 0 = (thK P sd k)[i] := by rw [List.getD_eq_getElem?_getD, List.getElem?_eq_getElem hi, Option.getD_some]
  rw [e]
  have := List.getElem_mem hi
  unfold thK at this
  have g := (List.mem_filter.mp this).2
  rw [Bool.and_eq_true] at g
  cases c : mo_l (pg_m P) ((thK P sd k)[i]) with
  | false => rfl
  | true =>
    have g2 := g.2
    unfold thK at c
    rw [c] at g2
    cases g2
theorem stp_g (hl : mo_l (pg_m P) (l.getD (t / 8) 0) = false) (hs : t % 8 < S.length) : stp S P l v ov t = (!ov.testBit (t / 8) && gO (pg_l P) (mo_sw (pg_m P) 0 v) S (l.getD (t / 8) 0) (t % 8)) := by
  unfold stp gO knw brB gainW
  have e1 : mo_w (mo_sw (pg_m P) 0 v) (l.getD (t / 8) 0 + 1) = mo_w (pg_m P) (l.getD (t / 8) 0 + 1) := by
    show upf (mo_w (pg_m P)) 0 v (l.getD (t / 8) 0 + 1) = _
    unfold upf
    rw [if_neg (by omega)]
  have e2 : mo_w (mo_sw (pg_m P) 0 v) 0 = v := by
    show upf (mo_w (pg_m P)) 0 v 0 = _
    unfold upf
    rw [if_pos rfl]
  rw [btO_bit, decide_eq_true hs, e1, e2, show mo_l (mo_sw (pg_m P) 0 v) = mo_l (pg_m P) from rfl, show mo_f (mo_sw (pg_m P) 0 v) = mo_f (pg_m P) from rfl, hl]
  have b : Nat.testBit 255 (t % 8) = true := (by decide : ∀ i, i < 8 → Nat.testBit 255 i = true) (t % 8) (by omega)
  rw [b]
  simp
theorem stp_n (hs : ¬ t % 8 < S.length) : stp S P l v ov t = false := by
  unfold stp knw
  rw [btO_bit, decide_eq_false hs]
  simp
theorem oL_app : oL (T ++ [t]) = oL T ||| 2 ^ (t / 8) := by
  unfold oL
  rw [List.foldl_append]
  rfl
theorem vL_app : vL S v0 (T ++ [t]) = capW (vL S v0 T) (sy S (t % 8)) := by
  unfold vL
  rw [List.foldl_append]
  rfl
theorem oL_bit {i : Nat} : ∀ (T : List Nat) (a : Nat), (T.foldl (fun o t => o ||| 2 ^ (t / 8)) a).testBit i = (a.testBit i || T.any (fun t => decide (t / 8 = i))) := by
  intro T
  induction T with
  | nil => intro a; rw [List.any_nil, Bool.or_false]; rfl
  | cons t T ih =>
    intro a
    rw [List.foldl_cons, ih, List.any_cons, Nat.testBit_or, Nat.testBit_two_pow, Bool.or_assoc]
theorem c222 {K : mHeap → Prop} (hR : RS h) (hK : ∀ h1, RF [] [196] h h1 → (∀ i, i < 5 → xA h1 196 i = xA h 195 i) → K h1) : GoCv (d + 1) 222 [.ref 195, .ref 196] h K := by
  rw [e222, b222_0]
  refine Go_loop (fun k L h' => L = [some (.ref 195), some (.ref 196), some (.int (ii (k : Nat)))] ∧ RF [] [196] h h' ∧ ∀ j, j < k → xA h' 196 j = xA h 195 j) 5 ?_ ?_ 0 _ h (Nat.zero_le _) ⟨rfl, RF.rf, fun j hj => absurd hj (Nat.not_lt_zero _)⟩
  · rintro k L h' hk ⟨rfl, z, H⟩ nx
    have R' : RS h' := z.rs hR (by decide)
    rw [b222_2]
    simp only [okL_kd, nL_kd, R'.k195, lnK, List.headD_cons, R'.x195 hk, R'.x196 hk]
    refine ⟨by decide, ?_⟩
    rw [if_neg (show ¬ (1 : Nat) = 4 by decide), if_neg (by rw [ii_le (by omega) (by omega) (by omega) (by omega)]; omega)]
    refine ⟨trivial, ⟨by decide, trivial⟩, ?_⟩
    rw [show ii (k : Nat) + ii 1 = ii ((k + 1 : Nat) : Int) from ii_add _ _]
    refine nx _ _ ⟨rfl, z.tr RF.sI, fun j hj => ?_⟩
    rw [R'.s196 hk, if_pos rfl]
    unfold upf
    by_cases c : j = k
    · rw [if_pos c, c, z.ae (by decide) (by decide)]
    · rw [if_neg c]; exact H j (by omega)
  · rintro L h' ⟨rfl, z, H⟩
    have R' : RS h' := z.rs hR (by decide)
    rw [b222_2]
    simp only [okL_kd, nL_kd, R'.k195, lnK, List.headD_cons]
    refine ⟨by decide, ?_⟩
    rw [if_neg (show ¬ (1 : Nat) = 4 by decide), if_pos (show ii ((5 : Nat) : Int) ≤ ii ((5 : Nat) : Int) from Int32.le_refl _), rV_s]
    exact hK h' z H
theorem ix48 (k : Nat) : ii 48 + ii (k : Nat) = ii ((8 * 6 + k : Nat) : Int) := by rw [ii_add]; exact congrArg ii (by omega)
theorem c295f {K : mHeap → Prop} (hR : RS h) (ha : at_ < 5) (hK : ∀ h1, RF [] [197] h h1 → rw8 (xA h1 197) at_ = rw8 (xA h 163) 6 → (∀ b, ¬ b = at_ → rw8 (xA h1 197) b = rw8 (xA h 197) b) → K h1) : GoCv (d + 1) 295 [.ref 148, .int (ii (at_ : Nat)), .int (ii 0)] h K := by
  rw [e295, b295_0]
  refine Go_loop (fun j L h' => L = [some (.ref 148), some (.int (ii (at_ : Nat))), some (.int (ii 0)), some (.int (ii (j : Nat)))] ∧ RF [] [197] h h' ∧ ∀ i, xA h' 197 i = if 8 * at_ ≤ i ∧ i < 8 * at_ + j then xA h 163 (8 * 6 + (i - 8 * at_)) else xA h 197 i) 8 ?_ ?_ 0 _ h (Nat.zero_le _) ⟨rfl, RF.rf, fun i => by rw [if_neg (by omega)]⟩
  · rintro j L h' hj ⟨rfl, z, x2⟩ nx
    have R' : RS h' := z.rs hR (by decide)
    rw [b295_2, if_neg (by rw [show ii 8 = ii (8 : Int) from rfl, ii_le (by omega) (by omega) (by omega) (by omega)]; omega), if_pos rfl]
    simp only [(RS.ok R'), (RS.fr R'), true_and, and_true, true_or, or_true, ix48, ix8, R'.x163 (show 8 * 6 + j < 56 by omega), R'.x197 (show 8 * at_ + j < 40 by omega)]
    refine ⟨by decide, ?_⟩
    rw [b295_55, show ii (j : Nat) + ii 1 = ii ((j + 1 : Nat) : Int) from ii_add _ _]
    refine nx _ _ ⟨rfl, z.tr RF.sI, fun i => ?_⟩
    rw [R'.s197 (show 8 * at_ + j < 40 by omega), if_pos rfl]
    unfold upf
    by_cases c : i = 8 * at_ + j
    · rw [if_pos c, if_pos (by omega), z.ae (by decide) (by decide)]
      exact congrArg _ (by omega)
    · rw [if_neg c, x2]
      by_cases c2 : 8 * at_ ≤ i ∧ i < 8 * at_ + j
      · rw [if_pos c2, if_pos (by omega)]
      · rw [if_neg c2, if_neg (by omega)]
  · rintro L h' ⟨rfl, z, x2⟩
    rw [b295_2, if_pos (show ii 8 ≤ ii ((8 : Nat) : Int) by decide), rV_s]
    refine hK h' z (rw8_ext (fun j i hj hi => ?_) (fun w hw => rw8_ge hw)) (fun b hb => rw8_cong fun j hj => ?_)
    · rw [x2, if_pos (by omega), rw8_at hj hi]
      exact congrArg (fun t => wb (xA h 163 t) i) (by omega)
    · rw [x2, if_neg (by omega)]
theorem c295t {K : mHeap → Prop} (hR : RS h) (ha : at_ < 5) (hK : ∀ h1, Hw h h1 6 (rw8 (xA h 197) at_) → K h1) : GoCv (d + 1) 295 [.ref 148, .int (ii (at_ : Nat)), .int (ii 1)] h K := by
  rw [e295, b295_0]
  refine Go_loop (fun j L h' => L = [some (.ref 148), some (.int (ii (at_ : Nat))), some (.int (ii 1)), some (.int (ii (j : Nat)))] ∧ RF [] [163] h h' ∧ ∀ i, xA h' 163 i = if 8 * 6 ≤ i ∧ i < 8 * 6 + j then xA h 197 (8 * at_ + (i - 8 * 6)) else xA h 163 i) 8 ?_ ?_ 0 _ h (Nat.zero_le _) ⟨rfl, RF.rf, fun i => by rw [if_neg (by omega)]⟩
  · rintro j L h' hj ⟨rfl, z, x2⟩ nx
    have R' : RS h' := z.rs hR (by decide)
    rw [b295_2, if_neg (by rw [show ii 8 = ii (8 : Int) from rfl, ii_le (by omega) (by omega) (by omega) (by omega)]; omega), if_neg (by decide)]
    simp only [(RS.ok R'), (RS.fr R'), true_and, and_true, true_or, or_true, ix48, ix8, R'.x163 (show 8 * 6 + j < 56 by omega), R'.x197 (show 8 * at_ + j < 40 by omega)]
    refine ⟨by decide, ?_⟩
    rw [b295_55, show ii (j : Nat) + ii 1 = ii ((j + 1 : Nat) : Int) from ii_add _ _]
    refine nx _ _ ⟨rfl, z.tr RF.sI, fun i => ?_⟩
    rw [R'.s163 (show 8 * 6 + j < 56 by omega), if_pos rfl]
    unfold upf
    by_cases c : i = 8 * 6 + j
    · rw [if_pos c, if_pos (by omega), z.ae (by decide) (by decide)]
      exact congrArg _ (by omega)
    · rw [if_neg c, x2]
      by_cases c2 : 8 * 6 ≤ i ∧ i < 8 * 6 + j
      · rw [if_pos c2, if_pos (by omega)]
      · rw [if_neg c2, if_neg (by omega)]
  · rintro L h' ⟨rfl, z, x2⟩
    rw [b295_2, if_pos (show ii 8 ≤ ii ((8 : Nat) : Int) by decide), rV_s]
    refine hK h' ⟨z, rw8_ext (fun j i hj hi => ?_) (fun w hw => rw8_ge hw), fun b hb => rw8_cong fun j hj => ?_⟩
    · rw [x2, if_pos (by omega), rw8_at hj hi]
      exact congrArg (fun t => wb (xA h 197 t) i) (by omega)
    · rw [x2, if_neg (by omega)]
theorem c296 {K : Int32 → mHeap → Prop} (hR : RS h) (ha : at_ < 5) (hT : ∀ i, i < at_ → xA h 195 i = ii (T.getD i 0 : Nat)) (hl : T.length = at_) (ht : ∀ t ∈ T, t < 64) (hp : p < 8) : GoCi (d + 1) 296 [.ref 148, .int (ii (at_ : Nat)), .int (ii (p : Nat))] h K ↔ K (if (oL T).testBit p = true then ii 1 else ii 0) h := by
  have e0 : (oL T).testBit p = T.any (fun t => decide (t / 8 = p)) := by
    unfold oL
    rw [oL_bit, Nat.zero_testBit, Bool.false_or]
  rw [e296, b296_0, e0]
  have gm : ∀ j, j < at_ → T.getD j 0 ∈ T := fun j hj => by
    rw [List.getD_eq_getElem?_getD, List.getElem?_eq_getElem (by omega), Option.getD_some]
    exact List.getElem_mem _
  have Lp := downA (n := at_) (P := fun j => (∀ i, i < j → ¬ T.getD i 0 / 8 = p) → (Go d 296 2 [some (.ref 148), some (.int (ii (at_ : Nat))), some (.int (ii (p : Nat))), some (.int (ii (j : Nat)))] [] h (rI K) ↔ K (if T.any (fun t => decide (t / 8 = p)) = true then ii 1 else ii 0) h)) (fun g => by
    rw [b296_2, if_pos (Int32.le_refl _), rI_s, if_neg]
    · exact ⟨fun q => q.2, fun q => ⟨Or.inl rfl, q⟩⟩
    · rw [List.any_eq_true]
      rintro ⟨t, h1, h2⟩
      obtain ⟨i, hi, e⟩ := List.getElem_of_mem h1
      have := g i (by omega)
      rw [List.getD_eq_getElem?_getD, List.getElem?_eq_getElem hi, Option.getD_some, e] at this
      exact this (of_decide_eq_true h2)) (fun j hj ih g => by
    have tj := ht _ (gm j hj)
    rw [b296_2, if_neg (by rw [ii_le (by omega) (by omega) (by omega) (by omega)]; omega)]
    simp only [(RS.ok hR), (RS.fr hR), true_and, and_true, true_or, or_true, hR.x195 (show j < 5 by omega), hT j hj]
    rw [dv8 (by omega)]
    by_cases c : T.getD j 0 / 8 = p
    · rw [if_neg (by rw [c]; exact fun n => n rfl), rI_s, if_pos (by
        rw [List.any_eq_true]
        exact ⟨_, gm j hj, decide_eq_true c⟩)]
      exact ⟨fun q => q.2, fun q => ⟨by decide, q⟩⟩
    · rw [if_pos (by rw [ii_eq (by omega) (by omega) (by omega) (by omega)]; omega), show ii (j : Nat) + ii 1 = ii ((j + 1 : Nat) : Int) from ii_add _ _]
      constructor
      · intro q
        exact (ih (fun i hi => by
          by_cases e : i = j
          · rw [e]; exact c
          · exact g i (by omega))).mp q.2
      · intro q
        exact ⟨by decide, (ih (fun i hi => by
          by_cases e : i = j
          · rw [e]; exact c
          · exact g i (by omega))).mpr q⟩) (Nat.zero_le _) (fun i hi => absurd hi (Nat.not_lt_zero _))
  exact Lp
theorem c294 {K : mHeap → Prop} (W : Rw h (pg_l P) (pg_m P) S) (hK : ∀ h1, RF [67] [194] h h1 → fI h1 148 67 = ii ((thK P sd (ld_q (pg_l P)).length).length : Nat) → (∀ i, i < (thK P sd (ld_q (pg_l P)).length).length → xA h1 194 i = ii ((thK P sd (ld_q (pg_l P)).length).getD i 0 : Nat)) → K h1) : GoCv (d + 1) 294 [.ref 148, .int (ii (bt sd))] h K := by
  have q6 := W.q6
  rw [e294, b294_0]
  have t67 : tgK (kd h 148) 67 = some 0 := W.1.tg.2.2.2.2.2.2.2.2.2.2.2.2.2.2.2.2.2.1
  have y := RF.sF (x := ii 0) t67
  refine ⟨by simp only [W.1.op], ?_⟩
  have lenk : ∀ k, k ≤ (ld_q (pg_l P)).length → (thK P sd k).length ≤ k := fun k _ => by
    unfold thK
    have := List.length_filter_le (fun q => (mo_s (pg_m P) q == sd) && !mo_l (pg_m P) q) (List.range k)
    rw [List.length_range] at this
    exact this
  refine Go_loop (fun k L h' => L = [some (.ref 148), some (.int (ii (bt sd))), some (.int (ii (k : Nat)))] ∧ RF [67] [194] h h' ∧ fI h' 148 67 = ii ((thK P sd k).length : Nat) ∧ ∀ i, i < (thK P sd k).length → xA h' 194 i = ii ((thK P sd k).getD i 0 : Nat)) (ld_q (pg_l P)).length ?_ ?_ 0 _ _ (Nat.zero_le _) ⟨rfl, y.1.wd (by decide) (by decide), y.2, fun i hi => absurd hi (Nat.not_lt_zero _)⟩
  · rintro k L h' hk ⟨rfl, z, f67, x2⟩ nx
    have W' : Rw h' (pg_l P) (pg_m P) S := W.sc z (by decide) (by decide) (by decide)
    have lk := lenk k (by omega)
    rw [b294_7]
    simp only [(RS.ok W'.1), (RS.fr W'.1), true_and, and_true, true_or, or_true, W'.1.l149, W'.nq, W'.1.x150 (show k < 6 by omega), W'.1.x154 (show k < 6 by omega), W'.mo hk, f67]
    rw [if_neg (by rw [ii_le (by omega) (by omega) (by omega) (by omega)]; omega)]
    have no : ¬ ((mo_s (pg_m P) k == sd) && !mo_l (pg_m P) k) = true → Go d 294 56 [some (.ref 148), some (.int (ii (bt sd))), some (.int (ii (k : Nat)))] [] h' (rV K) := fun n => by
      rw [b294_56, show ii (k : Nat) + ii 1 = ii ((k + 1 : Nat) : Int) from ii_add _ _]
      have e : thK P sd (k + 1) = thK P sd k := by rw [thK_s, if_neg n, List.append_nil]
      exact nx _ _ ⟨rfl, z, by rw [e]; exact f67, by rw [e]; exact x2⟩
    by_cases c1 : mo_s (pg_m P) k = sd
    · rw [if_neg (fun n => n (btE.mpr c1))]
      cases c2 : mo_l (pg_m P) k with
      | true =>
        rw [if_pos (by decide)]
        exact no (by rw [c2]; simp)
      | false =>
        rw [if_neg (fun n => n rfl)]
        have yes : ((mo_s (pg_m P) k == sd) && !mo_l (pg_m P) k) = true := by rw [c1, c2]; simp
        have R2 : RS (sI h' 194 (ii ((thK P sd k).length : Nat)) (ii (k : Nat))) := W'.1.si (by decide)
        have t67' : tgK (kd (sI h' 194 (ii ((thK P sd k).length : Nat)) (ii (k : Nat))) 148) 67 = some 0 := R2.tg.2.2.2.2.2.2.2.2.2.2.2.2.2.2.2.2.2.1
        simp only [W'.1.x194 (show (thK P sd k).length < 6 by omega), (RS.ok R2), (RS.fr R2), true_and, and_true, true_or, or_true, R2.op, fI_sI, f67]
        refine ⟨by decide, ?_⟩
        rw [b294_56, show ii (k : Nat) + ii 1 = ii ((k + 1 : Nat) : Int) from ii_add _ _, show ii ((thK P sd k).length : Nat) + ii 1 = ii (((thK P sd k).length + 1 : Nat) : Int) from ii_add _ _]
        have e : thK P sd (k + 1) = thK P sd k ++ [k] := by rw [thK_s, if_pos yes]
        have y := RF.sF (x := ii (((thK P sd k).length + 1 : Nat) : Int)) t67'
        refine nx _ _ ⟨rfl, z.tr ((RF.sI.wd (by decide) (by decide)).tr (y.1.wd (by decide) (by decide))), ?_, fun i hi => ?_⟩
        · rw [y.2, e, List.length_append, List.length_singleton]
        · rw [e, List.length_append, List.length_singleton] at hi
          rw [xA_sF, W'.1.s194 (show (thK P sd k).length < 6 by omega), if_pos rfl, e, getD_app]
          unfold upf
          by_cases c : i = (thK P sd k).length
          · rw [if_pos c, if_pos c]
          · rw [if_neg c, if_neg c, if_pos (by omega)]
            exact x2 i (by omega)
    · rw [if_pos (fun n => c1 (btE.mp n))]
      exact no (by
        intro g
        rw [Bool.and_eq_true, beq_iff_eq] at g
        exact c1 g.1)
  · rintro L h' ⟨rfl, z, f67, x2⟩
    have W' : Rw h' (pg_l P) (pg_m P) S := W.sc z (by decide) (by decide) (by decide)
    rw [b294_7]
    simp only [(RS.ok W'.1), (RS.fr W'.1), true_and, and_true, true_or, or_true, W'.1.l149, W'.nq]
    rw [if_pos (Int32.le_refl _), rV_s]
    exact hK h' z f67 x2
end Sf
