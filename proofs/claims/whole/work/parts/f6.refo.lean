/-! THE REFERENCE: plans, all of them tried -/
def PlS (h0 h : mHeap) (P : Pg) (S : List Wd) (l : List Nat) (T : List Nat) (p : Nat) (B : List Nat) : Prop := RF [67, 68] [163, 194, 195, 196, 197] h0 h ∧ (∃ v, Rw h (pg_l P) (mo_sw (pg_m P) 0 v) S) ∧ (fI h 148 67 = ii (l.length : Nat) ∧ ∀ i, i < l.length → xA h 194 i = ii (l.getD i 0 : Nat)) ∧ (fI h 148 68 = ii (p : Nat) ∧ p ≤ 4 ∧ B.length = p ∧ ∀ i, i < p → xA h 196 i = ii (B.getD i 0 : Nat)) ∧ (∀ i, i < T.length → xA h 195 i = ii (T.getD i 0 : Nat)) ∧ ∀ i, i ≤ T.length → rw8 (xA h 197) i = vL S (mo_w (pg_m P) 0) (T.take i)
/-- the best of what was known and what is found here (b: of the class's kind) -/
noncomputable def efB (S : List Wd) (P : Pg) (l : List Nat) (k : Nat) (T : List Nat) (x : Nat × List Nat) (b : Nat) : Nat × List Nat := if x.1 < T.length + b / 32 then (T.length + b / 32, T ++ (b % 32) :: sq S P l k (capW (vL S (mo_w (pg_m P) 0) T) (sy S (b % 32 % 8))) (oL T ||| 2 ^ (b % 32 / 8))) else x
section Sg2
variable {d : Nat} {h h1 h0 : mHeap} {l : List Nat} {m m' : Mo} {S : List Wd} {P : Pg} {s : Cs} {x y z : Int} {q k n o p t : Nat} {v v0 : Wd} {Q : Option Value → mHeap → Prop} {T B : List Nat} {sd : Bool}
theorem sw_sw {v v' : Wd} : mo_sw (mo_sw m 0 v) 0 v' = mo_sw m 0 v' := by
  unfold mo_sw
  show (m.1, m.2.1, m.2.2.1, m.2.2.2.1, m.2.2.2.2.1, upf (upf (mo_w m) 0 v) 0 v') = _
  rw [upf_upf]
theorem vL_lt (hv : ∀ w, v0 w = true → w < n) : ∀ (T : List Nat) w, vL S v0 T w = true → w < n := by
  intro T
  unfold vL
  induction T generalizing v0 with
  | nil => exact hv
  | cons t T ih =>
    refine ih (fun w hw => ?_)
    have hw : capW v0 (sy S (t % 8)) w = true := hw
    unfold capW at hw
    rw [Bool.and_eq_true, Bool.and_eq_true] at hw
    exact hv w hw.2.1
theorem Ex (h4 : l.length ≤ 4) (hlt : ∀ i, i < l.length → l.getD i 0 < (ld_q (pg_l P)).length ∧ mo_l (pg_m P) (l.getD i 0) = false) (hJ : ∀ w, mo_w (pg_m P) 0 w = true → w < 2 ^ ld_n (pg_l P)) : ∀ k T, T.length + k = l.length → (∀ t ∈ T, t < 8 * l.length) → ∀ t, t ≤ 8 * l.length → (k = 0 → t = 8 * l.length) → ∀ h x0 l2 l3, T.length ≤ x0.1 → PlS h0 h P S l T (efB S P l (k - 1) T x0 (if k = 0 then 0 else itr (plG S P l (vL S (mo_w (pg_m P) 0) T) (oL T) (plF S P l (k - 1))) 0 t)).1 (efB S P l (k - 1) T x0 (if k = 0 then 0 else itr (plG S P l (vL S (mo_w (pg_m P) 0) T) (oL T) (plF S P l (k - 1))) 0 t)).2 → xA h 195 T.length = ii ((t : Int) - 1) → (∀ h' l2 l3, PlS h0 h' P S l T (efB S P l (k - 1) T x0 (plF S P l k (vL S (mo_w (pg_m P) 0) T) (oL T))).1 (efB S P l (k - 1) T x0 (plF S P l k (vL S (mo_w (pg_m P) 0) T) (oL T))).2 → Go (d + 4) 297 20 [some (.ref 148), some (.int (ii ((T.length : Int) - 1))), l2, l3] [] h' Q) → Go (d + 4) 297 20 [some (.ref 148), some (.int (ii (T.length : Nat))), l2, l3] [] h Q := by
  intro k
  induction k with
  | zero =>
    intro T hT hTt t _ ht h x0 l2 l3 hx0 hS ht2 hG
    have et := ht rfl
    subst et
    rw [if_pos rfl] at hS
    obtain ⟨z, ⟨v, W⟩, ⟨f67, x194⟩, b68, x195, x197⟩ := hS
    have hT4 : T.length ≤ 4 := by omega
    rw [b297_20, if_neg (by rw [show ii 0 = ii (0 : Int) from rfl, ii_lt (by omega) (by omega) (by omega) (by omega)]; omega)]
    have R1 : ∀ w, RS (sI h 195 (ii (T.length : Nat)) w) := fun w => W.1.si (by decide)
    have hTl : l.length = T.length := by omega
    rw [hTl] at ht2 f67
    have z1 : RF [] [195] h (sI h 195 (ii (T.length : Nat)) (ii ((8 * T.length : Nat) : Int))) := RF.sI
    have W1 := W.sc z1 (by decide) (by decide) (by decide)
    have e195 : xA (sI h 195 (ii (T.length : Nat)) (ii ((8 * T.length : Nat) : Int))) 195 = upf (xA h 195) T.length (ii ((8 * T.length : Nat) : Int)) := by rw [W.1.s195 (by omega), if_pos rfl]
    simp only [(RS.ok W.1), (RS.fr W.1), true_and, and_true, true_or, or_true, W.1.x195 (show T.length < 5 by omega), ht2]
    rw [show ii (((8 * T.length : Nat) : Int) - 1) + ii 1 = ii ((8 * T.length : Nat) : Int) by rw [ii_add]; exact congrArg ii (by omega)]
    (try simp only [(RS.ok W1.1), (RS.fr W1.1), true_and, and_true, true_or, or_true])
    refine ⟨by decide, ?_⟩
    refine c295t W1.1 (by omega) (fun h2 z2 => ?_)
    have r197 : rw8 (xA (sI h 195 (ii (T.length : Nat)) (ii ((8 * T.length : Nat) : Int))) 197) T.length = vL S (mo_w (pg_m P) 0) T := by
      rw [z1.ae (by decide) (by decide), x197 _ (Nat.le_refl _), List.take_length]
    rw [r197] at z2
    have W2 := z2.hw W1 (Or.inr rfl) (vL_lt hJ T)
    rw [if_pos rfl, sw_sw] at W2
    have a195 : xA h2 195 T.length = ii ((8 * T.length : Nat) : Int) := by
      rw [z2.1.ae (by decide) (by decide), e195]; unfold upf; rw [if_pos rfl]
    have g67 : fI h2 148 67 = ii (T.length : Nat) := by rw [z2.1.fe (by decide), z1.fe (by decide)]; exact f67
    simp only [(RS.ok W2.1), (RS.fr W2.1), true_and, and_true, true_or, or_true, W2.1.x195 (show T.length < 5 by omega), a195, g67, (by decide : (¬ ii 8 = ii 0) = True)]
    rw [dv8 (by omega), rm8 (by omega), show 8 * T.length / 8 = T.length by omega]
    rw [if_neg (by rw [ii_lt (by omega) (by omega) (by omega) (by omega)]; omega), b297_176]
    rw [show ii (T.length : Nat) + ii (-1) = ii ((T.length : Int) - 1) by rw [ii_add]; exact congrArg ii (by omega)]
    have no : efB S P l (0 - 1) T x0 0 = x0 := by unfold efB; rw [if_neg (by omega)]
    rw [no] at b68
    have pf : efB S P l (0 - 1) T x0 (plF S P l 0 (vL S (mo_w (pg_m P) 0) T) (oL T)) = x0 := no
    refine hG h2 _ _ ?_
    rw [pf]
    have zz : RF [67, 68] [163, 194, 195, 196, 197] h0 h2 := z.tr ((z1.wd (by decide) (by decide)).tr (z2.1.wd (by decide) (by decide)))
    refine ⟨zz, ⟨_, W2⟩, ⟨by rw [g67, hTl], fun i hi => by rw [z2.1.ae (by decide) (by decide), z1.ae (by decide) (by decide)]; exact x194 i hi⟩, ⟨by rw [z2.1.fe (by decide), z1.fe (by decide)]; exact b68.1, b68.2.1, b68.2.2.1, fun i hi => by rw [z2.1.ae (by decide) (by decide), z1.ae (by decide) (by decide)]; exact b68.2.2.2 i hi⟩, fun i hi => ?_, fun i hi => by rw [z2.1.ae (by decide) (by decide), z1.ae (by decide) (by decide)]; exact x197 i hi⟩
    rw [z2.1.ae (by decide) (by decide), e195]
    unfold upf
    rw [if_neg (by omega)]
    exact x195 i hi
  | succ k ihk =>
    intro T hT hTt t htl _ h x0 l2 l3 hx0
    have hT4 : T.length < 4 := by omega
    have hk : (k + 1 - 1) = k := by omega
    rw [hk]
    rw [if_neg (show ¬ k + 1 = 0 by omega)]
    generalize eV : vL S (mo_w (pg_m P) 0) T = V at *
    have hV : ∀ w, V w = true → w < 2 ^ ld_n (pg_l P) := by rw [← eV]; exact vL_lt hJ T
    -- going through the steps from the last to the first
    have main : ∀ j t, t + j = 8 * l.length → ∀ h l2 l3, PlS h0 h P S l T (efB S P l k T x0 (itr (plG S P l V (oL T) (plF S P l k)) 0 t)).1 (efB S P l k T x0 (itr (plG S P l V (oL T) (plF S P l k)) 0 t)).2 → xA h 195 T.length = ii ((t : Int) - 1) → (∀ h' l2 l3, PlS h0 h' P S l T (efB S P l k T x0 (plF S P l (k + 1) V (oL T))).1 (efB S P l k T x0 (plF S P l (k + 1) V (oL T))).2 → Go (d + 4) 297 20 [some (.ref 148), some (.int (ii ((T.length : Int) - 1))), l2, l3] [] h' Q) → Go (d + 4) 297 20 [some (.ref 148), some (.int (ii (T.length : Nat))), l2, l3] [] h Q := by
      intro j
      induction j with
      | zero =>
        intro t ht h l2 l3 hS ht2 hG
        have et : t = 8 * l.length := by omega
        subst et
        rw [← plF_s] at hS
        obtain ⟨z, ⟨v, W⟩, ⟨f67, x194⟩, b68, x195, x197⟩ := hS
        have z1 : RF [] [195] h (sI h 195 (ii (T.length : Nat)) (ii ((8 * l.length : Nat) : Int))) := RF.sI
        have W1 := W.sc z1 (by decide) (by decide) (by decide)
        have e195 : xA (sI h 195 (ii (T.length : Nat)) (ii ((8 * l.length : Nat) : Int))) 195 = upf (xA h 195) T.length (ii ((8 * l.length : Nat) : Int)) := by rw [W.1.s195 (by omega), if_pos rfl]
        rw [b297_20, if_neg (by rw [show ii 0 = ii (0 : Int) from rfl, ii_lt (by omega) (by omega) (by omega) (by omega)]; omega)]
        simp only [(RS.ok W.1), (RS.fr W.1), true_and, and_true, true_or, or_true, W.1.x195 (show T.length < 5 by omega), ht2]
        rw [show ii (((8 * l.length : Nat) : Int) - 1) + ii 1 = ii ((8 * l.length : Nat) : Int) by rw [ii_add]; exact congrArg ii (by omega)]
        (try simp only [(RS.ok W1.1), (RS.fr W1.1), true_and, and_true, true_or, or_true])
        refine ⟨by decide, ?_⟩
        refine c295t W1.1 (by omega) (fun h2 z2 => ?_)
        have r197 : rw8 (xA (sI h 195 (ii (T.length : Nat)) (ii ((8 * l.length : Nat) : Int))) 197) T.length = V := by
          rw [z1.ae (by decide) (by decide), x197 _ (Nat.le_refl _), List.take_length, eV]
        rw [r197] at z2
        have W2 := z2.hw W1 (Or.inr rfl) hV
        rw [if_pos rfl, sw_sw] at W2
        have a195 : xA h2 195 T.length = ii ((8 * l.length : Nat) : Int) := by
          rw [z2.1.ae (by decide) (by decide), e195]; unfold upf; rw [if_pos rfl]
        have g67 : fI h2 148 67 = ii (l.length : Nat) := by rw [z2.1.fe (by decide), z1.fe (by decide)]; exact f67
        simp only [(RS.ok W2.1), (RS.fr W2.1), true_and, and_true, true_or, or_true, W2.1.x195 (show T.length < 5 by omega), a195, g67, (by decide : (¬ ii 8 = ii 0) = True)]
        rw [dv8 (by omega), rm8 (by omega), show 8 * l.length / 8 = l.length by omega]
        rw [if_neg (by rw [ii_lt (by omega) (by omega) (by omega) (by omega)]; omega), b297_176]
        rw [show ii (T.length : Nat) + ii (-1) = ii ((T.length : Int) - 1) by rw [ii_add]; exact congrArg ii (by omega)]
        refine hG h2 _ _ ⟨z.tr ((z1.wd (by decide) (by decide)).tr (z2.1.wd (by decide) (by decide))), ⟨_, W2⟩, ⟨g67, fun i hi => by rw [z2.1.ae (by decide) (by decide), z1.ae (by decide) (by decide)]; exact x194 i hi⟩, ⟨by rw [z2.1.fe (by decide), z1.fe (by decide)]; exact b68.1, b68.2.1, b68.2.2.1, fun i hi => by rw [z2.1.ae (by decide) (by decide), z1.ae (by decide) (by decide)]; exact b68.2.2.2 i hi⟩, fun i hi => ?_, fun i hi => by rw [z2.1.ae (by decide) (by decide), z1.ae (by decide) (by decide)]; exact x197 i hi⟩
        rw [z2.1.ae (by decide) (by decide), e195]
        unfold upf
        rw [if_neg (by omega)]
        exact x195 i hi
      | succ j ihj =>
        intro t ht h l2 l3 hS ht2 hG
        have htl : t < 8 * l.length := by omega
        obtain ⟨z, ⟨v, W⟩, ⟨f67, x194⟩, b68, x195, x197⟩ := hS
        have s24 := W.s24
        have z1 : RF [] [195] h (sI h 195 (ii (T.length : Nat)) (ii (t : Nat))) := RF.sI
        have W1 := W.sc z1 (by decide) (by decide) (by decide)
        have e195 : xA (sI h 195 (ii (T.length : Nat)) (ii (t : Nat))) 195 = upf (xA h 195) T.length (ii (t : Nat)) := by rw [W.1.s195 (by omega), if_pos rfl]
        rw [b297_20, if_neg (by rw [show ii 0 = ii (0 : Int) from rfl, ii_lt (by omega) (by omega) (by omega) (by omega)]; omega)]
        simp only [(RS.ok W.1), (RS.fr W.1), true_and, and_true, true_or, or_true, W.1.x195 (show T.length < 5 by omega), ht2]
        rw [show ii ((t : Int) - 1) + ii 1 = ii (t : Nat) by rw [ii_add]; exact congrArg ii (by omega)]
        (try simp only [(RS.ok W1.1), (RS.fr W1.1), true_and, and_true, true_or, or_true])
        refine ⟨by decide, ?_⟩
        refine c295t W1.1 (by omega) (fun h2 z2 => ?_)
        have r197 : rw8 (xA (sI h 195 (ii (T.length : Nat)) (ii (t : Nat))) 197) T.length = V := by
          rw [z1.ae (by decide) (by decide), x197 _ (Nat.le_refl _), List.take_length, eV]
        rw [r197] at z2
        have W2 := z2.hw W1 (Or.inr rfl) hV
        rw [if_pos rfl, sw_sw] at W2
        have a195 : xA h2 195 T.length = ii (t : Nat) := by
          rw [z2.1.ae (by decide) (by decide), e195]; unfold upf; rw [if_pos rfl]
        have b195 : ∀ i, i < T.length → xA h2 195 i = ii (T.getD i 0 : Nat) := fun i hi => by
          rw [z2.1.ae (by decide) (by decide), e195]; unfold upf; rw [if_neg (by omega)]; exact x195 i hi
        have g67 : fI h2 148 67 = ii (l.length : Nat) := by rw [z2.1.fe (by decide), z1.fe (by decide)]; exact f67
        have zz : RF [67, 68] [163, 194, 195, 196, 197] h0 h2 := z.tr ((z1.wd (by decide) (by decide)).tr (z2.1.wd (by decide) (by decide)))
        have x194' : ∀ i, i < l.length → xA h2 194 i = ii (l.getD i 0 : Nat) := fun i hi => by rw [z2.1.ae (by decide) (by decide), z1.ae (by decide) (by decide)]; exact x194 i hi
        have b68' : fI h2 148 68 = ii ((efB S P l k T x0 (itr (plG S P l V (oL T) (plF S P l k)) 0 t)).1 : Nat) := by rw [z2.1.fe (by decide), z1.fe (by decide)]; exact b68.1
        have x196' : xA h2 196 = xA h 196 := by rw [z2.1.ae (by decide) (by decide), z1.ae (by decide) (by decide)]
        have x197' : ∀ i, i ≤ T.length → rw8 (xA h2 197) i = vL S (mo_w (pg_m P) 0) (T.take i) := fun i hi => by rw [z2.1.ae (by decide) (by decide), z1.ae (by decide) (by decide)]; exact x197 i hi
        simp only [(RS.ok W2.1), (RS.fr W2.1), true_and, and_true, true_or, or_true, W2.1.x195 (show T.length < 5 by omega), a195, g67, W2.ns, (by decide : (¬ ii 8 = ii 0) = True)]
        rw [dv8 (by omega), rm8 (by omega)]
        rw [if_pos (by rw [ii_lt (by omega) (by omega) (by omega) (by omega)]; omega)]
        -- no step here
        have skip : stp S P l V (oL T) t = false → ∀ l2 l3, Go (d + 4) 297 176 [some (.ref 148), some (.int (ii (T.length : Nat))), l2, l3] [] h2 Q := fun ns l2 l3 => by
          rw [b297_176]
          refine ihj (t + 1) (by omega) h2 l2 l3 ?_ (by rw [a195]; exact congrArg ii (by omega)) hG
          rw [itr_s, plG_n (by rw [ns]; exact Bool.false_ne_true)]
          exact ⟨zz, ⟨_, W2⟩, ⟨g67, x194'⟩, ⟨b68', b68.2.1, b68.2.2.1, fun i hi => by rw [x196']; exact b68.2.2.2 i hi⟩, b195, x197'⟩
        by_cases c1 : t % 8 < S.length
        · rw [if_neg (by rw [ii_le (by omega) (by omega) (by omega) (by omega)]; omega)]
          have hp := hlt (t / 8) (by omega)
          have q6 := W.q6
          have sg := stp_g (P := P) (S := S) (v := V) (ov := oL T) hp.2 c1
          (try simp only [(RS.ok W2.1), (RS.fr W2.1), true_and, and_true, true_or, or_true])
          rw [c296 W2.1 (by omega) b195 rfl (fun t ht => by have := hTt t ht; omega) (by omega)]
          cases c2 : (oL T).testBit (t / 8) with
          | true =>
            rw [if_pos rfl, if_pos (by decide)]
            exact skip (by rw [sg, c2]; rfl) _ _
          | false =>
            rw [if_neg Bool.false_ne_true, if_neg (fun n => n rfl)]
            simp only [(RS.ok W2.1), (RS.fr W2.1), true_and, and_true, true_or, or_true, W2.1.x194 (show t / 8 < 6 by omega), x194' (t / 8) (by omega)]
            rw [c289 W2 hp.1 c1]
            cases c3 : gO (pg_l P) (mo_sw (pg_m P) 0 V) S (l.getD (t / 8) 0) (t % 8) with
            | false =>
              rw [if_neg Bool.false_ne_true, if_pos rfl]
              exact skip (by rw [sg, c3, Bool.and_false]) _ _
            | true =>
              have st : stp S P l V (oL T) t = true := by rw [sg, c2, c3]; rfl
              rw [if_pos rfl, if_neg (by decide)]
              (try simp only [(RS.ok W2.1), (RS.fr W2.1), true_and, and_true, true_or, or_true])
              rw [show ii 6 = ii ((6 : Nat) : Int) from rfl]
              refine c249 W2.1 (by decide) (by omega) (fun h3 z3 => ?_)
              rw [W2.br, W2.ss c1] at z3
              have w0 : mo_w (mo_sw (pg_m P) 0 V) 0 = V := by
                show upf (mo_w (pg_m P)) 0 V 0 = V
                unfold upf
                rw [if_pos rfl]
              rw [w0] at z3
              have hV' : ∀ w, capW V (sy S (t % 8)) w = true → w < 2 ^ ld_n (pg_l P) := capW_W2 hV
              have W3 := z3.hw W2 (Or.inr rfl) hV'
              rw [if_pos rfl, sw_sw] at W3
              have b683 : fI h3 148 68 = ii ((efB S P l k T x0 (itr (plG S P l V (oL T) (plF S P l k)) 0 t)).1 : Nat) := by rw [z3.1.fe (by decide)]; exact b68'
              have zz3 : RF [67, 68] [163, 194, 195, 196, 197] h0 h3 := zz.tr (z3.1.wd (by decide) (by decide))
              have eT : vL S (mo_w (pg_m P) 0) (T ++ [t]) = capW V (sy S (t % 8)) := by rw [vL_app, eV]
              have eO : oL (T ++ [t]) = oL T ||| 2 ^ (t / 8) := oL_app
              have lT : (T ++ [t]).length = T.length + 1 := by rw [List.length_append, List.length_singleton]
              -- the child, from what is known now
              have child : ∀ h4 l2 l3 (x1 : Nat × List Nat), T.length + 1 ≤ x1.1 → PlS h0 h4 P S l T x1.1 x1.2 → xA h4 195 T.length = ii (t : Nat) → rw8 (xA h4 163) 6 = capW V (sy S (t % 8)) → (efB S P l (k - 1) (T ++ [t]) x1 (plF S P l k (capW V (sy S (t % 8))) (oL T ||| 2 ^ (t / 8))) = efB S P l k T x0 (itr (plG S P l V (oL T) (plF S P l k)) 0 (t + 1))) → Go (d + 4) 297 140 [some (.ref 148), some (.int (ii (T.length : Nat))), l2, l3] [] h4 Q := by
                intro h4 l2 l3 x1 hx1 hS4 t4 br4 ef
                obtain ⟨y, ⟨v4, W4⟩, ⟨f67, x194⟩, b68, x195, x197⟩ := hS4
                have go : ∀ (w : Int32), w = ii ((if l.length ≤ T.length + 1 then (8 * l.length : Nat) else (0 : Nat) : Int) - 1) → Go (d + 4) 297 169 [some (.ref 148), some (.int (ii ((T.length + 1 : Nat) : Int))), l2, l3] [.int w, .int (ii ((T.length + 1 : Nat) : Int)), .ref 195] h4 Q := fun w hw => by
                  rw [b297_169]
                  have z5 : RF [] [195] h4 (sI h4 195 (ii ((T.length + 1 : Nat) : Int)) w) := RF.sI
                  have W5 := W4.sc z5 (by decide) (by decide) (by decide)
                  have e5 : xA (sI h4 195 (ii ((T.length + 1 : Nat) : Int)) w) 195 = upf (xA h4 195) (T.length + 1) w := by rw [W4.1.s195 (by omega), if_pos rfl]
                  simp only [W4.1.x195 (show T.length + 1 < 5 by omega)]
                  refine ⟨⟨by decide, trivial⟩, ?_⟩
                  (try simp only [(RS.ok W5.1), (RS.fr W5.1), true_and, and_true, true_or, or_true])
                  refine c295f W5.1 (by omega) (fun h6 z6 r6 o6 => ?_)
                  have W6 := W5.sc z6 (by decide) (by decide) (by decide)
                  have zt : RF [] [195, 197] h4 h6 := (z5.wd (by decide) (by decide)).tr (z6.wd (by decide) (by decide))
                  rw [b297_176]
                  have a6 : xA h6 195 = upf (xA h4 195) (T.length + 1) w := by rw [z6.ae (by decide) (by decide), e5]
                  have S6 : PlS h0 h6 P S l (T ++ [t]) x1.1 x1.2 := by
                    refine ⟨y.tr (zt.wd (by decide) (by decide)), ⟨v4, W6⟩, ⟨by rw [zt.fe (by decide)]; exact f67, fun i hi => by rw [zt.ae (by decide) (by decide)]; exact x194 i hi⟩, ⟨by rw [zt.fe (by decide)]; exact b68.1, b68.2.1, b68.2.2.1, fun i hi => by rw [zt.ae (by decide) (by decide)]; exact b68.2.2.2 i hi⟩, fun i hi => ?_, fun i hi => ?_⟩
                    · rw [lT] at hi
                      rw [a6, getD_app]
                      unfold upf
                      rw [if_neg (by omega)]
                      by_cases c : i = T.length
                      · rw [if_pos c, c]; exact t4
                      · rw [if_neg c, if_pos (by omega)]; exact x195 i (by omega)
                    · rw [lT] at hi
                      by_cases c : i = T.length + 1
                      · rw [c, r6, z5.ae (by decide) (by decide), br4, ← lT, List.take_length, eT]
                      · rw [o6 i c, z5.ae (by decide) (by decide), x197 i (by omega), List.take_append_of_le_length (by omega)]
                  have hw2 : xA h6 195 (T ++ [t]).length = w := by rw [lT, a6]; unfold upf; rw [if_pos rfl]
                  have fin : ∀ h' l2 l3, PlS h0 h' P S l (T ++ [t]) (efB S P l (k - 1) (T ++ [t]) x1 (plF S P l k (vL S (mo_w (pg_m P) 0) (T ++ [t])) (oL (T ++ [t])))).1 (efB S P l (k - 1) (T ++ [t]) x1 (plF S P l k (vL S (mo_w (pg_m P) 0) (T ++ [t])) (oL (T ++ [t])))).2 → Go (d + 4) 297 20 [some (.ref 148), some (.int (ii (((T ++ [t]).length : Int) - 1))), l2, l3] [] h' Q := by
                    intro h' l2 l3 hS'
                    rw [eT, eO, ef] at hS'
                    rw [lT, show (((T.length + 1 : Nat) : Int) - 1) = ((T.length : Nat) : Int) by omega]
                    obtain ⟨y', W', e194, e196, e195', e197⟩ := hS'
                    have tt : xA h' 195 T.length = ii (t : Nat) := by
                      rw [e195' T.length (by rw [lT]; omega), getD_app, if_pos rfl]
                    refine ihj (t + 1) (by omega) h' l2 l3 ⟨y', W', e194, e196, fun i hi => ?_, fun i hi => ?_⟩ (by rw [tt]; exact congrArg ii (by omega)) hG
                    · rw [e195' i (by rw [lT]; omega), getD_app, if_neg (by omega), if_pos hi]
                    · rw [e197 i (by rw [lT]; omega), List.take_append_of_le_length (by omega)]
                  have hTt' : ∀ u ∈ T ++ [t], u < 8 * l.length := fun u hu => by
                    rcases List.mem_append.mp hu with g | g
                    · exact hTt u g
                    · rw [List.mem_singleton.mp g]; exact htl
                  have lt2 : ((T.length + 1 : Nat) : Int) = (((T ++ [t]).length : Nat) : Int) := by rw [lT]
                  rw [lt2]
                  by_cases ck : k = 0
                  · refine ihk (T ++ [t]) (by rw [lT]; omega) hTt' (8 * l.length) (Nat.le_refl _) (fun _ => rfl) h6 x1 l2 l3 (by rw [lT]; exact hx1) ?_ ?_ fin
                    · rw [if_pos ck]
                      have : efB S P l (k - 1) (T ++ [t]) x1 0 = x1 := by unfold efB; rw [if_neg (by rw [lT]; omega)]
                      rw [this]; exact S6
                    · rw [hw2, hw, if_pos (by omega)]
                  · refine ihk (T ++ [t]) (by rw [lT]; omega) hTt' 0 (Nat.zero_le _) (fun e => absurd e ck) h6 x1 l2 l3 (by rw [lT]; exact hx1) ?_ ?_ fin
                    · rw [if_neg ck]
                      have : efB S P l (k - 1) (T ++ [t]) x1 (itr (plG S P l (vL S (mo_w (pg_m P) 0) (T ++ [t])) (oL (T ++ [t])) (plF S P l (k - 1))) 0 0) = x1 := by
                        show efB S P l (k - 1) (T ++ [t]) x1 0 = x1
                        unfold efB; rw [if_neg (by rw [lT]; omega)]
                      rw [this]; exact S6
                    · rw [hw2, hw, if_neg (by omega)]
                have g67 := f67
                rw [b297_140]
                simp only [(RS.ok W4.1), (RS.fr W4.1), true_and, and_true, true_or, or_true, g67]
                rw [show ii (T.length : Nat) + ii 1 = ii ((T.length + 1 : Nat) : Int) from ii_add _ _]
                by_cases c5 : l.length ≤ T.length + 1
                · rw [if_pos (by rw [ii_le (by omega) (by omega) (by omega) (by omega)]; omega)]
                  exact go _ (by rw [if_pos c5, ii_mul, ii_sub]; exact congrArg ii (by omega))
                · rw [if_neg (by rw [ii_le (by omega) (by omega) (by omega) (by omega)]; omega)]
                  exact go _ (by rw [if_neg c5]; rfl)
              generalize ePF : plF S P l k (capW V (sy S (t % 8))) (oL T ||| 2 ^ (t / 8)) = M at *
              generalize eI : itr (plG S P l V (oL T) (plF S P l k)) 0 t = bt' at *
              have sM : M < 32 → sq S P l k (capW V (sy S (t % 8))) (oL T ||| 2 ^ (t / 8)) = [] := fun hM => by
                cases k with
                | zero => rfl
                | succ k => rw [sq_s, ePF, if_pos hM]
              have sM2 : 32 ≤ M → k = k - 1 + 1 ∧ sq S P l k (capW V (sy S (t % 8))) (oL T ||| 2 ^ (t / 8)) = (M % 32) :: sq S P l (k - 1) (capW (capW V (sy S (t % 8))) (sy S (M % 32 % 8))) ((oL T ||| 2 ^ (t / 8)) ||| 2 ^ (M % 32 / 8)) := fun hM => by
                cases k with
                | zero => rw [← ePF] at hM; exact absurd hM (by show ¬ 32 ≤ 0; decide)
                | succ k => rw [sq_s, ePF, if_neg (by omega)]; exact ⟨rfl, rfl⟩
              have nx : itr (plG S P l V (oL T) (plF S P l k)) 0 (t + 1) = if bt' / 32 < 1 + M / 32 then (1 + M / 32) * 32 + t else bt' := by
                rw [itr_s, eI]
                unfold plG
                rw [ePF]
                by_cases c : bt' / 32 < 1 + M / 32
                · rw [if_pos ⟨st, c⟩, if_pos c]
                · rw [if_neg (fun g => c g.2), if_neg c]
              have pm : (efB S P l k T x0 bt').1 = (if x0.1 < T.length + bt' / 32 then T.length + bt' / 32 else x0.1) := by
                unfold efB
                split <;> rfl
              simp only [(RS.ok W3.1), (RS.fr W3.1), true_and, and_true, true_or, or_true, b683]
              rw [show ii (T.length : Nat) + ii 1 = ii ((T.length + 1 : Nat) : Int) from ii_add _ _]
              have b4 := b68.2.1
              -- all that is known, told as one
              have ef : ∀ x1 : Nat × List Nat, (T.length + 1 ≤ (efB S P l k T x0 bt').1 → x1 = efB S P l k T x0 bt') → (¬ T.length + 1 ≤ (efB S P l k T x0 bt').1 → x1 = (T.length + 1, T ++ [t])) → efB S P l (k - 1) (T ++ [t]) x1 M = efB S P l k T x0 (itr (plG S P l V (oL T) (plF S P l k)) 0 (t + 1)) := by
                intro x1 h1 h2
                rw [nx]
                have t32 : t < 32 := by omega
                have q1 : ((1 + M / 32) * 32 + t) / 32 = 1 + M / 32 := by omega
                have q2 : ((1 + M / 32) * 32 + t) % 32 = t := by omega
                -- what the child would put
                have put : 32 ≤ M → (T ++ [t]) ++ (M % 32) :: sq S P l (k - 1) (capW (vL S (mo_w (pg_m P) 0) (T ++ [t])) (sy S (M % 32 % 8))) (oL (T ++ [t]) ||| 2 ^ (M % 32 / 8)) = T ++ t :: sq S P l k (capW V (sy S (t % 8))) (oL T ||| 2 ^ (t / 8)) := fun hM => by
                  rw [eT, eO, (sM2 hM).2, List.append_assoc]
                  rfl
                by_cases cM : bt' / 32 < 1 + M / 32
                · rw [if_pos cM]
                  have r : efB S P l k T x0 ((1 + M / 32) * 32 + t) = if x0.1 < T.length + (1 + M / 32) then (T.length + (1 + M / 32), T ++ t :: sq S P l k (capW V (sy S (t % 8))) (oL T ||| 2 ^ (t / 8))) else x0 := by
                    unfold efB
                    rw [q1, q2, eV]
                  rw [r]
                  unfold efB
                  rw [lT]
                  by_cases cp : T.length + 1 ≤ (efB S P l k T x0 bt').1
                  · rw [h1 cp]
                    by_cases c7 : x0.1 < T.length + (1 + M / 32)
                    · rw [if_pos c7]
                      rw [pm] at cp
                      have c8 : (efB S P l k T x0 bt').1 < T.length + 1 + M / 32 := by rw [pm]; split <;> omega
                      rw [if_pos c8, put (by split at cp <;> omega)]
                      exact Prod.ext (by show T.length + 1 + M / 32 = T.length + (1 + M / 32); omega) rfl
                    · have c8 : efB S P l k T x0 bt' = x0 := by unfold efB; rw [if_neg (by omega)]
                      rw [c8, if_neg (by omega), if_neg c7]
                  · rw [h2 cp]
                    rw [pm] at cp
                    have c7 : x0.1 < T.length + (1 + M / 32) := by split at cp <;> omega
                    rw [if_pos c7]
                    by_cases c8 : 32 ≤ M
                    · rw [if_pos (by show T.length + 1 < T.length + 1 + M / 32; omega), put c8]
                      exact Prod.ext (by show T.length + 1 + M / 32 = T.length + (1 + M / 32); omega) rfl
                    · rw [if_neg (by show ¬ T.length + 1 < T.length + 1 + M / 32; omega), sM (by omega), show M / 32 = 0 by omega]
                · rw [if_neg cM]
                  have cp : T.length + 1 ≤ (efB S P l k T x0 bt').1 := by rw [pm]; split <;> omega
                  rw [h1 cp]
                  have c8 : ¬ (efB S P l k T x0 bt').1 < (T ++ [t]).length + M / 32 := by rw [lT, pm]; split <;> omega
                  generalize efB S P l k T x0 bt' = E at *
                  unfold efB
                  rw [if_neg c8]
              by_cases c6 : T.length + 1 ≤ (efB S P l k T x0 bt').1
              · rw [if_pos (by rw [ii_le (by omega) (by omega) (by omega) (by omega)]; omega)]
                refine child h3 _ _ (efB S P l k T x0 bt') c6 ⟨zz3, ⟨_, W3⟩, ⟨by rw [z3.1.fe (by decide)]; exact g67, fun i hi => by rw [z3.1.ae (by decide) (by decide)]; exact x194' i hi⟩, ⟨b683, b4, b68.2.2.1, fun i hi => by rw [z3.1.ae (by decide) (by decide), x196']; exact b68.2.2.2 i hi⟩, fun i hi => by rw [z3.1.ae (by decide) (by decide)]; exact b195 i hi, fun i hi => by rw [z3.1.ae (by decide) (by decide)]; exact x197' i hi⟩ (by rw [z3.1.ae (by decide) (by decide)]; exact a195) z3.2.1 (ef _ (fun _ => rfl) (fun g => absurd c6 g))
              · rw [if_neg (by rw [ii_le (by omega) (by omega) (by omega) (by omega)]; omega)]
                have t68 : tgK (kd h3 148) 68 = some 0 := W3.1.tg.2.2.2.2.2.2.2.2.2.2.2.2.2.2.2.2.2.2.1
                have y := RF.sF (x := ii ((T.length + 1 : Nat) : Int)) t68
                have W4 := W3.sc y.1 (by decide) (by decide) (by decide)
                simp only [W3.1.op, (RS.ok W4.1), (RS.fr W4.1), true_and, and_true, true_or, or_true]
                refine c222 W4.1 (fun h5 z5 e5 => ?_)
                have W5 := W4.sc z5 (by decide) (by decide) (by decide)
                have zt : RF [68] [196] h3 h5 := (y.1.wd (by decide) (by decide)).tr (z5.wd (by decide) (by decide))
                refine child h5 _ _ (T.length + 1, T ++ [t]) (Nat.le_refl _) ⟨zz3.tr (zt.wd (by decide) (by decide)), ⟨_, W5⟩, ⟨by rw [zt.fe (by decide), z3.1.fe (by decide)]; exact g67, fun i hi => by rw [zt.ae (by decide) (by decide), z3.1.ae (by decide) (by decide)]; exact x194' i hi⟩, ⟨by rw [z5.fe (by decide)]; exact y.2, by show T.length + 1 ≤ 4; omega, lT, fun i hi => ?_⟩, fun i hi => by rw [zt.ae (by decide) (by decide), z3.1.ae (by decide) (by decide)]; exact b195 i hi, fun i hi => by rw [zt.ae (by decide) (by decide), z3.1.ae (by decide) (by decide)]; exact x197' i hi⟩ (by rw [zt.ae (by decide) (by decide), z3.1.ae (by decide) (by decide)]; exact a195) (by rw [zt.ae (by decide) (by decide)]; exact z3.2.1) (ef _ (fun g => absurd g c6) (fun _ => rfl))
                have hi : i < T.length + 1 := hi
                rw [e5 i (by omega), xA_sF, z3.1.ae (by decide) (by decide)]
                show _ = ii ((T ++ [t]).getD i 0 : Nat)
                rw [getD_app]
                by_cases c : i = T.length
                · rw [if_pos c, c]; exact a195
                · rw [if_neg c, if_pos (by omega)]; exact b195 i (by omega)
        · rw [if_pos (by rw [ii_le (by omega) (by omega) (by omega) (by omega)]; omega)]
          exact skip (stp_n c1) _ _
    exact main (8 * l.length - t) t (by omega) h l2 l3
end Sg2
