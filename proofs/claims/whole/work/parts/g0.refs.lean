/-! THE REFERENCE: what rules answer -/
def bsT : List Int64 → List Bool → Prop
  | [], [] => True
  | a :: s, t :: ts => (t = true → a = jj 0 ∨ a = jj 1) ∧ bsT s ts
  | _, _ => False
section Ta
variable {d : Nat} {h h1 : mHeap} {X f : Nat → Int64} {K : Int64 → mHeap → Prop}
theorem b01_and {a b : Int64} (ha : a = jj 0 ∨ a = jj 1) (hb : b = jj 0 ∨ b = jj 1) : (a &&& b = jj 0 ∨ a &&& b = jj 1) ∧ (a ||| b = jj 0 ∨ a ||| b = jj 1) := by
  rcases ha with e | e <;> rcases hb with e2 | e2 <;> (subst e; subst e2; decide)
theorem bsT_st {t : Nat} {s : List Int64} {ts us : List Bool} (hb : bsT s ts) (e : tyT t ts = some us) : bsT (evT X t s) us := by
  unfold tyT at e
  unfold evT
  by_cases c1 : t = 314
  · rw [if_pos c1] at e ⊢
    match ts, s, hb, e with
    | true :: ts, a :: s, hb, e =>
      cases e
      refine ⟨fun _ => ?_, hb.2⟩
      rcases hb.1 rfl with q | q <;> (rw [q]; decide)
  rw [if_neg c1] at e ⊢
  by_cases c2 : 1000 ≤ t
  · rw [if_pos c2]
    rw [if_pos (Or.inl c2)] at e
    by_cases c : ts.length < 26
    · rw [if_pos c] at e; cases e
      exact ⟨(fun q => by cases q), hb⟩
    · rw [if_neg c] at e; cases e
  rw [if_neg c2]
  by_cases c3 : 304 ≤ t ∧ t < 314
  · rw [if_pos c3]
    rw [if_pos (Or.inr c3)] at e
    by_cases c : ts.length < 26
    · rw [if_pos c] at e; cases e
      exact ⟨(fun q => by cases q), hb⟩
    · rw [if_neg c] at e; cases e
  rw [if_neg c3]
  rw [if_neg (by rintro (a | a); exact c2 a; exact c3 a)] at e
  by_cases c4 : t = 37 ∨ t = 42 ∨ t = 43 ∨ t = 45 ∨ t = 47
  · rw [if_pos c4] at e
    match ts, s, hb, e with
    | false :: false :: ts, a :: b :: s, hb, e =>
      cases e
      exact ⟨(fun q => by cases q), hb.2.2⟩
  rw [if_neg c4] at e
  by_cases c5 : t = 315 ∨ t = 316
  · rw [if_pos c5] at e
    match ts, s, hb, e with
    | true :: true :: ts, a :: b :: s, hb, e =>
      cases e
      have q := b01_and (hb.2.1 rfl) (hb.1 rfl)
      refine ⟨fun _ => ?_, hb.2.2⟩
      show jnd t b a = jj 0 ∨ jnd t b a = jj 1
      unfold jnd
      rcases c5 with g | g
      · subst g
        rw [if_neg (by decide), if_neg (by decide), if_neg (by decide), if_neg (by decide), if_neg (by decide), if_pos rfl]
        exact q.1
      · subst g
        rw [if_neg (by decide), if_neg (by decide), if_neg (by decide), if_neg (by decide), if_neg (by decide), if_neg (by decide), if_pos rfl]
        exact q.2
  rw [if_neg c5] at e
  by_cases c6 : t = 60 ∨ t = 61 ∨ t = 62 ∨ t = 256 ∨ t = 257
  · rw [if_pos c6] at e
    match ts, s, hb, e with
    | false :: false :: ts, a :: b :: s, hb, e =>
      cases e
      refine ⟨fun _ => ?_, hb.2.2⟩
      show jnd t b a = jj 0 ∨ jnd t b a = jj 1
      unfold jnd
      rw [if_neg (by omega), if_neg (by omega), if_neg (by omega), if_neg (by omega), if_neg (by omega), if_neg (by omega), if_neg (by omega)]
      by_cases q : hld t b a
      · rw [iteP_t q]; exact Or.inr rfl
      · rw [iteP_f q]; exact Or.inl rfl
  rw [if_neg c6] at e
  cases e
theorem bsT_ev : ∀ (l : List Nat) (s : List Int64) (ts us : List Bool), bsT s ts → tyL l ts = some us → bsT (evL X l s) us := by
  intro l
  induction l with
  | nil => intro s ts us hb e; cases e; exact hb
  | cons t l ih =>
    intro s ts us hb e
    have e : (tyT t ts).bind (tyL l) = some us := e
    cases q : tyT t ts with
    | none => rw [q] at e; cases e
    | some vs =>
      rw [q] at e
      exact ih _ vs us (bsT_st hb q) e
/-- a test answers 0 or 1 -/
theorem ruE_01 {l : List Nat} (hty : tyL l [] = some [true]) : ruE X l = jj 0 ∨ ruE X l = jj 1 := by
  have := bsT_ev (X := X) l [] [] [true] trivial hty
  unfold ruE
  cases e : evL X l [] with
  | nil => rw [e] at this; exact this.elim
  | cons a s => rw [e] at this; exact this.1 rfl
theorem c242 {x : Int32} : GoCj (d + 1) 242 [.int x] h K ↔ K (if x = ii 0 then jj 0 else jj 1) h := by
  rw [e242, b242_0]
  by_cases c : x = ii 0
  · rw [if_pos c, if_pos c, rJ_s]
  · rw [if_neg c, if_neg c, rJ_s]
theorem srt_op : srt 43 = 2 ∧ srt 45 = 3 ∧ srt 60 = 4 ∧ srt 256 = 5 ∧ srt 61 = 6 ∧ srt 257 = 7 ∧ srt 62 = 8 ∧ srt 314 = 9 ∧ srt 315 = 10 ∧ srt 316 = 11 ∧ srt 42 = 13 ∧ srt 47 = 14 ∧ srt 37 = 15 := by decide
theorem c243 {t : Nat} {x y : Int64} (ht : t = 37 ∨ t = 42 ∨ t = 43 ∨ t = 45 ∨ t = 47 ∨ t = 60 ∨ t = 61 ∨ t = 62 ∨ t = 256 ∨ t = 257 ∨ t = 315 ∨ t = 316) : GoCj (d + 2) 243 [.int (ii (srt t : Nat)), .long x, .long y] h K ↔ K (jnd t x y) h := by
  have cm : ∀ (p : Prop) (w : Int32), (p → w = ii 1) → (¬ p → w = ii 0) → (if w = ii 0 then jj 0 else jj 1) = @ite _ p (Classical.propDecidable _) (jj 1) (jj 0) := fun p w h1 h2 => by
    by_cases c : p
    · rw [h1 c, if_neg (by decide), iteP_t c]
    · rw [h2 c, if_pos rfl, iteP_f c]
  rw [e243, b243_0]
  rcases ht with e | e | e | e | e | e | e | e | e | e | e | e
  · subst e
    rw [show ii (srt 37 : Nat) = ii 15 from rfl]
    simp only [show (ii 15 = ii 2) = False by decide, show (ii 15 = ii 3) = False by decide, show (ii 15 = ii 4) = False by decide, show (ii 15 = ii 5) = False by decide, show (ii 15 = ii 6) = False by decide, show (ii 15 = ii 7) = False by decide, show (ii 15 = ii 8) = False by decide, show (ii 15 = ii 9) = False by decide, show (ii 15 = ii 10) = False by decide, show (ii 15 = ii 11) = False by decide, show (ii 15 = ii 12) = False by decide, show (ii 15 = ii 13) = False by decide, show (ii 15 = ii 14) = False by decide, if_false, if_true]
    have j : jnd 37 x y = if y = jj 0 then jj 0 else lrm x y := rfl
    rw [j]
    by_cases c : y = jj 0
    · rw [if_neg (fun n => n (lcmp_eq.mpr c)), rJ_s, if_pos c]
    · rw [if_pos (fun g => c (lcmp_eq.mp g)), rJ_s, if_neg c]
      exact ⟨fun q => q.2, fun q => ⟨c, q⟩⟩
  · subst e
    rw [show ii (srt 42 : Nat) = ii 13 from rfl]
    simp only [show (ii 13 = ii 2) = False by decide, show (ii 13 = ii 3) = False by decide, show (ii 13 = ii 4) = False by decide, show (ii 13 = ii 5) = False by decide, show (ii 13 = ii 6) = False by decide, show (ii 13 = ii 7) = False by decide, show (ii 13 = ii 8) = False by decide, show (ii 13 = ii 9) = False by decide, show (ii 13 = ii 10) = False by decide, show (ii 13 = ii 11) = False by decide, show (ii 13 = ii 12) = False by decide, if_false, if_true, rJ_s]
    exact Iff.rfl
  · subst e
    rw [show ii (srt 43 : Nat) = ii 2 from rfl, if_pos rfl, rJ_s]
    exact Iff.rfl
  · subst e
    rw [show ii (srt 45 : Nat) = ii 3 from rfl, if_neg (by decide), if_pos rfl, rJ_s]
    exact Iff.rfl
  · subst e
    rw [show ii (srt 47 : Nat) = ii 14 from rfl]
    simp only [show (ii 14 = ii 2) = False by decide, show (ii 14 = ii 3) = False by decide, show (ii 14 = ii 4) = False by decide, show (ii 14 = ii 5) = False by decide, show (ii 14 = ii 6) = False by decide, show (ii 14 = ii 7) = False by decide, show (ii 14 = ii 8) = False by decide, show (ii 14 = ii 9) = False by decide, show (ii 14 = ii 10) = False by decide, show (ii 14 = ii 11) = False by decide, show (ii 14 = ii 12) = False by decide, show (ii 14 = ii 13) = False by decide, if_false, if_true]
    have j : jnd 47 x y = if y = jj 0 then jj 0 else x / y := rfl
    rw [j]
    by_cases c : y = jj 0
    · rw [if_neg (fun n => n (lcmp_eq.mpr c)), rJ_s, if_pos c]
    · rw [if_pos (fun g => c (lcmp_eq.mp g)), rJ_s, if_neg c]
      exact ⟨fun q => q.2, fun q => ⟨c, q⟩⟩
  · subst e
    rw [show ii (srt 60 : Nat) = ii 4 from rfl, if_neg (by decide), if_neg (by decide), if_pos rfl]
    have j : jnd 60 x y = @ite _ (x < y) (Classical.propDecidable _) (jj 1) (jj 0) := rfl
    rw [j]
    by_cases c : x < y
    · rw [if_neg (fun g => by have := lg_ge.mp g; exact absurd c (by rw [Int64.lt_iff_toInt_lt]; rw [Int64.le_iff_toInt_le] at this; omega)), b243_123, c242, rJ_s, iteP_t c, if_neg (by decide)]
    · rw [if_pos (lg_ge.mpr (by rw [Int64.le_iff_toInt_le]; rw [Int64.lt_iff_toInt_lt] at c; omega)), b243_123, c242, rJ_s, iteP_f c, if_pos rfl]
  · subst e
    rw [show ii (srt 61 : Nat) = ii 6 from rfl, if_neg (by decide), if_neg (by decide), if_neg (by decide), if_neg (by decide), if_pos rfl]
    have j : jnd 61 x y = @ite _ (x = y) (Classical.propDecidable _) (jj 1) (jj 0) := rfl
    rw [j]
    by_cases c : x = y
    · rw [if_neg (fun n => n (lcmp_eq.mpr c)), b243_153, c242, rJ_s, iteP_t c, if_neg (by decide)]
    · rw [if_pos (fun g => c (lcmp_eq.mp g)), b243_153, c242, rJ_s, iteP_f c, if_pos rfl]
  · subst e
    rw [show ii (srt 62 : Nat) = ii 8 from rfl, if_neg (by decide), if_neg (by decide), if_neg (by decide), if_neg (by decide), if_neg (by decide), if_neg (by decide), if_pos rfl]
    have j : jnd 62 x y = @ite _ (y < x) (Classical.propDecidable _) (jj 1) (jj 0) := rfl
    rw [j]
    by_cases c : y < x
    · rw [if_neg (fun g => by have := lg_le.mp g; rw [Int64.le_iff_toInt_le] at this; rw [Int64.lt_iff_toInt_lt] at c; omega), b243_183, c242, rJ_s, iteP_t c, if_neg (by decide)]
    · rw [if_pos (lg_le.mpr (by rw [Int64.le_iff_toInt_le]; rw [Int64.lt_iff_toInt_lt] at c; omega)), b243_183, c242, rJ_s, iteP_f c, if_pos rfl]
  · subst e
    rw [show ii (srt 256 : Nat) = ii 5 from rfl, if_neg (by decide), if_neg (by decide), if_neg (by decide), if_pos rfl]
    have j : jnd 256 x y = @ite _ (x ≤ y) (Classical.propDecidable _) (jj 1) (jj 0) := rfl
    rw [j]
    by_cases c : x ≤ y
    · rw [if_neg (fun g => by have := lg_gt.mp g; rw [Int64.lt_iff_toInt_lt] at this; rw [Int64.le_iff_toInt_le] at c; omega), b243_138, c242, rJ_s, iteP_t c, if_neg (by decide)]
    · rw [if_pos (lg_gt.mpr (by rw [Int64.lt_iff_toInt_lt]; rw [Int64.le_iff_toInt_le] at c; omega)), b243_138, c242, rJ_s, iteP_f c, if_pos rfl]
  · subst e
    rw [show ii (srt 257 : Nat) = ii 7 from rfl, if_neg (by decide), if_neg (by decide), if_neg (by decide), if_neg (by decide), if_neg (by decide), if_pos rfl]
    have j : jnd 257 x y = @ite _ (y ≤ x) (Classical.propDecidable _) (jj 1) (jj 0) := rfl
    rw [j]
    by_cases c : y ≤ x
    · rw [if_neg (fun g => by have := lg_lt.mp g; rw [Int64.lt_iff_toInt_lt] at this; rw [Int64.le_iff_toInt_le] at c; omega), b243_168, c242, rJ_s, iteP_t c, if_neg (by decide)]
    · rw [if_pos (lg_lt.mpr (by rw [Int64.lt_iff_toInt_lt]; rw [Int64.le_iff_toInt_le] at c; omega)), b243_168, c242, rJ_s, iteP_f c, if_pos rfl]
  · subst e
    rw [show ii (srt 315 : Nat) = ii 10 from rfl]
    simp only [show (ii 10 = ii 2) = False by decide, show (ii 10 = ii 3) = False by decide, show (ii 10 = ii 4) = False by decide, show (ii 10 = ii 5) = False by decide, show (ii 10 = ii 6) = False by decide, show (ii 10 = ii 7) = False by decide, show (ii 10 = ii 8) = False by decide, show (ii 10 = ii 9) = False by decide, if_false, if_true, rJ_s]
    exact Iff.rfl
  · subst e
    rw [show ii (srt 316 : Nat) = ii 11 from rfl]
    simp only [show (ii 11 = ii 2) = False by decide, show (ii 11 = ii 3) = False by decide, show (ii 11 = ii 4) = False by decide, show (ii 11 = ii 5) = False by decide, show (ii 11 = ii 6) = False by decide, show (ii 11 = ii 7) = False by decide, show (ii 11 = ii 8) = False by decide, show (ii 11 = ii 9) = False by decide, show (ii 11 = ii 10) = False by decide, if_false, if_true, rJ_s]
    exact Iff.rfl
theorem RS.jk189 (hR : RS h) {i : Nat} (hi : i < 300) : okJ h 189 (ii (i : Nat)) ∧ eJ h 189 (ii (i : Nat)) = xJ h 189 i := rowJ_ok hR.k189 hi (by omega)
theorem RS.jk188 (hR : RS h) {i : Nat} (hi : i < 10) : okJ h 188 (ii (i : Nat)) ∧ eJ h 188 (ii (i : Nat)) = xJ h 188 i := rowJ_ok hR.k188 hi (by omega)
theorem RS.js189 {i : Nat} {v : Int64} {b : Nat} (hR : RS h) (hi : i < 300) : xJ (sJ h 189 (ii (i : Nat)) v) b = if 189 = b then upf (xJ h 189) i v else xJ h b := sJ_row hR.k189 hi (by omega)
theorem RS.js188 {i : Nat} {v : Int64} {b : Nat} (hR : RS h) (hi : i < 10) : xJ (sJ h 188 (ii (i : Nat)) v) b = if 188 = b then upf (xJ h 188) i v else xJ h b := sJ_row hR.k188 hi (by omega)
theorem RS.sj (hR : RS h) {a : Nat} {j : Int32} {w : Int64} (ha : 64 ≤ a) : RS (sJ h a j w) := RF.sJ.rs hR (fun c hc => by rw [List.mem_singleton.mp hc]; exact ha)
theorem ix300 (q k : Nat) : ii 300 * ii (q : Nat) + ii (k : Nat) = ii ((300 * q + k : Nat) : Int) := by
  rw [ii_mul, ii_add]
  exact congrArg ii (by omega)
theorem c244 {r o : Nat} {l : List Nat} {b : Bool} (hR : RS h) (hr : r < 6) (ho : o + l.length ≤ 300) (hcode : ∀ k, k < l.length → xA h 176 (300 * r + (o + k)) = ii (srt (l.getD k 0) : Nat) ∧ xA h 177 (300 * r + (o + k)) = ii (nbr (l.getD k 0) : Nat)) (ht : RuT l) (hX : ∀ i, i < 10 → xJ h 188 i = X i) (hty : tyL l [] = some [b]) (hK : ∀ h1, RF [] [189] h h1 → K (ruE X l) h1) : GoCj (d + 3) 244 [.ref 148, .int (ii (r : Nat)), .int (ii (o : Nat)), .int (ii ((o + l.length : Nat) : Int))] h K := by
  rw [e244, b244_0]
  refine Go_loop (fun k L' h' => RF [] [189] h h' ∧ ∃ s ts l6 l7, rowS (xJ h' 189) s ∧ s.length = ts.length ∧ ts.length ≤ 26 ∧ tyL (l.drop k) ts = some [b] ∧ evL X (l.drop k) s = evL X l [] ∧ L' = [some (.ref 148), some (.int (ii (r : Nat))), some (.int (ii (o : Nat))), some (.int (ii ((o + l.length : Nat) : Int))), some (.int (ii (s.length : Nat))), some (.int (ii ((o + k : Nat) : Int))), l6, l7]) l.length ?_ ?_ 0 _ h (Nat.zero_le _) ⟨RF.rf, [], [], none, none, trivial, rfl, Nat.zero_le _, hty, rfl, rfl⟩
  · rintro k L' h' hk ⟨F, s, ts, l6, l7, rs, el, e26, ty, ev, rfl⟩ next
    have ek : ii ((o + k : Nat) : Int) + ii 1 = ii ((o + (k + 1) : Nat) : Int) := by rw [ii_add]; rfl
    have R : RS h' := F.rs hR (by decide)
    have ed : l.drop k = l.getD k 0 :: l.drop (k + 1) := by
      rw [List.drop_eq_getElem_cons hk, List.getD_eq_getElem?_getD, List.getElem?_eq_getElem hk, Option.getD_some]
    rw [ed] at ty ev
    have tt : l.getD k 0 < 101001 := by
      rw [List.getD_eq_getElem?_getD, List.getElem?_eq_getElem hk, Option.getD_some]
      exact ht _ (List.getElem_mem hk)
    have vc := hcode k hk
    rw [← F.ae (show ¬ 176 = 148 by decide) (by decide), ← F.ae (show ¬ 177 = 148 by decide) (by decide)] at vc
    have xw : ∀ i, i < 10 → xJ h' 188 i = X i := fun i hi => by rw [F.je (by decide) (by decide)]; exact hX i hi
    generalize l.getD k 0 = t at *
    obtain ⟨us, e1, e2⟩ : ∃ us, tyT t ts = some us ∧ tyL (l.drop (k + 1)) us = some [b] := by
      have ty' : (tyT t ts).bind (tyL (l.drop (k + 1))) = some [b] := ty
      cases q : tyT t ts with
      | none => rw [q] at ty'; cases ty'
      | some us => rw [q] at ty'; exact ⟨us, rfl, ty'⟩
    have ev' : evL X (l.drop (k + 1)) (evT X t s) = evL X l [] := ev
    have len' := evT_len (X := X) el e1
    have le26 := evT_le e26 e1
    have fin : ∀ (j : Nat) (v : Int64) (s' : List Int64) (l6 l7 : Option Value), j < 26 → rowS (xJ h' 189) s' → j = s'.length → evT X t s = v :: s' → Go (d + 2) 244 147 [some (.ref 148), some (.int (ii (r : Nat))), some (.int (ii (o : Nat))), some (.int (ii ((o + l.length : Nat) : Int))), some (.int (ii ((j + 1 : Nat) : Int))), some (.int (ii ((o + k : Nat) : Int))), l6, l7] [] (sJ h' 189 (ii (j : Nat)) v) (rJ K) := fun j v s' l6 l7 hj rs' ej es => by
      have x2 : xJ (sJ h' 189 (ii (j : Nat)) v) 189 = upf (xJ h' 189) j v := by rw [R.js189 (show j < 300 by omega), if_pos rfl]
      have rs2 : rowS (xJ (sJ h' 189 (ii (j : Nat)) v) 189) (v :: s') := by
        rw [x2, ej]
        exact rowS_push rs'
      rw [b244_147, ek]
      refine next _ _ ⟨F.tr RF.sJ, v :: s', us, l6, l7, rs2, by rw [← es]; exact len', le26, e2, by rw [← es]; exact ev', ?_⟩
      rw [List.length_cons, ej]
    rw [b244_6, if_neg (by rw [ii_le (by omega) (by omega) (by omega) (by omega)]; omega)]
    simp only [(RS.ok R), (RS.fr R), true_and, and_true, true_or, or_true, ix300, R.x176 (show 300 * r + (o + k) < 1800 by omega), R.x177 (show 300 * r + (o + k) < 1800 by omega), vc]
    have push : ∀ (v : Int64) (l6 l7 : Option Value), s.length < 26 → evT X t s = v :: s → Go (d + 2) 244 77 [some (.ref 148), some (.int (ii (r : Nat))), some (.int (ii (o : Nat))), some (.int (ii ((o + l.length : Nat) : Int))), some (.int (ii (s.length : Nat))), some (.int (ii ((o + k : Nat) : Int))), l6, l7] [.long v, .int (ii (s.length : Nat)), .ref 189] h' (rJ K) := fun v l6 l7 l26 es => by
      have rj := R.jk189 (show s.length < 300 by omega)
      rw [b244_77]
      refine ⟨⟨by omega, rj.1⟩, ?_⟩
      rw [show ii (s.length : Nat) + ii 1 = ii ((s.length + 1 : Nat) : Int) from by rw [ii_add]; rfl]
      exact fin s.length v s _ _ l26 rs rfl es
    by_cases c1 : t = 314
    · subst c1
      obtain ⟨ts', et⟩ : ∃ ts', ts = true :: ts' := by
        unfold tyT at e1
        rw [if_pos rfl] at e1
        match ts, e1 with
        | true :: ts', _ => exact ⟨ts', rfl⟩
      subst et
      obtain ⟨a, s', es⟩ : ∃ a s', s = a :: s' := by
        cases s with
        | nil => exact absurd el (by rw [List.length_nil, List.length_cons]; omega)
        | cons a s' => exact ⟨a, s', rfl⟩
      subst es
      have l26 : s'.length < 26 := by
        have : (true :: ts').length ≤ 26 := e26
        have l1 : (a :: s').length = (true :: ts').length := el
        rw [List.length_cons] at l1
        omega
      have ej : ii ((a :: s').length : Nat) - ii 1 = ii (s'.length : Nat) := by
        rw [ii_sub, List.length_cons]
        exact congrArg ii (by omega)
      have rj := R.jk189 (show s'.length < 300 by omega)
      rw [show ii (srt 314 : Nat) = ii 9 from rfl, if_neg (by decide), if_pos (by decide), if_neg (fun n => n rfl), ej]
      refine ⟨rj.1, ⟨by omega, rj.1⟩, ?_⟩
      rw [rj.2, rs.1]
      have := fin s'.length (jj 1 - a) s' (some (.int (ii 9))) (some (.int (ii (nbr 314 : Nat)))) l26 rs.2 rfl rfl
      exact this
    by_cases c2 : 1000 ≤ t
    · have e3 : srt t = 0 := by unfold srt; rw [if_pos c2]
      have e4 : nbr t = t - 1000 := by unfold nbr; rw [if_pos c2]
      have l26 : s.length < 26 := by
        unfold tyT at e1
        rw [if_neg c1, if_pos (Or.inl c2)] at e1
        by_cases c : ts.length < 26
        · omega
        · rw [if_neg c] at e1; cases e1
      rw [e3, e4, if_pos (show ii ((0 : Nat) : Int) = ii 0 by decide), b244_53, if_neg (show ¬ ¬ ii ((0 : Nat) : Int) = ii 0 by decide)]
      (try simp only [(RS.ok R), (RS.fr R), true_and, and_true, true_or, or_true])
      rw [i2l_ii (by omega) (by omega)]
      refine push _ _ _ l26 ?_
      unfold evT
      rw [if_neg c1, if_pos c2]
    by_cases c3 : 304 ≤ t ∧ t < 314
    · have e3 : srt t = 1 := by unfold srt; rw [if_neg c2, if_pos c3]
      have e4 : nbr t = t - 304 := by unfold nbr; rw [if_neg c2, if_pos c3]
      have l26 : s.length < 26 := by
        unfold tyT at e1
        rw [if_neg c1, if_pos (Or.inr c3)] at e1
        by_cases c : ts.length < 26
        · omega
        · rw [if_neg c] at e1; cases e1
      have rw8' := R.jk188 (show t - 304 < 10 by omega)
      rw [e3, e4, if_neg (by decide), if_neg (fun n => n rfl), b244_53, if_pos (by decide)]
      simp only [(RS.ok R), (RS.fr R), true_and, and_true, true_or, or_true, rw8', xw _ (show t - 304 < 10 by omega)]
      refine push _ _ _ l26 ?_
      unfold evT
      rw [if_neg c1, if_neg c2, if_pos c3]
    have two := tyT_two c1 c2 c3 e1
    have ops : t = 37 ∨ t = 42 ∨ t = 43 ∨ t = 45 ∨ t = 47 ∨ t = 60 ∨ t = 61 ∨ t = 62 ∨ t = 256 ∨ t = 257 ∨ t = 315 ∨ t = 316 := by
      unfold tyT at e1
      rw [if_neg c1, if_neg (by rintro (a | a); exact c2 a; exact c3 a)] at e1
      by_cases q1 : t = 37 ∨ t = 42 ∨ t = 43 ∨ t = 45 ∨ t = 47
      · omega
      rw [if_neg q1] at e1
      by_cases q2 : t = 315 ∨ t = 316
      · omega
      rw [if_neg q2] at e1
      by_cases q3 : t = 60 ∨ t = 61 ∨ t = 62 ∨ t = 256 ∨ t = 257
      · omega
      rw [if_neg q3] at e1
      cases e1
    obtain ⟨y, x, s', es⟩ : ∃ y x s', s = y :: x :: s' := by
      match s, el with
      | [], el => exact absurd el (by rw [List.length_nil]; omega)
      | [a], el => exact absurd el (by rw [List.length_singleton]; omega)
      | y :: x :: s', _ => exact ⟨y, x, s', rfl⟩
    subst es
    have l26 : s'.length + 2 ≤ 26 := by
      have l1 : (y :: x :: s').length = ts.length := el
      rw [List.length_cons, List.length_cons] at l1
      omega
    have ej1 : ii ((y :: x :: s').length : Nat) + ii (-1) = ii ((s'.length + 1 : Nat) : Int) := by
      rw [ii_add, List.length_cons, List.length_cons]
      exact congrArg ii (by omega)
    have ej2 : ii ((s'.length + 1 : Nat) : Int) - ii 1 = ii (s'.length : Nat) := by
      rw [ii_sub]
      exact congrArg ii (by omega)
    have s0 : ¬ ii (srt t : Nat) = ii 0 ∧ ¬ ii (srt t : Nat) = ii 1 ∧ ¬ ii (srt t : Nat) = ii 9 := by
      rcases ops with q | q | q | q | q | q | q | q | q | q | q | q <;> (subst q; decide)
    have r1 := R.jk189 (show s'.length + 1 < 300 by omega)
    have r2 := R.jk189 (show s'.length < 300 by omega)
    have v1 : xJ h' 189 (s'.length + 1) = y := rs.1
    have v2 : xJ h' 189 s'.length = x := rs.2.1
    rw [if_neg s0.1, if_pos s0.2.1, if_pos s0.2.2, ej1, ej2, r1.2, r2.2, v1, v2]
    refine ⟨r2.1, r1.1, ?_⟩
    rw [c243 ops]
    refine ⟨⟨by omega, r2.1⟩, ?_⟩
    refine fin s'.length (jnd t x y) s' _ _ (by omega) rs.2.2 rfl ?_
    unfold evT
    rw [if_neg c1, if_neg c2, if_neg c3]
  · rintro L' h' ⟨F, s, ts, l6, l7, rs, el, e26, ty, ev, rfl⟩
    have R : RS h' := F.rs hR (by decide)
    rw [b244_6, if_pos (Int32.le_refl _)]
    rw [List.drop_length] at ty ev
    cases ty
    have ev : s = evL X l [] := ev
    obtain ⟨a, es⟩ : ∃ a, s = [a] := by
      match s, el with
      | [a], _ => exact ⟨a, rfl⟩
    have o0 : okJ h' 189 (ii 0) ∧ eJ h' 189 (ii 0) = xJ h' 189 0 := R.jk189 (i := 0) (by decide)
    have v0 : xJ h' 189 0 = ruE X l := by
      rw [es] at rs ev
      unfold ruE
      rw [← ev]
      exact rs.1
    simp only [(RS.ok R), (RS.fr R), true_and, and_true, true_or, or_true, o0, v0, rJ_s]
    exact hK h' F
end Ta
