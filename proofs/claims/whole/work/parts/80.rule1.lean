/-! RULES: what they give -/
def off (C : Ru) : Nat → Nat := itr (fun o c => o + (ru_c C c).1.length + (ru_c C c).2.length) 0
def RuS (h : mHeap) (r n : Nat) : Prop := 64 ≤ r ∧ kd h r = (4, 5, [r + 4, 0, r + 5, r + 6, r + 7]) ∧ kd h (r + 1) = (1, 1, [n]) ∧ kd h (r + 2) = (1, 1, [13]) ∧ kd h (r + 3) = (1, 1, [12]) ∧ kd h (r + 4) = (2, 0, [26])
def RuR (h : mHeap) (r : Nat) (C : Ru) : Prop := ∃ n, RuS h r n ∧ n ≤ 400 ∧ off C C.length ≤ n ∧ RuOk C ∧ fI h r 1 = ii C.length ∧ (∀ c, c ≤ C.length → xA h (r + 2) c = ii (off C c)) ∧ ∀ c, c < C.length → xA h (r + 3) c = ii ((off C c + (ru_c C c).1.length : Nat) : Int) ∧ (∀ k, k < (ru_c C c).1.length → xA h (r + 1) (off C c + k) = ii ((ru_c C c).1.getD k 0)) ∧ ∀ k, k < (ru_c C c).2.length → xA h (r + 1) (off C c + (ru_c C c).1.length + k) = ii ((ru_c C c).2.getD k 0)
section Ru1
variable {d r w : Nat} {h h1 : mHeap} {X f : Nat → Int64} {C : Ru}
theorem off_s {c : Nat} : off C (c + 1) = off C c + (ru_c C c).1.length + (ru_c C c).2.length := rfl
theorem off_le {c : Nat} : ∀ m, c ≤ m → off C c ≤ off C m
  | 0, e => by rw [show c = 0 by omega]; exact Nat.le_refl _
  | m + 1, e => by
    by_cases g : c = m + 1
    · rw [g]; exact Nat.le_refl _
    · have := off_le m (show c ≤ m by omega)
      rw [off_s]
      omega
theorem Sk.RuS {n : Nat} (x : Sk h h1) (hR : RuS h r n) : RuS h1 r n := ⟨hR.1, by rw [x.1]; exact hR.2.1, by rw [x.1]; exact hR.2.2.1, by rw [x.1]; exact hR.2.2.2.1, by rw [x.1]; exact hR.2.2.2.2.1, by rw [x.1]; exact hR.2.2.2.2.2⟩
theorem RuR.fr {lo n : Nat} (hR : RuR h r C) (x : Fr lo n h h1) (e : r + 4 ≤ lo ∨ lo + n ≤ r) : RuR h1 r C := by
  obtain ⟨m, s, a, b, ok, l, st, cl⟩ := hR
  refine ⟨m, x.1.RuS s, a, b, ok, ?_, fun c hc => ?_, fun c hc => ?_⟩
  · rw [same_fI (x.2.2.2 r (by omega))]; exact l
  · rw [same_xA (x.2.2.2 (r + 2) (by omega))]; exact st c hc
  · rw [same_xA (x.2.2.2 (r + 3) (by omega)), same_xA (x.2.2.2 (r + 1) (by omega))]; exact cl c hc
theorem RuS_ok {n : Nat} (hR : RuS h r n) : okF h r 5 0 2 ∧ okF h r 5 1 0 ∧ okF h r 5 2 2 ∧ okF h r 5 3 2 ∧ okF h r 5 4 2 ∧ fR h r 0 = r + 1 ∧ fR h r 2 = r + 2 ∧ fR h r 3 = r + 3 ∧ fR h r 4 = r + 4 ∧ oC h r = 5 := by
  have c : ∀ m, m + 4 - 3 = m + 1 := fun m => by omega
  refine ⟨?_, ?_, ?_, ?_, ?_, ?_, ?_, ?_, ?_, oC_kd hR.2.1⟩
  · rw [okF_kd, hR.2.1]; exact ⟨rfl, rfl, rfl⟩
  · rw [okF_kd, hR.2.1]; exact ⟨rfl, rfl, rfl⟩
  · rw [okF_kd, hR.2.1]; exact ⟨rfl, rfl, rfl⟩
  · rw [okF_kd, hR.2.1]; exact ⟨rfl, rfl, rfl⟩
  · rw [okF_kd, hR.2.1]; exact ⟨rfl, rfl, rfl⟩
  · rw [fR_kd, hR.2.1]; rfl
  · rw [fR_kd, hR.2.1]; rfl
  · rw [fR_kd, hR.2.1]; rfl
  · rw [fR_kd, hR.2.1]; rfl
theorem rowJ_ok {c n p : Nat} (hk : kd h c = (2, 0, [n])) (hp : p < n) (hp2 : p < 2147483648) : okJ h c (ii p) ∧ eJ h c (ii p) = xJ h c p := by
  have e : (ii (p : Nat)).toNatClampNeg = p := by rw [ix_ii (by omega) (by omega)]; rfl
  refine ⟨?_, ?_⟩
  · rw [okJ_kd, hk]
    refine ⟨rfl, ?_, ?_⟩
    · rw [ii_lt0 (by omega) (by omega)]; omega
    · rw [e]; exact hp
  · rw [eJ_xJ, e]
theorem sJ_row {b c n p : Nat} {v : Int64} (hk : kd h c = (2, 0, [n])) (hp : p < n) (hp2 : p < 2147483648) : xJ (sJ h c (ii p) v) b = if c = b then upf (xJ h c) p v else xJ h b := by
  have e : (ii (p : Nat)).toNatClampNeg = p := by rw [ix_ii (by omega) (by omega)]; rfl
  have := xJ_sJ (h := h) (a := c) (b := b) (j := ii (p : Nat)) (wl := v) (by rw [hk]) (by rw [hk, e]; exact hp)
  rw [this, e]
theorem tyT_two {t : Nat} {ts us : List Bool} (c1 : ¬ t = 314) (c2 : ¬ 1000 ≤ t) (c3 : ¬ (304 ≤ t ∧ t < 314)) (e : tyT t ts = some us) : 2 ≤ ts.length := by
  unfold tyT at e
  rw [if_neg c1, if_neg (by rintro (a | a); exact c2 a; exact c3 a)] at e
  by_cases c4 : t = 37 ∨ t = 42 ∨ t = 43 ∨ t = 45 ∨ t = 47
  · rw [if_pos c4] at e
    match ts, e with
    | false :: false :: ts, e => show 2 ≤ ts.length + 1 + 1; omega
  rw [if_neg c4] at e
  by_cases c5 : t = 315 ∨ t = 316
  · rw [if_pos c5] at e
    match ts, e with
    | true :: true :: ts, e => show 2 ≤ ts.length + 1 + 1; omega
  rw [if_neg c5] at e
  by_cases c6 : t = 60 ∨ t = 61 ∨ t = 62 ∨ t = 256 ∨ t = 257
  · rw [if_pos c6] at e
    match ts, e with
    | false :: false :: ts, e => show 2 ≤ ts.length + 1 + 1; omega
  rw [if_neg c6] at e
  cases e
theorem tyT_val {t : Nat} {ts us : List Bool} (c1 : ¬ t = 314) (c2 : 1000 ≤ t ∨ (304 ≤ t ∧ t < 314)) (e : tyT t ts = some us) : ts.length < 26 := by
  unfold tyT at e
  rw [if_neg c1, if_pos c2] at e
  by_cases c : ts.length < 26
  · exact c
  · rw [if_neg c] at e; cases e
theorem evT_le {t : Nat} {ts us : List Bool} (hl : ts.length ≤ 26) (e : tyT t ts = some us) : us.length ≤ 26 := by
  by_cases c1 : t = 314
  · unfold tyT at e
    rw [if_pos c1] at e
    match ts, e with
    | true :: ts, e => cases e; exact hl
  by_cases c2 : 1000 ≤ t ∨ (304 ≤ t ∧ t < 314)
  · have := tyT_val c1 c2 e
    unfold tyT at e
    rw [if_neg c1, if_pos c2, if_pos this] at e
    cases e
    show ts.length + 1 ≤ 26
    omega
  · unfold tyT at e
    rw [if_neg c1, if_neg c2] at e
    by_cases c4 : t = 37 ∨ t = 42 ∨ t = 43 ∨ t = 45 ∨ t = 47
    · rw [if_pos c4] at e
      match ts, hl, e with
      | false :: false :: ts, hl, e => cases e; exact Nat.le_of_succ_le hl
    rw [if_neg c4] at e
    by_cases c5 : t = 315 ∨ t = 316
    · rw [if_pos c5] at e
      match ts, hl, e with
      | true :: true :: ts, hl, e => cases e; exact Nat.le_of_succ_le hl
    rw [if_neg c5] at e
    by_cases c6 : t = 60 ∨ t = 61 ∨ t = 62 ∨ t = 256 ∨ t = 257
    · rw [if_pos c6] at e
      match ts, hl, e with
      | false :: false :: ts, hl, e => cases e; exact Nat.le_of_succ_le hl
    rw [if_neg c6] at e
    cases e
/-- work -/
theorem c65 {K : Int64 → mHeap → Prop} {n o : Nat} {l : List Nat} {b : Bool} (hR : RuS h r n) (hn : n ≤ 400) (ho : o + l.length ≤ n) (hcode : ∀ k, k < l.length → xA h (r + 1) (o + k) = ii (l.getD k 0)) (ht : RuT l) (hw : kd h w = (2, 0, [10])) (hwr : ¬ w = r + 4) (hX : ∀ i, i < 10 → xJ h w i = X i) (hty : tyL l [] = some [b]) (hK : ∀ h1, Fr (r + 4) 1 h h1 → K (ruE X l) h1) : GoCj (d + 3) 65 [.ref r, .int (ii o), .int (ii ((o + l.length : Nat) : Int)), .ref w] h K := by
  rw [e65, b65_0]
  refine Go_loop (fun k L' h' => Fr (r + 4) 1 h h' ∧ ∃ s ts l6 l7, rowS (xJ h' (r + 4)) s ∧ s.length = ts.length ∧ ts.length ≤ 26 ∧ tyL (l.drop k) ts = some [b] ∧ evL X (l.drop k) s = evL X l [] ∧ L' = [some (.ref r), some (.int (ii o)), some (.int (ii ((o + l.length : Nat) : Int))), some (.ref w), some (.int (ii s.length)), some (.int (ii ((o + k : Nat) : Int))), l6, l7]) l.length ?_ ?_ 0 _ _ (Nat.zero_le _) ⟨Fr.rf, [], [], none, none, trivial, rfl, by decide, hty, rfl, rfl⟩
  · rintro k L' h' hk ⟨F, s, ts, l6, l7, rs, el, e26, ty, ev, rfl⟩ next
    have ek : ii ((o + k : Nat) : Int) + ii 1 = ii ((o + (k + 1) : Nat) : Int) := by rw [ii_add]; rfl
    have R := F.1.RuS hR
    have r64 := hR.1
    have ed : l.drop k = l.getD k 0 :: l.drop (k + 1) := by
      rw [List.drop_eq_getElem_cons hk, List.getD_eq_getElem?_getD, List.getElem?_eq_getElem hk, Option.getD_some]
    rw [ed] at ty ev
    have tt : l.getD k 0 < 101001 := by
      rw [List.getD_eq_getElem?_getD, List.getElem?_eq_getElem hk, Option.getD_some]
      exact ht _ (List.getElem_mem hk)
    have rc := row_ok R.2.2.1 (show o + k < n by omega) (by omega)
    have vc : xA h' (r + 1) (o + k) = ii (l.getD k 0) := by rw [same_xA (F.2.2.2 (r + 1) (by omega))]; exact hcode k hk
    have kw : kd h' w = (2, 0, [10]) := by rw [F.1.1]; exact hw
    have xw : ∀ i, i < 10 → xJ h' w i = X i := fun i hi => by rw [same_xJ (F.2.2.2 w (by omega))]; exact hX i hi
    generalize l.getD k 0 = t at *
    obtain ⟨us, e1, e2⟩ : ∃ us, tyT t ts = some us ∧ tyL (l.drop (k + 1)) us = some [b] := by
      have ty' : (tyT t ts).bind (tyL (l.drop (k + 1))) = some [b] := ty
      cases q : tyT t ts with
      | none => rw [q] at ty'; cases ty'
      | some us => rw [q] at ty'; exact ⟨us, rfl, ty'⟩
    have ev' : evL X (l.drop (k + 1)) (evT X t s) = evL X l [] := ev
    have len' := evT_len (X := X) el e1
    have le26 := evT_le e26 e1
    have eq : ∀ m : Int, 0 ≤ m → m < 200000 → (ii (t : Int) = ii m ↔ (t : Int) = m) := fun m h0 hm => by
      rw [ii_eq (by omega) (by omega) (by omega) (by omega)]
    -- what a write leads to
    have fin : ∀ (j : Nat) (v : Int64) (s' : List Int64) (l6 l7 : Option Value), j < 26 → rowS (xJ h' (r + 4)) s' → j = s'.length → evT X t s = v :: s' → Go (d + 2) 65 6 [some (.ref r), some (.int (ii o)), some (.int (ii ((o + l.length : Nat) : Int))), some (.ref w), some (.int (ii ((j + 1 : Nat) : Int))), some (.int (ii ((o + (k + 1) : Nat) : Int))), l6, l7] [] (sJ h' (r + 4) (ii j) v) (rJ K) := fun j v s' l6 l7 hj rs' ej es => by
      have F2 : Fr (r + 4) 1 h' (sJ h' (r + 4) (ii j) v) := Fr.sJ
      have x2 : xJ (sJ h' (r + 4) (ii j) v) (r + 4) = upf (xJ h' (r + 4)) j v := by rw [sJ_row R.2.2.2.2.2 hj (by omega), if_pos rfl]
      have rs2 : rowS (xJ (sJ h' (r + 4) (ii j) v) (r + 4)) (v :: s') := by
        rw [x2, ej]
        exact rowS_push rs'
      refine next _ _ ⟨F.tr F2, v :: s', us, l6, l7, rs2, by rw [← es]; exact len', le26, e2, by rw [← es]; exact ev', ?_⟩
      rw [List.length_cons, ej]
    rw [b65_6]
    simp only [RuS_ok R, true_and, rc, vc]
    rw [if_neg (by rw [ii_le (by omega) (by omega) (by omega) (by omega)]; omega)]
    by_cases c1 : t = 314
    · rw [if_neg (fun g => g ((eq 314 (by decide) (by decide)).mpr (by omega)))]
      subst c1
      obtain ⟨ts', et⟩ : ∃ ts', ts = true :: ts' := by
        unfold tyT at e1
        rw [if_pos rfl] at e1
        match ts, e1 with
        | true :: ts', _ => exact ⟨ts', rfl⟩
      subst et
      obtain ⟨a, s', es⟩ : ∃ a s', s = a :: s' := by
        cases s with
        | nil => exact absurd el (by rw [List.length_nil, List.length_cons]; omega)
        | cons a s' => exact ⟨a, s', rfl⟩
      subst es
      have l26 : s'.length < 26 := by
        have : (true :: ts').length ≤ 26 := e26
        have l1 : (a :: s').length = (true :: ts').length := el
        rw [List.length_cons] at l1
        omega
      have ej : ii ((a :: s').length : Nat) - ii 1 = ii (s'.length : Nat) := by
        rw [ii_sub, List.length_cons]
        congr 1
        omega
      have rj := rowJ_ok R.2.2.2.2.2 l26 (by omega)
      rw [if_pos (by rw [show ii 1 = ii ((1 : Nat) : Int) from rfl, List.length_cons, ii_le (by omega) (by omega) (by omega) (by omega)]; omega)]
      rw [ej]
      refine ⟨rj.1, ⟨by omega, rj.1⟩, ?_⟩
      rw [b65_173, ek, rj.2, rs.1]
      exact fin s'.length (jj 1 - a) s' _ _ l26 rs.2 rfl rfl
    rw [if_pos (fun g => c1 (by have := (eq 314 (by decide) (by decide)).mp g; omega))]
    have push : ∀ (v : Int64) (l6 l7 : Option Value), s.length < 26 → evT X t s = v :: s → Go (d + 2) 65 125 [some (.ref r), some (.int (ii o)), some (.int (ii ((o + l.length : Nat) : Int))), some (.ref w), some (.int (ii s.length)), some (.int (ii ((o + k : Nat) : Int))), l6, l7] [.long v, .int (ii s.length), .ref (r + 4)] h' (rJ K) := fun v l6 l7 l26 es => by
      have rj := rowJ_ok R.2.2.2.2.2 l26 (by omega)
      rw [b65_125]
      refine ⟨⟨by omega, rj.1⟩, ?_⟩
      rw [b65_173, ek, show ii (s.length : Nat) + ii 1 = ii ((s.length + 1 : Nat) : Int) from by rw [ii_add]; rfl]
      exact fin s.length v s _ _ l26 rs rfl es
    by_cases c2 : 1000 ≤ t
    · have l26 : s.length < 26 := by rw [el]; exact tyT_val c1 (Or.inl c2) e1
      rw [if_pos (by rw [show ii 1000 = ii ((1000 : Nat) : Int) from rfl, ii_le (by omega) (by omega) (by omega) (by omega)]; omega)]
      rw [b65_88]
      rw [if_pos (by rw [show ii 26 = ii ((26 : Nat) : Int) from rfl, ii_lt (by omega) (by omega) (by omega) (by omega)]; omega)]
      simp only [RuS_ok R, true_and]
      rw [if_neg (by rw [show ii 1000 = ii ((1000 : Nat) : Int) from rfl, ii_lt (by omega) (by omega) (by omega) (by omega)]; omega)]
      have ev2 : (ii (t : Int) - ii 1000).toInt64 = jj ((t - 1000 : Nat) : Int) := by
        rw [ii_sub, i2l_ii (by omega) (by omega)]
        congr 1
        omega
      rw [ev2]
      refine push _ _ _ l26 ?_
      unfold evT
      rw [if_neg c1, if_pos c2]
    rw [if_neg (by rw [show ii 1000 = ii ((1000 : Nat) : Int) from rfl, ii_le (by omega) (by omega) (by omega) (by omega)]; omega)]
    have e304 : ii (t : Int) - ii 304 = ii ((t : Int) - 304) := ii_sub _ _
    have e0 : ii 0 = ii ((0 : Nat) : Int) := rfl
    have okl : okL h' w ∧ nL h' w = 10 := by
      rw [okL_kd, nL_kd, kw]
      exact ⟨Or.inr (Or.inl rfl), rfl⟩
    have binop : ¬ (304 ≤ t ∧ t < 314) → ∀ l7 : Option Value, Go (d + 2) 65 132 [some (.ref r), some (.int (ii o)), some (.int (ii ((o + l.length : Nat) : Int))), some (.ref w), some (.int (ii s.length)), some (.int (ii ((o + k : Nat) : Int))), some (.int (ii t)), l7] [] h' (rJ K) := fun c3 l7 => by
      have l2 := tyT_two c1 c2 c3 e1
      obtain ⟨b2, a, s', es⟩ : ∃ b2 a s', s = b2 :: a :: s' := by
        cases s with
        | nil => exact absurd el (by rw [List.length_nil]; omega)
        | cons b2 s => cases s with
          | nil => exact absurd el (by rw [List.length_cons, List.length_nil]; omega)
          | cons a s' => exact ⟨b2, a, s', rfl⟩
      subst es
      have l26 : s'.length + 1 + 1 ≤ 26 := by
        have : (b2 :: a :: s').length = ts.length := el
        rw [List.length_cons, List.length_cons] at this
        omega
      have rj := rowJ_ok R.2.2.2.2.2 (show s'.length < 26 by omega) (by omega)
      have rj1 := rowJ_ok R.2.2.2.2.2 (show s'.length + 1 < 26 by omega) (by omega)
      have ej1 : ii ((b2 :: a :: s').length : Nat) + ii (-1) = ii ((s'.length + 1 : Nat) : Int) := by
        rw [ii_add, List.length_cons, List.length_cons]
        congr 1
        omega
      have ej : ii ((s'.length + 1 : Nat) : Int) - ii 1 = ii (s'.length : Nat) := by
        rw [ii_sub]
        congr 1
        omega
      rw [b65_132]
      rw [if_pos (by rw [show ii 2 = ii ((2 : Nat) : Int) from rfl, List.length_cons, List.length_cons, ii_le (by omega) (by omega) (by omega) (by omega)]; omega)]
      simp only [RuS_ok R, true_and, ej1, ej, rj, rj1]
      have v1 : xJ h' (r + 4) (s'.length + 1) = b2 := rs.1
      have v2 : xJ h' (r + 4) s'.length = a := rs.2.1
      rw [c66 (by omega)]
      refine ⟨⟨by omega, rj.1⟩, ?_⟩
      rw [b65_173, ek, v1, v2]
      refine fin s'.length (jnd t a b2) s' _ _ (by omega) rs.2.2 rfl ?_
      unfold evT
      rw [if_neg c1, if_neg c2, if_neg c3]
    rw [e304]
    by_cases c3 : t < 304
    · rw [if_pos (by rw [e0, ii_lt (by omega) (by omega) (by omega) (by omega)]; omega)]
      exact binop (by omega) _
    rw [if_neg (by rw [e0, ii_lt (by omega) (by omega) (by omega) (by omega)]; omega)]
    refine ⟨okl.1, ?_⟩
    rw [okl.2]
    by_cases c4 : t < 314
    · have l26 : s.length < 26 := by rw [el]; exact tyT_val c1 (Or.inr ⟨by omega, c4⟩) e1
      rw [if_neg (by rw [ii_le (by omega) (by omega) (by omega) (by omega)]; omega)]
      rw [b65_88]
      rw [if_pos (by rw [show ii 26 = ii ((26 : Nat) : Int) from rfl, ii_lt (by omega) (by omega) (by omega) (by omega)]; omega)]
      simp only [RuS_ok R, true_and]
      rw [if_pos (by rw [show ii 1000 = ii ((1000 : Nat) : Int) from rfl, ii_lt (by omega) (by omega) (by omega) (by omega)]; omega)]
      have e4 : ii ((t : Int) - 304) = ii ((t - 304 : Nat) : Int) := by
        congr 1
        omega
      rw [e4]
      have rw4 := rowJ_ok kw (show t - 304 < 10 by omega) (by omega)
      refine ⟨rw4.1, ?_⟩
      rw [rw4.2, xw _ (by omega)]
      refine push _ _ _ l26 ?_
      unfold evT
      rw [if_neg c1, if_neg c2, if_pos ⟨by omega, c4⟩]
    · rw [if_pos (by rw [ii_le (by omega) (by omega) (by omega) (by omega)]; omega)]
      exact binop (by omega) _
  · rintro L' h' ⟨F, s, ts, l6, l7, rs, el, e26, ty, ev, rfl⟩
    have R := F.1.RuS hR
    rw [List.drop_length] at ty ev
    have ty' : ts = [b] := by
      have : some ts = some [b] := ty
      cases this; rfl
    subst ty'
    rw [b65_6]
    rw [if_pos (by rw [ii_le (by omega) (by omega) (by omega) (by omega)]; omega)]
    have rj : okJ h' (r + 4) (ii 0) ∧ eJ h' (r + 4) (ii 0) = xJ h' (r + 4) 0 := rowJ_ok (p := 0) R.2.2.2.2.2 (by decide) (by decide)
    simp only [RuS_ok R, true_and, rj]
    rw [rJ_s]
    match s, el, rs, ev with
    | [a], el, rs, ev =>
      have v : xJ h' (r + 4) 0 = a := rs.1
      rw [v]
      have := hK h' F
      unfold ruE at this
      rw [← ev] at this
      exact this
/-- sumFor -/
theorem c64 {K : Int64 → mHeap → Prop} (hR : RuR h r C) (hw : kd h w = (2, 0, [10])) (hwr : ¬ w = r + 4) (hX : ∀ i, i < 10 → xJ h w i = X i) (hK : ∀ h1, Fr (r + 4) 1 h h1 → K (ruV X C) h1) : GoCj (d + 4) 64 [.ref r, .ref w] h K := by
  rw [e64, b64_0]
  have main : ∀ m c (h' : mHeap) (l3 l4 : Option Value), c + m = C.length → Fr (r + 4) 1 h h' → (∀ h1, Fr (r + 4) 1 h h1 → K (ruK X C m c) h1) → Go (d + 3) 64 2 [some (.ref r), some (.ref w), some (.int (ii c)), l3, l4] [] h' (rJ K) := by
    intro m
    induction m with
    | zero =>
      intro c h' l3 l4 hc F hk
      obtain ⟨n, s, a, b, ok, l, st, cl⟩ := hR.fr F (by omega)
      have ok1 := ok.1
      rw [b64_2]
      simp only [RuS_ok s, true_and, l]
      rw [if_pos (by rw [ii_le (by omega) (by omega) (by omega) (by omega)]; omega), rJ_s]
      exact hk h' F
    | succ m ih =>
      intro c h' l3 l4 hc F hk
      have hR' := hR.fr F (by omega)
      obtain ⟨n, s, a, b, ok, l, st, cl⟩ := hR'
      have ok1 := ok.1
      have okc := ok.2 c (by omega)
      have clc := cl c (by omega)
      have kw : kd h' w = (2, 0, [10]) := by rw [F.1.1]; exact hw
      have xw : ∀ i, i < 10 → xJ h' w i = X i := fun i hi => by rw [same_xJ (F.2.2.2 w (by omega))]; exact hX i hi
      have o1 := off_le (C := C) (c := c + 1) C.length (by omega)
      have os := off_s (C := C) (c := c)
      have ec : ii (c : Int) + ii 1 = ii ((c + 1 : Nat) : Int) := by rw [ii_add]; rfl
      have r3 := row_ok s.2.2.2.2.1 (show c < 12 by omega) (by omega)
      have r2 := row_ok s.2.2.2.1 (show c + 1 < 13 by omega) (by omega)
      have r20 := row_ok s.2.2.2.1 (show c < 13 by omega) (by omega)
      have sum : ∀ (h2 : mHeap) (l4 : Option Value), Fr (r + 4) 1 h h2 → ((ru_c C c).2 = [] ∨ ¬ ruE X (ru_c C c).2 = jj 0) → Go (d + 3) 64 46 [some (.ref r), some (.ref w), some (.int (ii c)), some (.int (ii ((off C c + (ru_c C c).1.length : Nat) : Int))), l4] [] h2 (rJ K) := fun h2 l4 F2 cnd => by
        obtain ⟨n2, s2, a2, b2, ok2, l2, st2, cl2⟩ := hR.fr F2 (by omega)
        have cc := cl2 c (by omega)
        have kw2 : kd h2 w = (2, 0, [10]) := by rw [F2.1.1]; exact hw
        have xw2 : ∀ i, i < 10 → xJ h2 w i = X i := fun i hi => by rw [same_xJ (F2.2.2.2 w (by omega))]; exact hX i hi
        have r202 := row_ok s2.2.2.2.1 (show c < 13 by omega) (by omega)
        rw [b64_46]
        simp only [RuS_ok s2, true_and, r202, st2 c (by omega)]
        refine c65 s2 a2 (by omega) cc.2.1 okc.2.1 kw2 hwr xw2 okc.1 (fun h3 F3 => ?_)
        rw [rJ_s]
        have := hk h3 (F2.tr F3)
        unfold ruK at this
        rw [if_pos cnd] at this
        exact this
      rw [b64_2]
      simp only [RuS_ok s, true_and, l, ec, r3, r2, st (c + 1) (by omega), clc.1]
      rw [if_neg (by rw [ii_le (by omega) (by omega) (by omega) (by omega)]; omega)]
      by_cases ce : (ru_c C c).2 = []
      · have e0 : (ru_c C c).2.length = 0 := by rw [ce]; rfl
        rw [if_pos (by rw [os, e0, Nat.add_zero])]
        exact sum h' _ F (Or.inl ce)
      have e0 : 0 < (ru_c C c).2.length := List.length_pos_iff.mpr ce
      rw [if_neg (by rw [ii_eq (by omega) (by omega) (by omega) (by omega)]; omega)]
      have ty : tyL (ru_c C c).2 [] = some [true] := by
        rcases okc.2.2.2 with g | g
        · exact absurd g ce
        · exact g
      rw [os]
      refine c65 s a (by omega) clc.2.2 okc.2.2.1 kw hwr xw ty (fun h3 F3 => ?_)
      simp only [lcmp_eq]
      by_cases cz : ruE X (ru_c C c).2 = jj 0
      · rw [if_pos cz]
        refine ih (c + 1) h3 _ _ (by omega) (F.tr F3) (fun h1 F1 => ?_)
        have := hk h1 F1
        unfold ruK at this
        rw [if_neg (by rintro (g | g); exact ce g; exact g cz)] at this
        exact this
      · rw [if_neg cz]
        exact sum h3 _ (F.tr F3) (Or.inr cz)
  exact main C.length 0 h none none (Nat.zero_add _) Fr.rf hK
end Ru1
