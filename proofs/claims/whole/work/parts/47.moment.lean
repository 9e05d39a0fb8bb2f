/-! LANDS AS THEY ARE READ, AND WHAT A MOMENT DOES -/
abbrev Ld : Type := Nat × Nat × List (Nat × Nat × Nat × Nat) × List Nat × List (Nat × Nat × Nat) × List (Nat × Nat)
def ld_n (l : Ld) : Nat := l.1
def ld_so (l : Ld) : Nat := l.2.1
def ld_q (l : Ld) : List (Nat × Nat × Nat × Nat) := l.2.2.1
def ld_p (l : Ld) : List Nat := l.2.2.2.1
def ld_w (l : Ld) : List (Nat × Nat × Nat) := l.2.2.2.2.1
def ld_t (l : Ld) : List (Nat × Nat) := l.2.2.2.2.2
/-- what a person was told as: side, weight, facts known, price -/
def la_q (l : Ld) (q : Nat) : Nat × Nat × Nat × Nat := (ld_q l).getD q (0, 0, 0, 0)
def la_t (l : Ld) (t : Nat) : Nat × Nat := (ld_t l).getD t (0, 0)
def LdOk (l : Ld) : Prop := ld_n l ≤ 8 ∧ ld_so l < 2 ^ ld_n l ∧ (ld_q l).length ≤ 6 ∧ (ld_p l).length ≤ 6 ∧ (ld_w l).length ≤ 10 ∧ (ld_t l).length ≤ 8 ∧ (∀ q ∈ ld_q l, q.1 ≤ 1 ∧ (1 ≤ q.2.1 ∧ q.2.1 ≤ 128) ∧ q.2.2.1 < 2 ^ ld_n l ∧ q.2.2.2 ≤ 99) ∧ (∀ f ∈ ld_p l, f < ld_n l) ∧ (∀ w ∈ ld_w l, w.1 < (ld_p l).length ∧ w.2.1 < (ld_p l).length ∧ ¬ w.1 = w.2.1 ∧ 1 ≤ w.2.2 ∧ w.2.2 ≤ 9) ∧ ∀ t ∈ ld_t l, t.1 < ld_n l ∧ 1 ≤ t.2 ∧ t.2 ≤ 99
/-- the matrix of ways: a start, the paths, then by way of each place in turn (1000: none) -/
def wy0 : Nat → Nat := fun i => if i / 6 = i % 6 then 0 else 1000
def shorten (f : Nat → Nat) (i j v : Nat) : Nat → Nat := if v < f (6 * i + j) then upf f (6 * i + j) v else f
def wyP (l : Ld) : Nat → Nat := (ld_w l).foldl (fun f w => shorten (shorten f w.1 w.2.1 w.2.2) w.2.1 w.1 w.2.2) wy0
def wyO (n b i : Nat) (f : Nat → Nat) : Nat → Nat := (List.range n).foldl (fun f j => shorten f i j (f (6 * i + b) + f (6 * b + j))) f
def wyI (n b : Nat) (f : Nat → Nat) : Nat → Nat := (List.range n).foldl (fun f i => wyO n b i f) f
def wyB (n m : Nat) (f : Nat → Nat) : Nat → Nat := (List.range m).foldl (fun f b => wyI n b f) f
def wy (l : Ld) : Nat → Nat := wyB (ld_p l).length (ld_p l).length (wyP l)
def LaS (h : mHeap) (a : Nat) : Prop := 64 ≤ a ∧ kd h a = (4, 2, [0, 0, 0, 0, a + 4, a + 5, a + 6, 0, a + 7, 0, a + 8, 0, a + 9, a + 10]) ∧ kd h (a + 1) = (1, 1, [6]) ∧ kd h (a + 2) = (1, 1, [6]) ∧ kd h (a + 3) = (1, 1, [6]) ∧ kd h (a + 4) = (1, 1, [6]) ∧ kd h (a + 5) = (1, 1, [36]) ∧ kd h (a + 6) = (1, 1, [8]) ∧ kd h (a + 7) = (1, 1, [8])
def LaC (h : mHeap) (a : Nat) (l : Ld) : Prop := fI h a 0 = ii (ld_n l) ∧ fI h a 1 = ii (ld_so l) ∧ fI h a 2 = ii (ld_q l).length ∧ fI h a 3 = ii (nb (fun q => decide ((la_q l q).1 = 1)) 6) ∧ fI h a 7 = ii (ld_p l).length ∧ fI h a 9 = ii (ld_w l).length ∧ fI h a 11 = ii (ld_t l).length ∧ (∀ q, q < (ld_q l).length → xA h (a + 1) q = ii (la_q l q).2.2.1 ∧ xA h (a + 2) q = ii (la_q l q).2.1 ∧ xA h (a + 3) q = ii (la_q l q).2.2.2) ∧ (∀ k, k < (ld_p l).length → xA h (a + 4) k = ii ((ld_p l).getD k 0)) ∧ (0 < ld_n l → ∀ i, i < 36 → xA h (a + 5) i = ii (wy l i)) ∧ ∀ t, t < (ld_t l).length → xA h (a + 6) t = ii (la_t l t).1 ∧ xA h (a + 7) t = ii (la_t l t).2
def LaR (h : mHeap) (a : Nat) (l : Ld) : Prop := LaS h a ∧ LaC h a l
section L
variable {d : Nat} {h h1 : mHeap} {a b : Nat} {l : Ld} {m : Mo}
theorem Sk.LaS (x : Sk h h1) (hL : LaS h a) : LaS h1 a := by
  obtain ⟨g0, g⟩ := hL
  exact ⟨g0, by simp only [x.1]; exact g⟩
theorem LaR.fr {lo n : Nat} (hL : LaR h a l) (x : Fr lo n h h1) (e : a + 8 ≤ lo ∨ lo + n ≤ a) : LaR h1 a l := by
  have s : ∀ k, k < 8 → h1[a + k]? = h[a + k]? := fun k hk => x.2.2.2 _ (by omega)
  have s0 := s 0 (by omega)
  rw [Nat.add_zero] at s0
  obtain ⟨hS, g⟩ := hL
  refine ⟨x.1.LaS hS, ?_⟩
  unfold LaC
  simp only [same_fI s0, same_xA (s 1 (by omega)), same_xA (s 2 (by omega)), same_xA (s 3 (by omega)), same_xA (s 4 (by omega)), same_xA (s 5 (by omega)), same_xA (s 6 (by omega)), same_xA (s 7 (by omega))]
  exact g
theorem LaS_ok (hL : LaS h a) : okF h a 2 0 0 ∧ okF h a 2 1 0 ∧ okF h a 2 2 0 ∧ okF h a 2 3 0 ∧ okF h a 2 4 2 ∧ okF h a 2 5 2 ∧ okF h a 2 6 2 ∧ okF h a 2 7 0 ∧ okF h a 2 8 2 ∧ okF h a 2 9 0 ∧ okF h a 2 10 2 ∧ okF h a 2 11 0 ∧ okF h a 2 12 2 ∧ okF h a 2 13 2 ∧ oC h a = 2 := by
  have hk := hL.2.1
  refine ⟨?_, ?_, ?_, ?_, ?_, ?_, ?_, ?_, ?_, ?_, ?_, ?_, ?_, ?_, oC_kd hk⟩ <;> (rw [okF_kd, hk]; exact ⟨rfl, rfl, rfl⟩)
theorem LaS_fR (hL : LaS h a) : fR h a 4 = a + 1 ∧ fR h a 5 = a + 2 ∧ fR h a 6 = a + 3 ∧ fR h a 8 = a + 4 ∧ fR h a 10 = a + 5 ∧ fR h a 12 = a + 6 ∧ fR h a 13 = a + 7 := by
  have hk := hL.2.1
  refine ⟨?_, ?_, ?_, ?_, ?_, ?_, ?_⟩ <;> (rw [fR_kd, hk]; rfl)
/-- an element of a row of ints of known length -/
theorem row_ok {c n p : Nat} (hk : kd h c = (1, 1, [n])) (hp : p < n) (hp2 : p < 2147483648) : okA h c .int (ii p) ∧ eI h c (ii p) = xA h c p := by
  have hx : (ii (p : Nat)).toNatClampNeg = p := by rw [ix_ii (by omega) (by omega)]; rfl
  refine ⟨?_, by rw [eI_xA, hx]⟩
  rw [okA_kd, hk, hx]
  refine ⟨rfl, rfl, ?_, hp⟩
  rw [ii_lt0 (by omega) (by omega)]; omega
theorem sI_row {c n p : Nat} {v : Int32} (hk : kd h c = (1, 1, [n])) (hp : p < n) (hp2 : p < 2147483648) : xA (sI h c (ii p) v) b = if c = b then upf (xA h c) p v else xA h b := by
  have hx : (ii (p : Nat)).toNatClampNeg = p := by rw [ix_ii (by omega) (by omega)]; rfl
  rw [xA_sI (by rw [hk]) (by rw [hk, hx]; exact hp), hx]
/-- Arrays.fill -/
theorem c325 {K : mHeap → Prop} {n : Nat} {v : Int32} (ha : 64 ≤ a) (hk : kd h a = (1, 1, [n])) (hn : n < 100000) (hK : ∀ h1, Fr a 1 h h1 → (∀ i, i < n → xA h1 a i = v) → K h1) : GoCv (d + 1) 325 [.ref a, .int v] h K := by
  rw [e325, b325_0, okL_kd, nL_kd, hk]
  refine ⟨Or.inl ⟨rfl, by show (1 : Nat) ≤ 3; omega⟩, ?_⟩
  show Go d 325 5 [some (.ref a), some (.int v), some (.int (ii 0)), some (.int (ii n))] [] h (rV K)
  refine Go_loop (fun k L' h' => L' = [some (.ref a), some (.int v), some (.int (ii k)), some (.int (ii n))] ∧ Fr a 1 h h' ∧ ∀ i, i < k → xA h' a i = v) n ?_ ?_ 0 _ h (Nat.zero_le _) ⟨rfl, Fr.rf, fun i hi => absurd hi (Nat.not_lt_zero _)⟩
  · rintro k L' h' hkn ⟨rfl, hf, hx⟩ next
    have hk' : kd h' a = (1, 1, [n]) := by rw [hf.1.1]; exact hk
    rw [b325_5, if_neg (by rw [ii_le (by omega) (by omega) (by omega) (by omega)]; omega)]
    refine ⟨⟨ha, (row_ok hk' hkn (by omega)).1⟩, ?_⟩
    refine next _ _ ⟨by rw [ii_add]; rfl, hf.tr Fr.sI, fun i hi => ?_⟩
    rw [sI_row hk' hkn (by omega), if_pos rfl]
    unfold upf
    by_cases q : i = k
    · rw [if_pos q]
    · rw [if_neg q]; exact hx i (by omega)
  · rintro L' h' ⟨rfl, hf, hx⟩
    rw [b325_5, if_pos (by rw [ii_le (by omega) (by omega) (by omega) (by omega)]; omega), rV_s]
    exact hK h' hf hx
/-! turns of a day -/
def tOn (l : Ld) (dd : Nat) : List Nat := ((ld_t l).filter (fun t => decide (t.2 = dd))).map (fun t => t.1)
def xAll (fs : List Nat) : Nat := fs.foldl (fun x f => x ^^^ 2 ^ f) 0
def tOnK (l : Ld) (dd k : Nat) : List Nat := (((ld_t l).take k).filter (fun t => decide (t.2 = dd))).map (fun t => t.1)
theorem tOnK_succ {dd k : Nat} (hk : k < (ld_t l).length) : tOnK l dd (k + 1) = tOnK l dd k ++ (if (la_t l k).2 = dd then [(la_t l k).1] else []) := by
  unfold tOnK la_t
  rw [List.take_succ, List.getElem?_eq_getElem hk, List.getD_eq_getElem?_getD, List.getElem?_eq_getElem hk]
  rw [List.filter_append, List.map_append]
  show _ = _ ++ if ((ld_t l)[k]).2 = dd then [((ld_t l)[k]).1] else []
  by_cases q : ((ld_t l)[k]).2 = dd
  · rw [if_pos q]
    simp [q]
  · rw [if_neg q]
    simp [q]
theorem tOnK_all {dd : Nat} : tOnK l dd (ld_t l).length = tOn l dd := by
  unfold tOnK tOn
  rw [List.take_length]
theorem xAll_app (fs : List Nat) (f : Nat) : xAll (fs ++ [f]) = xAll fs ^^^ 2 ^ f := by
  unfold xAll
  rw [List.foldl_append]
  rfl
theorem shl1 {f : Nat} (hf : f < 32) : shl (ii 1) (ii f) = ii ((2 ^ f : Nat) : Int) := by
  rw [shl_ii 1 hf, Int.one_mul]
  congr 1
  try simp
theorem la_t_mem {t : Nat} (ht : t < (ld_t l).length) : la_t l t ∈ ld_t l := by
  unfold la_t
  rw [List.getD_eq_getElem?_getD, List.getElem?_eq_getElem ht]
  exact List.getElem_mem ht
theorem la_q_mem {q : Nat} (hq : q < (ld_q l).length) : la_q l q ∈ ld_q l := by
  unfold la_q
  rw [List.getD_eq_getElem?_getD, List.getElem?_eq_getElem hq]
  exact List.getElem_mem hq
theorem LdOk.t (ok : LdOk l) {t : Nat} (ht : t < (ld_t l).length) : (la_t l t).1 < 8 ∧ (la_t l t).1 < ld_n l ∧ 1 ≤ (la_t l t).2 ∧ (la_t l t).2 ≤ 99 := by
  have g := ok.2.2.2.2.2.2.2.2.2 _ (la_t_mem ht)
  have := ok.1
  exact ⟨by omega, g.1, g.2.1, g.2.2⟩
/-- turnedOn -/
theorem c42 {K : Int32 → mHeap → Prop} (hL : LaR h a l) (ok : LdOk l) {dd : Nat} (hd : dd < 2147483648) : GoCi (d + 1) 42 [.ref a, .int (ii dd)] h K ↔ K (ii (xAll (tOn l dd))) h := by
  have hn : (ld_t l).length ≤ 8 := ok.2.2.2.2.2.1
  have hT := hL.2.2.2.2.2.2.2.1
  rw [e42, b42_0]
  have key : ∀ j k, k + j = (ld_t l).length → (Go d 42 4 [some (.ref a), some (.int (ii dd)), some (.int (ii (xAll (tOnK l dd k)))), some (.int (ii k))] [] h (rI K) ↔ K (ii (xAll (tOn l dd))) h) := by
    intro j
    induction j with
    | zero =>
      intro k hk
      have : k = (ld_t l).length := by omega
      subst this
      rw [b42_4]
      simp only [LaS_ok hL.1, true_and, hT, rI_s, tOnK_all]
      rw [if_pos (by rw [ii_le (by omega) (by omega) (by omega) (by omega)]; omega)]
    | succ j ih =>
      intro k hk
      have hlt : k < (ld_t l).length := by omega
      have r1 := row_ok hL.1.2.2.2.2.2.2.2.2 (show k < 8 by omega) (by omega)
      have r2 := row_ok hL.1.2.2.2.2.2.2.2.1 (show k < 8 by omega) (by omega)
      have ht := hL.2.2.2.2.2.2.2.2.2.2.2 k hlt
      have hb := ok.t hlt
      have ih := ih (k + 1) (by omega)
      rw [b42_4]
      simp only [LaS_ok hL.1, true_and, hT, LaS_fR hL.1, r1, r2, ht]
      rw [if_neg (by rw [ii_le (by omega) (by omega) (by omega) (by omega)]; omega)]
      have ek : ii (k : Int) + ii 1 = ii ((k + 1 : Nat) : Int) := by rw [ii_add]; rfl
      by_cases q : (la_t l k).2 = dd
      · rw [if_neg (by rw [q]; exact fun g => g rfl), b42_33, shl1 (by omega), xor_ii, ek]
        rw [tOnK_succ hlt, if_pos q, xAll_app] at ih
        exact ih
      · rw [if_pos (by rw [ii_eq (by omega) (by omega) (by omega) (by omega)]; omega), b42_33, ek]
        rw [tOnK_succ hlt, if_neg q, List.append_nil] at ih
        exact ih
  exact key (ld_t l).length 0 (by omega)
/-! what is held, set anew -/
def mo_sw (m : Mo) (i : Nat) (w : Wd) : Mo := (m.1, m.2.1, m.2.2.1, m.2.2.2.1, m.2.2.2.2.1, upf (mo_w m) i w)
theorem MoR_pW (hM : MoR h b m) {i : Nat} (hi : i < 7) (w : Nat → Bool) : MoR (pW h (b + 3 + i) w) b (mo_sw m i (fun j => decide (j < 256) && w j)) ∧ Fr b 10 h (pW h (b + 3 + i) w) := by
  have hW := hM.1.2.2.2.2.2 i hi
  have hf := Fr.pW (w := w) hW
  refine ⟨⟨hf.1.MoS hM.1, ?_⟩, hf.wide (by omega) (by omega)⟩
  obtain ⟨g1, g2, g3, g4, g5, g6⟩ := hM.2
  refine ⟨by rw [fI_pW hW]; exact g1, by rw [fI_pW hW]; exact g2, by rw [fI_pW hW]; exact g3, by rw [fI_pW hW]; exact g4, fun p hp => by rw [xA_pW]; exact g5 p hp, fun j hj => ?_⟩
  show wo (pW h (b + 3 + i) w) (b + 3 + j) = upf (mo_w m) i _ j
  unfold upf
  by_cases q : j = i
  · subst q
    rw [if_pos rfl]
    funext k
    exact wo_pW hW k
  · rw [if_neg q, wo_pW_o (by omega)]
    exact g6 j hj
def spr (f : Nat) (w : Wd) : Wd := fun i => decide (i < 256) && (w i || w (i ^^^ 2 ^ f))
/-- the first k sets spread -/
def fgt (m : Mo) (f k : Nat) : Mo := (m.1, m.2.1, m.2.2.1, m.2.2.2.1, m.2.2.2.2.1, fun i => if i < k then spr f (mo_w m i) else mo_w m i)
theorem fgt_succ {f k : Nat} : mo_sw (fgt m f k) k (spr f (mo_w m k)) = fgt m f (k + 1) := by
  have : upf (mo_w (fgt m f k)) k (spr f (mo_w m k)) = fun i => if i < k + 1 then spr f (mo_w m i) else mo_w m i := by
    funext i
    show (if i = k then spr f (mo_w m k) else if i < k then spr f (mo_w m i) else mo_w m i) = _
    by_cases q : i = k
    · subst q
      rw [if_pos rfl, if_pos (by omega)]
    · rw [if_neg q]
      by_cases p : i < k
      · rw [if_pos p, if_pos (by omega)]
      · rw [if_neg p, if_neg (by omega)]
  unfold mo_sw
  rw [this]
  rfl
/-- forget -/
theorem c52 {K : mHeap → Prop} (hS : St h) (hM : MoR h b m) {f n : Nat} (hf : f < 8) (hn : n ≤ 6) (hK : ∀ h1, Fr b 10 h h1 → MoR h1 b (fgt m f (n + 1)) → K h1) : GoCv (d + 3) 52 [.ref b, .int (ii f), .int (ii n)] h K := by
  rw [e52, b52_0]
  refine Go_loop (fun k L' h' => L' = [some (.ref b), some (.int (ii f)), some (.int (ii n)), some (.int (ii ((k : Int) - 1)))] ∧ Fr b 10 h h' ∧ MoR h' b (fgt m f k)) (n + 1) ?_ ?_ 0 _ h (Nat.zero_le _) ⟨rfl, Fr.rf, ?_⟩
  · rintro k L' h' hkn ⟨rfl, hfr, hM'⟩ next
    have hS' := hfr.St hM.1.1 hS
    rw [b52_2, if_neg (by rw [ii_le (by omega) (by omega) (by omega) (by omega)]; omega)]
    refine ⟨(MoS_okF hM'.1).2.2.2.2.2.2.2.2, ?_⟩
    rw [c46 hM'.1 (i := k) (by omega) (by omega)]
    have hW := hM'.1.2.2.2.2.2 k (by omega)
    refine ⟨W_oC hW, ?_⟩
    rw [c124 hS' hW hf]
    obtain ⟨g1, g2⟩ := MoR_pW hM' (i := k) (by omega) (fun i => wo h' (b + 3 + k) i || wo h' (b + 3 + k) (i ^^^ 2 ^ f))
    have ek : ii ((k : Int) - 1) + ii 1 = ii (((k + 1 : Nat) : Int) - 1) := by rw [ii_add]; congr 1; omega
    refine next _ _ ⟨by rw [ek], hfr.tr g2, ?_⟩
    have e : mo_w (fgt m f k) k = mo_w m k := by
      show (if k < k then _ else mo_w m k) = _
      rw [if_neg (by omega)]
    rw [hM'.2.2.2.2.2.2 k (by omega), e] at g1
    rw [← fgt_succ, hM'.2.2.2.2.2.2 k (by omega), e]
    exact g1
  · rintro L' h' ⟨rfl, hfr, hM'⟩
    rw [b52_2, if_pos (by rw [ii_le (by omega) (by omega) (by omega) (by omega)]; omega), rV_s]
    exact hK h' hfr hM'
  · have : fgt m f 0 = m := by
      unfold fgt
      simp
      rfl
    rw [this]
    exact hM
end L
