/-! THE REFERENCE: a page, an image, a rule in its cells; what holds between its calls -/
def fm (v : Nat → Nat → Int32) (i : Nat) : Int32 := if i = 0 then v 149 6 else if i = 1 then v 149 1 else if i < 8 then v 150 (i - 2) else if i < 14 then v 153 (i - 8) else if i < 20 then v 154 (i - 14) else v 163 (i - 20)
def RMf (x : Nat → Int32) (l : Ld) (m : Mo) : Prop := RMo l (x 0) (x 1) (fun q => x (2 + q)) (fun q => x (8 + q)) (fun q => x (14 + q)) (fun j => x (20 + j)) m
def RPa (v : Nat → Nat → Int32) (l : Ld) (u : List Mo) : Prop := v 0 0 = ii (u.length : Nat) ∧ u.length ≤ 20 ∧ ∀ i, i < u.length → RMf (fun j => v 191 (76 * i + j)) l (u.getD i mo0)
def RTr (v : Nat → Nat → Int32) (t : List (Nat × Bool)) : Prop := v 149 7 = ii (t.length : Nat) ∧ t.length ≤ 10 ∧ ∀ i, i < t.length → v 161 i = ii ((t.getD i (0, false)).1 : Nat) ∧ v 162 i = ii (bt (t.getD i (0, false)).2)
def RPg (v : Nat → Nat → Int32) (P : Pg) : Prop := RLd v (pg_l P) ∧ RMv v (pg_l P) (pg_m P) ∧ RPa v (pg_l P) (pg_u P) ∧ RTr v (pg_t P) ∧ v 149 8 = ii (pg_x P : Nat)
def ofs (r : Nat) : Nat := if r = 0 then 0 else if r = 149 then 1 else if r = 150 then 10 else if r = 151 then 16 else if r = 152 then 22 else if r = 153 then 28 else if r = 154 then 34 else if r = 155 then 40 else if r = 156 then 46 else if r = 157 then 56 else if r = 158 then 66 else if r = 159 then 76 else if r = 160 then 84 else if r = 161 then 92 else if r = 162 then 102 else if r = 163 then 112 else 168
def iv (h : mHeap) (k r i : Nat) : Int32 := xA h 200 (1760 * k + (ofs r + i))
def RTx (h : mHeap) (B : Bt) (n : Nat) : Prop := fI h 148 27 = ii (n : Nat) ∧ n ≤ 400 ∧ ∀ i, i < n → xA h 175 i = ii (B i)
def srt (t : Nat) : Nat := if 1000 ≤ t then 0 else if 304 ≤ t ∧ t < 314 then 1 else if t = 43 then 2 else if t = 45 then 3 else if t = 60 then 4 else if t = 256 then 5 else if t = 61 then 6 else if t = 257 then 7 else if t = 62 then 8 else if t = 314 then 9 else if t = 315 then 10 else if t = 316 then 11 else if t = 42 then 13 else if t = 47 then 14 else 15
def nbr (t : Nat) : Nat := if 1000 ≤ t then t - 1000 else if 304 ≤ t ∧ t < 314 then t - 304 else 0
def RRr (h : mHeap) (k : Nat) (C : Ru) : Prop := off C C.length ≤ 300 ∧ xA h 178 k = ii (C.length : Nat) ∧ C.length ≤ 12 ∧ ∀ c, c < C.length → xA h 179 (12 * k + c) = ii (off C c : Nat) ∧ xA h 180 (12 * k + c) = ii ((off C c + (ru_c C c).1.length : Nat) : Int) ∧ xA h 181 (12 * k + c) = ii (off C (c + 1) : Nat) ∧ ∀ i, i < ((ru_c C c).1 ++ (ru_c C c).2).length → xA h 176 (300 * k + (off C c + i)) = ii (srt (((ru_c C c).1 ++ (ru_c C c).2).getD i 0) : Nat) ∧ xA h 177 (300 * k + (off C c + i)) = ii (nbr (((ru_c C c).1 ++ (ru_c C c).2).getD i 0) : Nat)
def RRu (h : mHeap) (C : List Ru) : Prop := fI h 148 31 = ii (C.length : Nat) ∧ C.length ≤ 6 ∧ ∀ k, k < C.length → RRr h k (C.getD k [])
def RIm (h : mHeap) (I : Nat → Option Pg) : Prop := ∀ k, k < 4 → (xA h 201 k = ii 0 ∧ I k = none) ∨ (xA h 201 k = ii 1 ∧ ∃ Q, I k = some Q ∧ RPg (iv h k) Q)
def RI (h : mHeap) (s : Cs) : Prop := (RS h ∧ fI h 148 37 = ii 10) ∧ RTx h (cs_B s) (cs_n s) ∧ RSy h (cs_S s) ∧ RRu h (cs_C s) ∧ RPg (lv h) (cs_P s) ∧ RIm h (cs_I s)
/-- what the class's side says of a state, heap apart -/
def CsI (s : Cs) : Prop := (LdOk (pg_l (cs_P s)) ∧ PgI (cs_S s) (cs_P s)) ∧ (cs_S s).length ≤ 24 ∧ (∀ C ∈ cs_C s, RuOk C) ∧ ((∀ i, i < cs_n s → -128 ≤ cs_B s i ∧ cs_B s i ≤ 127) ∧ cs_n s ≤ 400) ∧ ∀ k Q, k < 4 → cs_I s k = some Q → LdOk (pg_l Q) ∧ PgI (cs_S s) Q
abbrev scF : List Nat := [28, 29, 30, 33, 34, 35, 36, 51, 52, 53, 60, 61, 67, 68, 71, 72, 75, 76]
abbrev scR : List Nat := [164, 165, 166, 167, 168, 169, 170, 171, 172, 173, 174, 182, 184, 185, 186, 187, 188, 189, 190, 192, 193, 194, 195, 196, 197, 198, 199]
abbrev pgR : List Nat := [149, 150, 151, 152, 153, 154, 155, 156, 157, 158, 159, 160, 161, 162, 163, 191]
section Rk
variable {d : Nat} {h h1 : mHeap} {s : Cs} {P P' : Pg} {S : List Wd} {l : Ld} {m m' : Mo} {F R : List Nat} {v v' : Nat → Nat → Int32} {x y : Nat → Int32}
theorem RMo_cong {D F D' F' : Int32} {sd gn fl hl sd' gn' fl' hl' : Nat → Int32} (hM : RMo l D F sd gn fl hl m) (q6 : (ld_q l).length ≤ 6) (e1 : D' = D) (e2 : F' = F) (e3 : ∀ q, q < 6 → sd' q = sd q ∧ gn' q = gn q ∧ fl' q = fl q) (e4 : ∀ j, j < 56 → hl' j = hl j) : RMo l D' F' sd' gn' fl' hl' m := by
  have w : ∀ b, b < 7 → rw8 hl' b = rw8 hl b := fun b hb => rw8_cong fun k hk => e4 _ (by omega)
  refine ⟨⟨e1.trans hM.1.1, e2.trans hM.1.2⟩, fun q hq => ?_, by rw [w 6 (by decide)]; exact hM.2.2⟩
  have g := e3 q (by omega)
  have g2 := hM.2.1 q hq
  exact ⟨g.1.trans g2.1, g.2.1.trans g2.2.1, g.2.2.trans g2.2.2.1, by rw [w q (by omega)]; exact g2.2.2.2⟩
theorem RMf_cong (hM : RMf x l m) (q6 : (ld_q l).length ≤ 6) (e : ∀ i, i < 76 → y i = x i) : RMf y l m := RMo_cong hM q6 (e 0 (by decide)) (e 1 (by decide)) (fun q hq => ⟨e _ (by omega), e _ (by omega), e _ (by omega)⟩) (fun j hj => e _ (by omega))
theorem fm_at : fm v 0 = v 149 6 ∧ fm v 1 = v 149 1 ∧ (∀ q, q < 6 → fm v (2 + q) = v 150 q ∧ fm v (8 + q) = v 153 q ∧ fm v (14 + q) = v 154 q) ∧ ∀ j, fm v (20 + j) = v 163 j := by
  refine ⟨rfl, rfl, fun q hq => ⟨?_, ?_, ?_⟩, fun j => ?_⟩
  · unfold fm; rw [if_neg (by omega), if_neg (by omega), if_pos (by omega)]; exact congrArg _ (by omega)
  · unfold fm; rw [if_neg (by omega), if_neg (by omega), if_neg (by omega), if_pos (by omega)]; exact congrArg _ (by omega)
  · unfold fm; rw [if_neg (by omega), if_neg (by omega), if_neg (by omega), if_neg (by omega), if_pos (by omega)]; exact congrArg _ (by omega)
  · unfold fm; rw [if_neg (by omega), if_neg (by omega), if_neg (by omega), if_neg (by omega), if_neg (by omega)]; exact congrArg _ (by omega)
theorem RMv_f (q6 : (ld_q l).length ≤ 6) : RMv v l m ↔ RMf (fm v) l m := by
  obtain ⟨a, b, c, e⟩ := fm_at (v := v)
  constructor
  · exact fun g => RMo_cong g q6 a b (fun q hq => c q hq) (fun j _ => e j)
  · exact fun g => RMo_cong g q6 a.symm b.symm (fun q hq => ⟨(c q hq).1.symm, (c q hq).2.1.symm, (c q hq).2.2.symm⟩) (fun j _ => (e j).symm)
theorem RLd_cong (hL : RLd v l) (ok : LdOk l) (e1 : ∀ i, ¬ i = 6 → ¬ i = 1 → ¬ i = 7 → ¬ i = 8 → i < 9 → v' 149 i = v 149 i) (e2 : ∀ r i, (r = 151 ∨ r = 152 ∨ (155 ≤ r ∧ r ≤ 160)) → i < 10 → (r = 156 ∨ r = 157 ∨ r = 158 ∨ i < 8) → (159 ≤ r ∨ 156 ≤ r ∨ i < 6) → v' r i = v r i) : RLd v' l := by
  have q6 := ok.2.2.1
  have p6 := ok.2.2.2.1
  have w10 := ok.2.2.2.2.1
  have t8 := ok.2.2.2.2.2.1
  obtain ⟨⟨a0, a2, a3, a4, a5⟩, b, c, f, g⟩ := hL
  refine ⟨⟨(e1 0 (by decide) (by decide) (by decide) (by decide) (by decide)).trans a0, (e1 2 (by decide) (by decide) (by decide) (by decide) (by decide)).trans a2, (e1 3 (by decide) (by decide) (by decide) (by decide) (by decide)).trans a3, (e1 4 (by decide) (by decide) (by decide) (by decide) (by decide)).trans a4, (e1 5 (by decide) (by decide) (by decide) (by decide) (by decide)).trans a5⟩, fun q hq => ?_, fun k hk => ?_, fun k hk => ?_, fun t ht => ?_⟩
  · exact ⟨(e2 151 q (by omega) (by omega) (by omega) (by omega)).trans (b q hq).1, (e2 152 q (by omega) (by omega) (by omega) (by omega)).trans (b q hq).2⟩
  · exact (e2 155 k (by omega) (by omega) (by omega) (by omega)).trans (c k hk)
  · exact ⟨(e2 156 k (by omega) (by omega) (by omega) (by omega)).trans (f k hk).1, (e2 157 k (by omega) (by omega) (by omega) (by omega)).trans (f k hk).2.1, (e2 158 k (by omega) (by omega) (by omega) (by omega)).trans (f k hk).2.2⟩
  · exact ⟨(e2 159 t (by omega) (by omega) (by omega) (by omega)).trans (g t ht).1, (e2 160 t (by omega) (by omega) (by omega) (by omega)).trans (g t ht).2⟩
theorem RF.lv (z : RF F R h h1) {r : Nat} (hr : 149 ≤ r) (e : ¬ r ∈ R) (i : Nat) : lv h1 r i = lv h r i := by
  show (if r = 0 then _ else xA h1 r i) = if r = 0 then _ else xA h r i
  rw [if_neg (by omega), if_neg (by omega), z.ae (by omega) e]
theorem Rw.mv (W : Rw h l m S) (z : RF F R h h1) (e : ∀ a ∈ [151, 152, 155, 156, 157, 158, 159, 160, 183], ¬ a ∈ R) (r64 : ∀ a ∈ R, 64 ≤ a) (f : ¬ 32 ∈ F) (e149 : ∀ i, ¬ i = 6 → ¬ i = 1 → ¬ i = 7 → ¬ i = 8 → xA h1 149 i = xA h 149 i) (hM : RMv (lv h1) l m') (hJ : MoJ l m') : Rw h1 l m' S := by
  refine ⟨z.rs W.1 r64, ⟨RLd_cong W.2.1.1 W.ok (fun i a b c g _ => e149 i a b c g) (fun r i a _ _ _ => z.lv (by omega) (e r (by
    rcases a with a | a | ⟨a, b⟩
    · subst a; decide
    · subst a; decide
    · have : r = 155 ∨ r = 156 ∨ r = 157 ∨ r = 158 ∨ r = 159 ∨ r = 160 := by omega
      rcases this with q | q | q | q | q | q <;> (subst q; decide))) i), W.ok⟩, ⟨hM, hJ⟩, by rw [z.fe f]; exact W.ns, W.s24, fun k hk => by rw [z.ae (by decide) (e 183 (by decide))]; exact W.ss hk⟩
theorem Rw.sc (W : Rw h l m S) (z : RF F R h h1) (e : ∀ a ∈ [149, 150, 151, 152, 153, 154, 155, 156, 157, 158, 159, 160, 163, 183], ¬ a ∈ R) (r64 : ∀ a ∈ R, 64 ≤ a) (f : ¬ 32 ∈ F) : Rw h1 l m S := by
  refine W.mv z (fun a ha => e a ?_) r64 f (fun i _ _ _ _ => by rw [z.ae (by decide) (e 149 (by decide))]) ?_ W.mj
  · have : ∀ a ∈ [151, 152, 155, 156, 157, 158, 159, 160, 183], a ∈ [149, 150, 151, 152, 153, 154, 155, 156, 157, 158, 159, 160, 163, 183] := by decide
    exact this a ha
  · exact RMo_cong W.2.2.1.1 W.q6 (z.lv (by decide) (e 149 (by decide)) 6) (z.lv (by decide) (e 149 (by decide)) 1) (fun q _ => ⟨z.lv (by decide) (e 150 (by decide)) q, z.lv (by decide) (e 153 (by decide)) q, z.lv (by decide) (e 154 (by decide)) q⟩) (fun j _ => z.lv (by decide) (e 163 (by decide)) j)
theorem MoI.j (hI : MoI l m) : MoJ l m := ⟨hI.1, by have := hI.2.1; omega, hI.2.2.1, hI.2.2.2.1⟩
theorem RI.w (hI : RI h s) (hC : CsI s) : Rw h (pg_l (cs_P s)) (pg_m (cs_P s)) (cs_S s) := ⟨hI.1.1, ⟨hI.2.2.2.2.1.1, hC.1.1⟩, ⟨hI.2.2.2.2.1.2.1, hC.1.2.1.j⟩, hI.2.2.1⟩
theorem RPg_cong (hP : RPg v P) (ok : LdOk (pg_l P)) (e0 : v' 0 0 = v 0 0) (e : ∀ r i, (149 ≤ r ∧ r ≤ 163) ∨ r = 191 → i < 1520 → (¬ r = 149 ∨ i < 9) → (¬ (150 ≤ r ∧ r ≤ 155) ∨ i < 6) → (¬ (156 ≤ r ∧ r ≤ 162) ∨ i < 10) → (¬ (r = 159 ∨ r = 160) ∨ i < 8) → (¬ r = 163 ∨ i < 56) → v' r i = v r i) : RPg v' P := by
  obtain ⟨a, b, c, f, g⟩ := hP
  refine ⟨RLd_cong a ok (fun i _ _ _ _ hi => e 149 i (by omega) (by omega) (by omega) (by omega) (by omega) (by omega) (by omega)) (fun r i h1 h2 h3 h4 => e r i (by omega) (by omega) (by omega) (by omega) (by omega) (by omega) (by omega)), ?_, ⟨e0.trans c.1, c.2.1, fun i hi => ?_⟩, ⟨(e 149 7 (by omega) (by omega) (by omega) (by omega) (by omega) (by omega) (by omega)).trans f.1, f.2.1, fun i hi => ?_⟩, (e 149 8 (by omega) (by omega) (by omega) (by omega) (by omega) (by omega) (by omega)).trans g⟩
  · exact RMo_cong b ok.2.2.1 (e 149 6 (by omega) (by omega) (by omega) (by omega) (by omega) (by omega) (by omega)) (e 149 1 (by omega) (by omega) (by omega) (by omega) (by omega) (by omega) (by omega)) (fun q hq => ⟨e 150 q (by omega) (by omega) (by omega) (by omega) (by omega) (by omega) (by omega), e 153 q (by omega) (by omega) (by omega) (by omega) (by omega) (by omega) (by omega), e 154 q (by omega) (by omega) (by omega) (by omega) (by omega) (by omega) (by omega)⟩) (fun j hj => e 163 j (by omega) (by omega) (by omega) (by omega) (by omega) (by omega) (by omega))
  · have := c.2.1
    exact RMf_cong (c.2.2 i hi) ok.2.2.1 (fun j hj => e 191 _ (by omega) (by omega) (by omega) (by omega) (by omega) (by omega) (by omega))
  · have := f.2.1
    have g2 := f.2.2 i hi
    exact ⟨(e 161 i (by omega) (by omega) (by omega) (by omega) (by omega) (by omega) (by omega)).trans g2.1, (e 162 i (by omega) (by omega) (by omega) (by omega) (by omega) (by omega) (by omega)).trans g2.2⟩
theorem RRr_eq {k : Nat} {C : Ru} (hR : RRr h k C) (e : ∀ a, 176 ≤ a → a ≤ 181 → xA h1 a = xA h a) : RRr h1 k C := by
  obtain ⟨a, b, c, f⟩ := hR
  exact ⟨a, by rw [e 178 (by decide) (by decide)]; exact b, c, fun i hi => by rw [e 179 (by decide) (by decide), e 180 (by decide) (by decide), e 181 (by decide) (by decide), e 176 (by decide) (by decide), e 177 (by decide) (by decide)]; exact f i hi⟩
theorem iv_at {k r i : Nat} : iv h k r i = xA h 200 (1760 * k + (ofs r + i)) := rfl
def sz (r : Nat) : Nat := if r = 149 then 9 else if r = 163 then 56 else if r = 191 then 1520 else if (156 ≤ r ∧ r ≤ 158) ∨ r = 161 ∨ r = 162 then 10 else if r = 159 ∨ r = 160 then 8 else 6
theorem ofs_d : ∀ a ∈ pgR, (149 ≤ a ∧ ¬ a = 192 ∧ ¬ a = 200 ∧ 1 ≤ ofs a) ∧ ∀ r ∈ pgR, ¬ r = a → ofs r + sz r ≤ ofs a ∨ ofs a + sz a ≤ ofs r := by decide
theorem sz_in {r i : Nat} (hr : (149 ≤ r ∧ r ≤ 163) ∨ r = 191) (h0 : i < 1520) (h1 : ¬ r = 149 ∨ i < 9) (h2 : ¬ (150 ≤ r ∧ r ≤ 155) ∨ i < 6) (h3 : ¬ (156 ≤ r ∧ r ≤ 162) ∨ i < 10) (h4 : ¬ (r = 159 ∨ r = 160) ∨ i < 8) (h5 : ¬ r = 163 ∨ i < 56) : r ∈ pgR ∧ i < sz r ∧ ofs r + i < 1688 := by
  have : r = 149 ∨ r = 150 ∨ r = 151 ∨ r = 152 ∨ r = 153 ∨ r = 154 ∨ r = 155 ∨ r = 156 ∨ r = 157 ∨ r = 158 ∨ r = 159 ∨ r = 160 ∨ r = 161 ∨ r = 162 ∨ r = 163 ∨ r = 191 := by omega
  rcases this with q | q | q | q | q | q | q | q | q | q | q | q | q | q | q | q <;> (subst q; refine ⟨by decide, ?_, ?_⟩) <;> first | (show i < 9; omega) | (show i < 6; omega) | (show i < 10; omega) | (show i < 8; omega) | (show i < 56; omega) | (show i < 1520; omega) | (show 1 + i < 1688; omega) | (show 10 + i < 1688; omega) | (show 16 + i < 1688; omega) | (show 22 + i < 1688; omega) | (show 28 + i < 1688; omega) | (show 34 + i < 1688; omega) | (show 40 + i < 1688; omega) | (show 46 + i < 1688; omega) | (show 56 + i < 1688; omega) | (show 66 + i < 1688; omega) | (show 76 + i < 1688; omega) | (show 84 + i < 1688; omega) | (show 92 + i < 1688; omega) | (show 102 + i < 1688; omega) | (show 112 + i < 1688; omega) | (show 168 + i < 1688; omega)
theorem RI.pg (hI : RI h s) (hC : CsI s) (z : RF (59 :: scF) (200 :: (pgR ++ scR)) h h1) (e : ∀ i, i < 7040 → xA h1 200 i = xA h 200 i) (hP : RPg (lv h1) P') : RI h1 (sPg s P') := by
  obtain ⟨⟨a1, a2⟩, b, c, f, _, g⟩ := hI
  have r64 : ∀ a ∈ (200 :: (pgR ++ scR)), 64 ≤ a := by decide
  refine ⟨⟨z.rs a1 r64, by rw [z.fe (by decide)]; exact a2⟩, ⟨by rw [z.fe (by decide)]; exact b.1, b.2.1, fun i hi => by rw [z.ae (by decide) (by decide)]; exact b.2.2 i hi⟩, ⟨by rw [z.fe (by decide)]; exact c.1, c.2.1, fun k hk => by rw [z.ae (by decide) (by decide)]; exact c.2.2 k hk⟩, ⟨by rw [z.fe (by decide)]; exact f.1, f.2.1, fun k hk => RRr_eq (f.2.2 k hk) (fun a h1 h2 => z.ae (by omega) (by
    have : a = 176 ∨ a = 177 ∨ a = 178 ∨ a = 179 ∨ a = 180 ∨ a = 181 := by omega
    rcases this with q | q | q | q | q | q <;> (subst q; decide)))⟩, hP, fun k hk => ?_⟩
  rw [show xA h1 201 = xA h 201 from z.ae (by decide) (by decide)]
  rcases g k hk with q | ⟨q, Q, q1, q2⟩
  · exact Or.inl q
  · refine Or.inr ⟨q, Q, q1, RPg_cong q2 (hC.2.2.2.2 k Q hk q1).1 ?_ (fun r i h1 h2 h3 h4 h5 h6 h7 => ?_)⟩
    · exact e _ (by unfold ofs; rw [if_pos rfl]; omega)
    · refine e _ ?_
      have := (sz_in h1 h2 h3 h4 h5 h6 h7).2.2
      omega
theorem sPg_self : sPg s (cs_P s) = s := rfl
theorem RPg_sc (hP : RPg (lv h) P) (z : RF F R h h1) (e : ∀ a ∈ pgR, ¬ a ∈ R) (f : ¬ 59 ∈ F) : RPg (lv h1) P := by
  have w : ∀ r, ((149 ≤ r ∧ r ≤ 163) ∨ r = 191) → lv h1 r = lv h r := fun r hr => by
    have : r ∈ pgR := by
      have : r = 149 ∨ r = 150 ∨ r = 151 ∨ r = 152 ∨ r = 153 ∨ r = 154 ∨ r = 155 ∨ r = 156 ∨ r = 157 ∨ r = 158 ∨ r = 159 ∨ r = 160 ∨ r = 161 ∨ r = 162 ∨ r = 163 ∨ r = 191 := by omega
      rcases this with q | q | q | q | q | q | q | q | q | q | q | q | q | q | q | q <;> (subst q; decide)
    funext i
    exact z.lv (by omega) (e r this) i
  have w0 : lv h1 0 0 = lv h 0 0 := z.fe f
  obtain ⟨a, b, c, g, i⟩ := hP
  unfold RPg RLd RMv RPa RTr
  rw [w 149 (by omega), w 150 (by omega), w 151 (by omega), w 152 (by omega), w 153 (by omega), w 154 (by omega), w 155 (by omega), w 156 (by omega), w 157 (by omega), w 158 (by omega), w 159 (by omega), w 160 (by omega), w 161 (by omega), w 162 (by omega), w 163 (by omega), w 191 (by omega), w0]
  exact ⟨a, b, c, g, i⟩
theorem RI.sc (hI : RI h s) (hC : CsI s) (z : RF scF scR h h1) : RI h1 s := by
  have := RI.pg (P' := cs_P s) hI hC (z.wd (by decide) (by decide)) (fun i _ => by rw [z.ae (by decide) (by decide)]) (RPg_sc hI.2.2.2.2.1 z (by decide) (by decide))
  exact this
end Rk
