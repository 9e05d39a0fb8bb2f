/-! THE REFERENCE: what is put down, what is counted, a value -/
def Cx (h : mHeap) (B : Bt) (n sl : Nat) : Prop := RS h ∧ RTx h B n ∧ Byt B n ∧ fI h 148 37 = ii 10 ∧ fI h 148 30 = ii (sl : Nat) ∧ sl < 6
def RO (h : mHeap) (sl : Nat) (O : List Nat) : Prop := fI h 148 33 = ii (O.length : Nat) ∧ ∀ j, j < O.length → xA h 176 (300 * sl + j) = ii (srt (O.getD j 0) : Nat) ∧ xA h 177 (300 * sl + j) = ii (nbr (O.getD j 0) : Nat)
def Po (h : mHeap) (sl p k : Nat) (O : List Nat) : Prop := fI h 148 28 = ii (p : Nat) ∧ fI h 148 29 = ii 0 ∧ fI h 148 35 = ii (k : Nat) ∧ k ≤ 60 ∧ RO h sl O
def Pd (h : mHeap) (n f : Nat) : Prop := fI h 148 29 = ii (f : Nat) ∧ 0 < f ∧ f < 100000 ∧ ∃ p, p ≤ n ∧ fI h 148 28 = ii (p : Nat)
def Zr (F R : List Nat) (sl : Nat) (h h1 : mHeap) : Prop := RF F R h h1 ∧ ∀ i, i < 300 * sl → xA h1 176 i = xA h 176 i ∧ xA h1 177 i = xA h 177 i
abbrev vvF : List Nat := [28, 29, 33, 35]
abbrev vvR : List Nat := [176, 177]
section Tf
variable {d : Nat} {h h1 h2 : mHeap} {B : Bt} {n sl p q t i k f c : Nat} {T : List (Nat × Nat)} {O : List Nat} {F R F1 R1 : List Nat}
theorem Cx.z (hx : Cx h B n sl) (z : RF F R h h1) (f1 : ¬ 27 ∈ F) (f2 : ¬ 37 ∈ F) (f3 : ¬ 30 ∈ F) (r1 : ¬ 175 ∈ R) (r64 : ∀ a ∈ R, 64 ≤ a) : Cx h1 B n sl := ⟨z.rs hx.1 r64, hx.2.1.z z f1 r1, hx.2.2.1, by rw [z.fe f2]; exact hx.2.2.2.1, by rw [z.fe f3]; exact hx.2.2.2.2.1, hx.2.2.2.2.2⟩
theorem Zr.rf : Zr F R sl h h := ⟨RF.rf, fun _ _ => ⟨rfl, rfl⟩⟩
theorem Zr.tr (x : Zr F R sl h h1) (y : Zr F R sl h1 h2) : Zr F R sl h h2 := ⟨x.1.tr y.1, fun i hi => ⟨(y.2 i hi).1.trans (x.2 i hi).1, (y.2 i hi).2.trans (x.2 i hi).2⟩⟩
theorem Zr.wd (x : Zr F R sl h h1) (f : ∀ k ∈ F, k ∈ F1) (r : ∀ k ∈ R, k ∈ R1) : Zr F1 R1 sl h h1 := ⟨x.1.wd f r, x.2⟩
theorem RF.zr (x : RF F R h h1) (r1 : ¬ 176 ∈ R) (r2 : ¬ 177 ∈ R) : Zr F R sl h h1 := ⟨x, fun i _ => ⟨by rw [x.ae (by decide) r1], by rw [x.ae (by decide) r2]⟩⟩
theorem Cx.v (hx : Cx h B n sl) (z : Zr vvF vvR sl h h1) : Cx h1 B n sl := hx.z z.1 (by decide) (by decide) (by decide) (by decide) (by decide)
theorem RO.z (ho : RO h sl O) (x : RF F R h h1) (f : ¬ 33 ∈ F) (r1 : ¬ 176 ∈ R) (r2 : ¬ 177 ∈ R) : RO h1 sl O := ⟨by rw [x.fe f]; exact ho.1, fun j hj => by rw [x.ae (by decide) r1, x.ae (by decide) r2]; exact ho.2 j hj⟩
theorem c196 {K : Nat → mHeap → Prop} (hk : k < 10) : GoCr (d + 1) 196 [.int (ii (k : Nat))] h K ↔ K (2 + wix (4 + k)) h := by
  rw [e196, b196_0]
  have : k = 0 ∨ k = 1 ∨ k = 2 ∨ k = 3 ∨ k = 4 ∨ k = 5 ∨ k = 6 ∨ k = 7 ∨ k = 8 ∨ k = 9 := by omega
  rcases this with g | g | g | g | g | g | g | g | g | g <;> (subst g; simp only [rR_s]; exact Iff.rfl)
/-- nothing is put down after a fault -/
theorem c203d {K : mHeap → Prop} {x y : Int32} (hR : RS h) (hf : fI h 148 29 = ii (f : Nat)) (f0 : 0 < f) (f5 : f < 100000) (hK : K h) : GoCv (d + 1) 203 [.ref 148, .int x, .int y] h K := by
  rw [e203, b203_0]
  simp only [(RS.ok hR), (RS.fr hR), true_and, and_true, true_or, or_true, hf, rV_s]
  rw [if_pos (by rw [show ii 0 = ii (0 : Int) from rfl, ii_eq (by omega) (by omega) (by omega) (by omega)]; omega)]
  exact hK
theorem c203 {K : mHeap → Prop} (hx : Cx h B n sl) (hf : fI h 148 29 = ii 0) (hO : RO h sl O) (l3 : O.length < 300) (hK : ∀ h1, Zr [33] vvR sl h h1 → RO h1 sl (O ++ [t]) → K h1) : GoCv (d + 1) 203 [.ref 148, .int (ii (srt t : Nat)), .int (ii (nbr t : Nat))] h K := by
  obtain ⟨hR, _, _, _, h30, s6⟩ := hx
  have hl : 300 * sl + O.length < 1800 := by omega
  have ix : ii 300 * ii (sl : Nat) + ii (O.length : Nat) = ii ((300 * sl + O.length : Nat) : Int) := by
    rw [ii_mul, ii_add]; exact congrArg ii (by omega)
  rw [e203, b203_0]
  simp only [(RS.ok hR), (RS.fr hR), true_and, and_true, true_or, or_true, hf, h30, hO.1, ix, hR.x176 hl]
  rw [if_neg (fun y => y trivial)]
  refine ⟨by decide, ?_⟩
  have z1 : RF [] [176] h (sI h 176 (ii ((300 * sl + O.length : Nat) : Int)) (ii (srt t : Nat))) := RF.sI
  have s1 : ∀ b, xA (sI h 176 (ii ((300 * sl + O.length : Nat) : Int)) (ii (srt t : Nat))) b = if 176 = b then upf (xA h 176) (300 * sl + O.length) (ii (srt t : Nat)) else xA h b := fun b => hR.s176 hl
  generalize sI h 176 (ii ((300 * sl + O.length : Nat) : Int)) (ii (srt t : Nat)) = H1 at *
  have R1 : RS H1 := z1.rs hR (by decide)
  simp only [(RS.ok R1), (RS.fr R1), true_and, and_true, true_or, or_true, z1.fe (show ¬ 30 ∈ ([] : List Nat) by decide), z1.fe (show ¬ 33 ∈ ([] : List Nat) by decide), h30, hO.1, ix, R1.x177 hl]
  refine ⟨by decide, ?_⟩
  have z2 : RF [] [177] H1 (sI H1 177 (ii ((300 * sl + O.length : Nat) : Int)) (ii (nbr t : Nat))) := RF.sI
  have s2 : ∀ b, xA (sI H1 177 (ii ((300 * sl + O.length : Nat) : Int)) (ii (nbr t : Nat))) b = if 177 = b then upf (xA H1 177) (300 * sl + O.length) (ii (nbr t : Nat)) else xA H1 b := fun b => R1.s177 hl
  generalize sI H1 177 (ii ((300 * sl + O.length : Nat) : Int)) (ii (nbr t : Nat)) = H2 at *
  have R2 : RS H2 := z2.rs R1 (by decide)
  have t33 : tgK (kd H2 148) 33 = some 0 := R2.tg.2.2.2.2.2.2.1
  have z3 := RF.sF (x := ii (O.length : Nat) + ii 1) t33
  simp only [(RS.ok R2), (RS.fr R2), true_and, and_true, true_or, or_true, R2.op, z2.fe (show ¬ 33 ∈ ([] : List Nat) by decide), z1.fe (show ¬ 33 ∈ ([] : List Nat) by decide), hO.1, rV_s]
  have zz : RF [33] vvR h (sF H2 148 33 (.int (ii (O.length : Nat) + ii 1))) := (z1.wd (by decide) (by decide)).tr ((z2.wd (by decide) (by decide)).tr (z3.1.wd (by decide) (by decide)))
  have a176 : xA (sF H2 148 33 (.int (ii (O.length : Nat) + ii 1))) 176 = upf (xA h 176) (300 * sl + O.length) (ii (srt t : Nat)) := by
    rw [xA_sF, s2, if_neg (by decide), s1, if_pos rfl]
  have a177 : xA (sF H2 148 33 (.int (ii (O.length : Nat) + ii 1))) 177 = upf (xA h 177) (300 * sl + O.length) (ii (nbr t : Nat)) := by
    rw [xA_sF, s2, if_pos rfl, s1, if_neg (by decide)]
  refine hK _ ⟨zz, fun i hi => ?_⟩ ⟨?_, fun j hj => ?_⟩
  · rw [a176, a177]
    unfold upf
    rw [if_neg (by omega), if_neg (by omega)]
    exact ⟨rfl, rfl⟩
  · rw [z3.2, ii_add, List.length_append]
    rfl
  · rw [List.length_append, List.length_singleton] at hj
    rw [a176, a177, getD_app]
    unfold upf
    by_cases g : j = O.length
    · rw [if_pos g, if_pos (show 300 * sl + j = 300 * sl + O.length by omega), if_pos (show 300 * sl + j = 300 * sl + O.length by omega)]
      exact ⟨rfl, rfl⟩
    · rw [if_neg g, if_pos (show j < O.length by omega), if_neg (show ¬ 300 * sl + j = 300 * sl + O.length by omega), if_neg (show ¬ 300 * sl + j = 300 * sl + O.length by omega)]
      exact hO.2 j (by omega)
/-- what is counted -/
theorem c204d {K : mHeap → Prop} (hR : RS h) (hf : fI h 148 29 = ii (f : Nat)) (f0 : 0 < f) (f5 : f < 100000) (hK : ∀ h1, RF [29, 35] [] h h1 → fI h1 148 29 = ii (f : Nat) → K h1) : GoCv (d + 2) 204 [.ref 148, .int (ii (q : Nat))] h K := by
  have t35 : ∀ h, RS h → tgK (kd h 148) 35 = some 0 := fun h hR => hR.tg.2.2.2.2.2.2.2.2.1
  rw [e204, b204_0]
  simp only [(RS.ok hR), (RS.fr hR), true_and, and_true, true_or, or_true, hR.op, rV_s]
  split
  · have z := RF.sF (x := fI h 148 35 + ii 1) (t35 h hR)
    exact hK _ (z.1.wd (by decide) (by decide)) (by rw [z.1.fe (by decide)]; exact hf)
  · rw [show ii 3 = ii ((3 : Nat) : Int) from rfl]
    refine c197 hR hf f5 (fun h1 z1 y1 => ?_)
    have R1 : RS h1 := z1.rs hR (by decide)
    simp only [(RS.ok R1), (RS.fr R1), true_and, and_true, true_or, or_true, R1.op]
    have z := RF.sF (x := fI h1 148 35 + ii 1) (t35 h1 R1)
    refine hK _ ((z1.wd (by decide) (by decide)).tr (z.1.wd (by decide) (by decide))) ?_
    rw [z.1.fe (by decide), y1]
    unfold fa
    rw [if_neg (by omega)]
theorem c204 {K : mHeap → Prop} (hR : RS h) (hf : fI h 148 29 = ii 0) (hk : fI h 148 35 = ii (k : Nat)) (k6 : k ≤ 60) (hY : ¬ k = 60 → ∀ h1, RF [35] [] h h1 → fI h1 148 35 = ii ((k + 1 : Nat) : Int) → K h1) (hN : k = 60 → ∀ h1, RF [29, 35] [] h h1 → fI h1 148 29 = ii ((1 + 8 * q + 3 : Nat) : Int) → K h1) : GoCv (d + 2) 204 [.ref 148, .int (ii (q : Nat))] h K := by
  have t35 : ∀ h, RS h → tgK (kd h 148) 35 = some 0 := fun h hR => hR.tg.2.2.2.2.2.2.2.2.1
  rw [e204, b204_0]
  simp only [(RS.ok hR), (RS.fr hR), true_and, and_true, true_or, or_true, hR.op, hk, rV_s]
  by_cases g : k = 60
  · rw [if_neg (by rw [g]; exact fun y => y rfl), show ii 3 = ii ((3 : Nat) : Int) from rfl]
    refine c197 (f := 0) hR hf (by decide) (fun h1 z1 y1 => ?_)
    have R1 : RS h1 := z1.rs hR (by decide)
    simp only [(RS.ok R1), (RS.fr R1), true_and, and_true, true_or, or_true, R1.op]
    have z := RF.sF (x := fI h1 148 35 + ii 1) (t35 h1 R1)
    refine hN g _ ((z1.wd (by decide) (by decide)).tr (z.1.wd (by decide) (by decide))) ?_
    rw [z.1.fe (by decide), y1]
    rfl
  · rw [if_pos (by rw [show ii 60 = ii (60 : Int) from rfl, ii_eq (by omega) (by omega) (by omega) (by omega)]; omega)]
    rw [show ii (k : Nat) + ii 1 = ii ((k + 1 : Nat) : Int) from ii_add _ _]
    have z := RF.sF (x := ii ((k + 1 : Nat) : Int)) (t35 h hR)
    exact hY g _ z.1 z.2
/-- a value, after a fault -/
theorem c206d {K : mHeap → Prop} (hx : Cx h B n sl) (hd : Pd h n f) (hK : ∀ h1, Zr vvF vvR sl h h1 → Pd h1 n f → K h1) : GoCv (d + 7) 206 [.ref 148] h K := by
  obtain ⟨hf, f0, f5, p, pn, hp⟩ := hd
  rw [e206, b206_0]
  (try simp only [(RS.ok hx.1), (RS.fr hx.1), true_and, and_true, true_or, or_true])
  refine c199 hx.1 hx.2.1 hx.2.2.1 hp pn (fun h1 z1 y1 => ?_)
  have le := hd_le (B := B) pn
  have pl := hd_Pl (B := B) pn
  generalize (hd B n p).2 = q at *
  generalize (hd B n p).1 = t at *
  have x1 : Cx h1 B n sl := hx.z z1 (by decide) (by decide) (by decide) (by decide) (by decide)
  have n4 := hx.2.1.2.1
  have f1 : fI h1 148 29 = ii (f : Nat) := by rw [z1.fe (by decide)]; exact hf
  have pd := pl_dg hx.2.2.1 pl
  (try simp only [(RS.ok x1.1), (RS.fr x1.1), true_and, and_true, true_or, or_true])
  rw [c200 x1.1 x1.2.1 x1.2.2.1 y1 (by omega)]
  have tail : ∀ (h3 : mHeap) (v : Int32) (p3 : Nat), RF [28, 29] [] h h3 → fI h3 148 28 = ii (p3 : Nat) → p3 ≤ n → fI h3 148 29 = ii (f : Nat) → GoCv (d + 6) 204 [.ref 148, .int (ii (q : Nat))] h3 (fun h4 => (oC h4 148 = 12 ∧ GoCv (d + 6) 203 [.ref 148, .int (ii 0), .int v] h4 (fun h5 => rV K none h5))) := fun h3 v p3 z3 a3 b3 c3 => by
    have R3 : RS h3 := z3.rs hx.1 (by decide)
    refine c204d R3 c3 f0 f5 (fun h4 z4 y4 => ?_)
    have R4 : RS h4 := z4.rs R3 (by decide)
    refine ⟨RS.ok R4 |>.1, ?_⟩
    refine c203d R4 y4 f0 f5 ?_
    rw [rV_s]
    have zz : RF vvF vvR h h4 := (z3.wd (by decide) (by decide)).tr (z4.wd (by decide) (by decide))
    refine hK h4 (RF.zr (F := vvF) (R := []) ((z3.wd (by decide) (by decide)).tr (z4.wd (by decide) (by decide))) (by decide) (by decide) |>.wd (by decide) (by decide)) ⟨y4, f0, f5, p3, b3, by rw [z4.fe (by decide)]; exact a3⟩
  by_cases g : 1001 ≤ t
  · rw [if_pos (pd.mpr g), if_neg (by decide)]
    (try simp only [(RS.ok x1.1), (RS.fr x1.1), true_and, and_true, true_or, or_true])
    obtain ⟨q1, _⟩ := pl_ne pl (by omega)
    have tl := (tok_le (B := B) q1).2
    refine c205 x1.1 x1.2.1 x1.2.2.1 y1 le.2 pl f1 f5 (fun y => absurd y (by omega)) (fun _ h3 v z3 a3 b3 c3 e3 => ?_)
    have f3 : fI h3 148 29 = ii (f : Nat) := by
      by_cases g2 : t = 101001
      · rw [e3 g2]; unfold fa; rw [if_neg (by omega)]
      · exact (c3 g2).2
    have R3 : RS h3 := z3.rs x1.1 (by decide)
    simp only [(RS.ok R3), (RS.fr R3), true_and, and_true, true_or, or_true, y1]
    exact tail h3 _ _ ((z1.wd (by decide) (by decide)).tr z3) a3 tl f3
  · rw [if_neg (fun y => g (pd.mp y)), if_pos rfl, y1]
    refine Go_loop (fun j L h' => h' = h1 ∧ L = [some (.ref 148), some (.int (ii (q : Nat))), some (.int (ii (j : Nat)))]) 10 ?_ ?_ 0 _ h1 (Nat.zero_le _) ⟨rfl, rfl⟩
    · rintro j L h' hj ⟨rfl, rfl⟩ nx
      have hw := wix_ok (4 + j) (by omega)
      rw [b206_38]
      simp only [(RS.ok x1.1), (RS.fr x1.1), true_and, and_true, true_or, or_true, x1.2.2.2.1]
      rw [if_neg (by rw [show ii 10 = ii ((10 : Nat) : Int) from rfl, ii_le (by omega) (by omega) (by omega) (by omega)]; omega), c196 hj]
      (try simp only [(RS.ok x1.1), (RS.fr x1.1), true_and, and_true, true_or, or_true])
      refine c201w x1.1 x1.2.1 x1.2.2.1 y1 le.2 pl (by omega) (fun w => ?_) (fun w => ?_)
      · rw [if_pos (by decide), b206_63]
        simp only [(RS.ok x1.1), (RS.fr x1.1), true_and, and_true, true_or, or_true, x1.2.2.2.1]
        rw [if_pos (by rw [show ii 10 = ii ((10 : Nat) : Int) from rfl, ii_eq (by omega) (by omega) (by omega) (by omega)]; omega)]
        obtain ⟨q1, _⟩ := pl_ne pl (by omega)
        have tl := (tok_le (B := B) q1).2
        have tw := (pl_w pl (show 4 + j < 19 by omega)).2 w
        refine c204d x1.1 f1 f0 f5 (fun h2 z2 y2 => ?_)
        have R2 : RS h2 := z2.rs x1.1 (by decide)
        (try simp only [(RS.ok R2), (RS.fr R2), true_and, and_true, true_or, or_true])
        rw [c196 hj]
        refine ⟨oC_kd (St_str R2.1 hw.1).1, (c319 R2.1 hw.1).mpr ?_⟩
        have t28 : tgK (kd h2 148) 28 = some 0 := R2.tg.2.1
        rw [hw.2, z2.fe (show ¬ 28 ∈ [29, 35] by decide), y1, show ii (q : Nat) + ii ((wrds.getD (4 + j) []).length : Nat) = ii (((tok B n q).2 : Nat) : Int) by rw [ii_add, tw]; exact congrArg ii (by omega)]
        have z3 := RF.sF (x := ii (((tok B n q).2 : Nat) : Int)) t28
        have R3 : RS (sF h2 148 28 (.int (ii (((tok B n q).2 : Nat) : Int)))) := z3.1.rs R2 (by decide)
        simp only [R2.op, (RS.ok R3), (RS.fr R3), true_and, and_true, true_or, or_true]
        refine c203d R3 (by rw [z3.1.fe (by decide)]; exact y2) f0 f5 ?_
        rw [rV_s]
        refine hK _ (RF.zr (F := vvF) (R := []) ((z1.wd (by decide) (by decide)).tr ((z2.wd (by decide) (by decide)).tr (z3.1.wd (by decide) (by decide)))) (by decide) (by decide) |>.wd (by decide) (by decide)) ⟨by rw [z3.1.fe (by decide)]; exact y2, f0, f5, _, tl, z3.2⟩
      · rw [if_neg (fun y => y rfl), show ii (j : Nat) + ii 1 = ii ((j + 1 : Nat) : Int) from ii_add _ _]
        exact nx _ _ ⟨rfl, rfl⟩
    · rintro L h' ⟨rfl, rfl⟩
      rw [b206_38]
      simp only [(RS.ok x1.1), (RS.fr x1.1), true_and, and_true, true_or, or_true, x1.2.2.2.1]
      rw [if_pos (show ii 10 ≤ ii ((10 : Nat) : Int) by decide), b206_63]
      simp only [(RS.ok x1.1), (RS.fr x1.1), true_and, and_true, true_or, or_true, x1.2.2.2.1]
      rw [if_neg (fun y => y (by decide)), show ii 0 = ii ((0 : Nat) : Int) from rfl]
      refine c197 x1.1 f1 f5 (fun h2 z2 y2 => ?_)
      rw [rV_s]
      have e : fa f q 0 = f := by unfold fa; rw [if_neg (by omega)]
      rw [e] at y2
      exact hK h2 (RF.zr (F := vvF) (R := []) ((z1.wd (by decide) (by decide)).tr (z2.wd (by decide) (by decide))) (by decide) (by decide) |>.wd (by decide) (by decide)) ⟨y2, f0, f5, q, le.2, by rw [z2.fe (by decide)]; exact y1⟩
/-- a value -/
theorem c206 {K : mHeap → Prop} (hx : Cx h B n sl) (ho : Po h sl p k O) (ha : AtT B n T p i) (l3 : k < 60 → O.length < 300) (hY : itF T isVa i k = 0 → ∀ h1 p', Zr vvF vvR sl h h1 → Po h1 sl p' (k + 1) (O ++ [(tk T i).1 - 1]) → AtT B n T p' (i + 1) → K h1) (hN : ∀ f, itF T isVa i k = f → ∀ h1, Zr vvF vvR sl h h1 → Pd h1 n f → K h1) : GoCv (d + 7) 206 [.ref 148] h K := by
  obtain ⟨hp, hf, hk, k6, hO⟩ := ho
  have pn := ha.2
  rw [e206, b206_0]
  (try simp only [(RS.ok hx.1), (RS.fr hx.1), true_and, and_true, true_or, or_true])
  refine c199 hx.1 hx.2.1 hx.2.2.1 hp pn (fun h1 z1 y1 => ?_)
  obtain ⟨hb, pl, le⟩ := ha.bl
  have hnx := ha.nxt
  rw [ha.eh] at y1
  have eF : ∀ c, flt T i c = 1 + 8 * (tk T i).2 + c := fun c => rfl
  have eI : itF T isVa i k = @ite _ (isVa (tk T i).1) (Classical.propDecidable _) (if (tk T i).1 = 101001 then flt T i 1 else if k = 60 then flt T i 3 else 0) (flt T i 0) := rfl
  rw [eI, eF, eF, eF] at hY hN
  generalize (tk T i).2 = q at *
  generalize (tk T i).1 = t at *
  have x1 : Cx h1 B n sl := hx.z z1 (by decide) (by decide) (by decide) (by decide) (by decide)
  have n4 := hx.2.1.2.1
  have f1 : fI h1 148 29 = ii 0 := by rw [z1.fe (by decide)]; exact hf
  have k1 : fI h1 148 35 = ii (k : Nat) := by rw [z1.fe (by decide)]; exact hk
  have O1 : RO h1 sl O := hO.z z1 (by decide) (by decide) (by decide)
  have pd := pl_dg hx.2.2.1 pl
  (try simp only [(RS.ok x1.1), (RS.fr x1.1), true_and, and_true, true_or, or_true])
  rw [c200 x1.1 x1.2.1 x1.2.2.1 y1 (by omega)]
  by_cases g : 1001 ≤ t
  · have va : isVa t := Or.inl g
    rw [if_pos va] at hY hN
    rw [if_pos (pd.mpr g), if_neg (by decide)]
    (try simp only [(RS.ok x1.1), (RS.fr x1.1), true_and, and_true, true_or, or_true])
    obtain ⟨q1, _⟩ := pl_ne pl (by omega)
    have tl := (tok_le (B := B) q1).2
    refine c205 (f := 0) x1.1 x1.2.1 x1.2.2.1 y1 le pl f1 (by decide) (fun y => absurd y (by omega)) (fun _ h3 v z3 a3 b3 c3 e3 => ?_)
    have x3 : Cx h3 B n sl := x1.z z3 (by decide) (by decide) (by decide) (by decide) (by decide)
    have O3 : RO h3 sl O := O1.z z3 (by decide) (by decide) (by decide)
    have k3 : fI h3 148 35 = ii (k : Nat) := by rw [z3.fe (by decide)]; exact k1
    have zz : RF vvF [] h h3 := (z1.wd (by decide) (by decide)).tr (z3.wd (by decide) (by decide))
    simp only [(RS.ok x3.1), (RS.fr x3.1), true_and, and_true, true_or, or_true, y1]
    by_cases g2 : t = 101001
    · rw [if_pos g2] at hN
      have f3 : fI h3 148 29 = ii ((1 + 8 * q + 1 : Nat) : Int) := e3 g2
      refine c204d x3.1 f3 (by omega) (by omega) (fun h4 z4 y4 => ?_)
      have R4 : RS h4 := z4.rs x3.1 (by decide)
      (try simp only [(RS.ok R4), (RS.fr R4), true_and, and_true, true_or, or_true])
      refine c203d R4 y4 (by omega) (by omega) ?_
      rw [rV_s]
      exact hN _ rfl h4 (RF.zr (F := vvF) (R := []) (zz.tr (z4.wd (by decide) (by decide))) (by decide) (by decide) |>.wd (by decide) (by decide)) ⟨y4, by omega, by omega, _, tl, by rw [z4.fe (by decide)]; exact a3⟩
    · rw [if_neg g2] at hY hN
      obtain ⟨v1, f3⟩ := c3 g2
      refine c204 x3.1 f3 k3 k6 (fun g3 h4 z4 y4 => ?_) (fun g3 h4 z4 y4 => ?_)
      · rw [if_neg g3] at hY
        have x4 : Cx h4 B n sl := x3.z z4 (by decide) (by decide) (by decide) (by decide) (by decide)
        have O4 : RO h4 sl O := O3.z z4 (by decide) (by decide) (by decide)
        (try simp only [(RS.ok x4.1), (RS.fr x4.1), true_and, and_true, true_or, or_true])
        have es : srt (t - 1) = 0 := by unfold srt; rw [if_pos (by omega)]
        have en : nbr (t - 1) = v := by unfold nbr; rw [if_pos (by omega)]; omega
        rw [show ii 0 = ii ((srt (t - 1) : Nat) : Int) by rw [es]; rfl, show ii (v : Nat) = ii ((nbr (t - 1) : Nat) : Int) by rw [en]]
        refine c203 x4 (by rw [z4.fe (by decide)]; exact f3) O4 (l3 (by omega)) (fun h5 z5 y5 => ?_)
        rw [rV_s]
        refine hY rfl h5 (tok B n q).2 ((RF.zr (F := vvF) (R := []) (zz.tr (z4.wd (by decide) (by decide))) (by decide) (by decide) |>.wd (by decide) (by decide)).tr (z5.wd (by decide) (by decide))) ⟨by rw [z5.1.fe (by decide), z4.fe (by decide)]; exact a3, by rw [z5.1.fe (by decide), z4.fe (by decide)]; exact f3, by rw [z5.1.fe (by decide)]; exact y4, by omega, y5⟩ (hnx (by omega)).1
      · rw [if_pos g3] at hN
        have R4 : RS h4 := z4.rs x3.1 (by decide)
        (try simp only [(RS.ok R4), (RS.fr R4), true_and, and_true, true_or, or_true])
        refine c203d R4 y4 (by omega) (by omega) ?_
        rw [rV_s]
        exact hN _ rfl h4 (RF.zr (F := vvF) (R := []) (zz.tr (z4.wd (by decide) (by decide))) (by decide) (by decide) |>.wd (by decide) (by decide)) ⟨y4, by omega, by omega, _, tl, by rw [z4.fe (by decide)]; exact a3⟩
  · rw [if_neg (fun y => g (pd.mp y)), if_pos rfl, y1]
    refine Go_loop (fun j L h' => h' = h1 ∧ (∀ m, m < j → ¬ t = 305 + m) ∧ L = [some (.ref 148), some (.int (ii (q : Nat))), some (.int (ii (j : Nat)))]) 10 ?_ ?_ 0 _ h1 (Nat.zero_le _) ⟨rfl, fun m hm => absurd hm (Nat.not_lt_zero m), rfl⟩
    · rintro j L h' hj ⟨rfl, hm, rfl⟩ nx
      have hw := wix_ok (4 + j) (by omega)
      rw [b206_38]
      simp only [(RS.ok x1.1), (RS.fr x1.1), true_and, and_true, true_or, or_true, x1.2.2.2.1]
      rw [if_neg (by rw [show ii 10 = ii ((10 : Nat) : Int) from rfl, ii_le (by omega) (by omega) (by omega) (by omega)]; omega), c196 hj]
      (try simp only [(RS.ok x1.1), (RS.fr x1.1), true_and, and_true, true_or, or_true])
      refine c201w x1.1 x1.2.1 x1.2.2.1 y1 le pl (by omega) (fun w => ?_) (fun w => ?_)
      · have va : isVa t := Or.inr (by omega)
        rw [if_pos va, if_neg (by omega)] at hY hN
        rw [if_pos (by decide), b206_63]
        simp only [(RS.ok x1.1), (RS.fr x1.1), true_and, and_true, true_or, or_true, x1.2.2.2.1]
        rw [if_pos (by rw [show ii 10 = ii ((10 : Nat) : Int) from rfl, ii_eq (by omega) (by omega) (by omega) (by omega)]; omega)]
        obtain ⟨q1, _⟩ := pl_ne pl (by omega)
        have tl := (tok_le (B := B) q1).2
        have tw := (pl_w pl (show 4 + j < 19 by omega)).2 w
        have step : ∀ h2, RF [29, 35] [] h' h2 → (∀ h3, RF vvF [] h h3 → fI h3 148 28 = ii (((tok B n q).2 : Nat) : Int) → (∀ a, ¬ a = 28 → fI h3 148 a = fI h2 148 a) → (∀ a, ¬ a = 148 → xA h3 a = xA h2 a) → RS h3 → GoCv (d + 6) 203 [.ref 148, .int (ii 1), .int (ii (j : Nat))] h3 (fun h4 => rV K none h4)) → (okF h2 148 12 28 0 ∧ GoCr (d + 6) 196 [.int (ii (j : Nat))] h2 (fun v2 h3 => oC h3 v2 = 16 ∧ GoCi (d + 6) 319 [.ref v2] h3 (fun v3 h4 => okP h4 148 12 28 ∧ oC (sF h4 148 28 (.int ((fI h2 148 28) + v3))) 148 = 12 ∧ GoCv (d + 6) 203 [.ref 148, .int (ii 1), .int (ii (j : Nat))] (sF h4 148 28 (.int ((fI h2 148 28) + v3))) (fun h5 => rV K none h5)))) := fun h2 z2 hG => by
          have R2 : RS h2 := z2.rs x1.1 (by decide)
          (try simp only [(RS.ok R2), (RS.fr R2), true_and, and_true, true_or, or_true])
          rw [c196 hj]
          refine ⟨oC_kd (St_str R2.1 hw.1).1, (c319 R2.1 hw.1).mpr ?_⟩
          have t28 : tgK (kd h2 148) 28 = some 0 := R2.tg.2.1
          rw [hw.2, z2.fe (show ¬ 28 ∈ [29, 35] by decide), y1, show ii (q : Nat) + ii ((wrds.getD (4 + j) []).length : Nat) = ii (((tok B n q).2 : Nat) : Int) by rw [ii_add, tw]; exact congrArg ii (by omega)]
          have z3 := RF.sF (x := ii (((tok B n q).2 : Nat) : Int)) t28
          have R3 : RS (sF h2 148 28 (.int (ii (((tok B n q).2 : Nat) : Int)))) := z3.1.rs R2 (by decide)
          simp only [R2.op, (RS.ok R3), (RS.fr R3), true_and, and_true, true_or, or_true]
          exact hG _ ((z1.wd (by decide) (by decide)).tr ((z2.wd (by decide) (by decide)).tr (z3.1.wd (by decide) (by decide)))) z3.2 (fun a g4 => z3.1.fe (fun y => g4 (List.mem_singleton.mp y))) (fun a g4 => z3.1.ae g4 (fun y => by cases y)) R3
        refine c204 x1.1 f1 k1 k6 (fun g3 h2 z2 y2 => ?_) (fun g3 h2 z2 y2 => ?_)
        · rw [if_neg g3] at hY
          refine step h2 (z2.wd (by decide) (by decide)) (fun h3 z3 a3 b3 c3 R3 => ?_)
          have x3 : Cx h3 B n sl := hx.z z3 (by decide) (by decide) (by decide) (by decide) (by decide)
          have O3 : RO h3 sl O := ⟨by rw [b3 33 (by decide), z2.fe (by decide)]; exact O1.1, fun m hm => by rw [c3 176 (by decide), c3 177 (by decide), z2.ae (by decide) (by decide), z2.ae (by decide) (by decide)]; exact O1.2 m hm⟩
          have f3 : fI h3 148 29 = ii 0 := by rw [b3 29 (by decide), z2.fe (by decide)]; exact f1
          have es : srt (t - 1) = 1 := by unfold srt; rw [if_neg (by omega), if_pos (by omega)]
          have en : nbr (t - 1) = j := by unfold nbr; rw [if_neg (by omega), if_pos (by omega)]; omega
          rw [show ii 1 = ii ((srt (t - 1) : Nat) : Int) by rw [es]; rfl, show ii (j : Nat) = ii ((nbr (t - 1) : Nat) : Int) by rw [en]]
          refine c203 x3 f3 O3 (l3 (by omega)) (fun h5 z5 y5 => ?_)
          rw [rV_s]
          refine hY rfl h5 (tok B n q).2 ((RF.zr (F := vvF) (R := []) z3 (by decide) (by decide) |>.wd (by decide) (by decide)).tr (z5.wd (by decide) (by decide))) ⟨by rw [z5.1.fe (by decide)]; exact a3, by rw [z5.1.fe (by decide)]; exact f3, by rw [z5.1.fe (by decide), b3 35 (by decide)]; exact y2, by omega, y5⟩ (hnx (by omega)).1
        · rw [if_pos g3] at hN
          refine step h2 z2 (fun h3 z3 a3 b3 c3 R3 => ?_)
          have f3 : fI h3 148 29 = ii ((1 + 8 * q + 3 : Nat) : Int) := by rw [b3 29 (by decide)]; exact y2
          refine c203d R3 f3 (by omega) (by omega) ?_
          rw [rV_s]
          exact hN _ rfl h3 (RF.zr (F := vvF) (R := []) z3 (by decide) (by decide) |>.wd (by decide) (by decide)) ⟨f3, by omega, by omega, _, tl, a3⟩
      · rw [if_neg (fun y => y rfl), show ii (j : Nat) + ii 1 = ii ((j + 1 : Nat) : Int) from ii_add _ _]
        refine nx _ _ ⟨rfl, fun m m1 => ?_, rfl⟩
        by_cases c2 : m = j
        · rw [c2]; omega
        · exact hm m (by omega)
    · rintro L h' ⟨rfl, hm, rfl⟩
      have va : ¬ isVa t := fun y => by
        rcases y with y | ⟨y1, y2⟩
        · exact g y
        · exact hm (t - 305) (by omega) (by omega)
      rw [if_neg va] at hN
      rw [b206_38]
      simp only [(RS.ok x1.1), (RS.fr x1.1), true_and, and_true, true_or, or_true, x1.2.2.2.1]
      rw [if_pos (show ii 10 ≤ ii ((10 : Nat) : Int) by decide), b206_63]
      simp only [(RS.ok x1.1), (RS.fr x1.1), true_and, and_true, true_or, or_true, x1.2.2.2.1]
      rw [if_neg (fun y => y (by decide)), show ii 0 = ii ((0 : Nat) : Int) from rfl]
      refine c197 (f := 0) x1.1 f1 (by decide) (fun h2 z2 y2 => ?_)
      rw [rV_s]
      exact hN _ rfl h2 (RF.zr (F := vvF) (R := []) ((z1.wd (by decide) (by decide)).tr (z2.wd (by decide) (by decide))) (by decide) (by decide) |>.wd (by decide) (by decide)) ⟨y2, by omega, by omega, q, le, by rw [z2.fe (by decide)]; exact y1⟩
end Tf
