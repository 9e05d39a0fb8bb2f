/-! THE REFERENCE: a fact, what is open, a test -/
def cmC (s : Int) (sm : Bool) : Nat := if s = 61 then 6 else if s = 60 then (if sm = true then 5 else 4) else if sm = true then 7 else 8
def scd (x : Nat) : Nat := if x = 0 then 9 else if x = 1 then 12 else if x = 2 then 10 else 11
def Sk2 (h : mHeap) (st : List Nat) : Prop := fI h 148 36 = ii (st.length : Nat) ∧ fI h 148 34 = ii (dpt st : Nat) ∧ ∀ j, j < st.length → xA h 182 j = ii (scd (st.getD (st.length - 1 - j) 0) : Nat)
abbrev tF : List Nat := [28, 29, 33, 34, 35, 36]
abbrev tR : List Nat := [176, 177, 182]
section Th
variable {d : Nat} {h h1 h2 : mHeap} {B : Bt} {n sl p q t i k f c x : Nat} {T : List (Nat × Nat)} {O V W st : List Nat} {F R F1 R1 : List Nat}
theorem c209_37 {K : mHeap → Prop} {PP : mHeap → Prop} {s : Int} {l2 : Option Value} (hx : Cx h B n sl) (hp : fI h 148 28 = ii (p : Nat)) (pn : p < n) (hs : s = 60 ∨ s = 61 ∨ s = 62) (hc : ∀ K' : mHeap → Prop, (∀ h1, RF [29, 35] [] h h1 → PP h1 → K' h1) → GoCv (d + 9) 204 [.ref 148, .int (ii (p : Nat))] h K') (hG : ∀ h1 h2 sm, RF [29, 35] [] h h1 → PP h1 → RF [28] [] h1 h2 → sm = decide (¬ s = 61 ∧ sgn B n (p + 1) = 61) → fI h2 148 28 = ii ((p + 1 + (if sm = true then 1 else 0) : Nat) : Int) → ∀ K' : mHeap → Prop, (∀ h3, RS h3 → GoCv (d + 9) 203 [.ref 148, .int (ii (cmC s sm : Nat)), .int (ii 0)] h3 K → K' h3) → GoCv (d + 9) 208 [.ref 148] h2 K') : Go (d + 9) 209 37 [some (.ref 148), some (.int (ii s)), l2] [] h (rV K) := by
  have n4 := hx.2.1.2.1
  rw [b209_37, hp]
  (try simp only [(RS.ok hx.1), (RS.fr hx.1), true_and, and_true, true_or, or_true])
  refine hc _ (fun h1 z1 y1 => ?_)
  have x1 : Cx h1 B n sl := hx.z z1 (by decide) (by decide) (by decide) (by decide) (by decide)
  have t28 : tgK (kd h1 148) 28 = some 0 := x1.1.tg.2.1
  simp only [(RS.ok x1.1), (RS.fr x1.1), true_and, and_true, true_or, or_true, x1.1.op, z1.fe (show ¬ 28 ∈ [29, 35] by decide), hp]
  rw [show ii (p : Nat) + ii 1 = ii ((p + 1 : Nat) : Int) from ii_add _ _]
  have z2 := RF.sF (x := ii ((p + 1 : Nat) : Int)) t28
  have x2 : Cx (sF h1 148 28 (.int (ii ((p + 1 : Nat) : Int)))) B n sl := x1.z z2.1 (by decide) (by decide) (by decide) (by decide) (by decide)
  generalize sF h1 148 28 (.int (ii ((p + 1 : Nat) : Int))) = H at *
  have last : ∀ sm : Bool, sm = decide (¬ s = 61 ∧ sgn B n (p + 1) = 61) → Go (d + 9) 209 75 [some (.ref 148), some (.int (ii s)), l2] [.int (if sm = true then ii 1 else ii 0)] H (rV K) := fun sm es => by
    have t28' : tgK (kd H 148) 28 = some 0 := x2.1.tg.2.1
    have fin : ∀ m : Nat, m = (if sm = true then 1 else 0) → Go (d + 9) 209 90 [some (.ref 148), some (.int (ii s)), some (.int (if sm = true then ii 1 else ii 0))] [.int (ii (m : Nat)), .int (ii ((p + 1 : Nat) : Int)), .ref 148] H (rV K) := fun m em => by
      rw [b209_90, show ii ((p + 1 : Nat) : Int) + ii (m : Nat) = ii ((p + 1 + m : Nat) : Int) from ii_add _ _]
      have z3 := RF.sF (x := ii ((p + 1 + m : Nat) : Int)) t28'
      have R3 : RS (sF H 148 28 (.int (ii ((p + 1 + m : Nat) : Int)))) := z3.1.rs x2.1 (by decide)
      simp only [x2.1.op, (RS.ok R3), (RS.fr R3), true_and, and_true, true_or, or_true]
      refine hG h1 _ sm z1 y1 (z2.1.tr z3.1) es (by rw [z3.2, em]) _ (fun h3 R4 g => ?_)
      have o3 := (RS.ok R4).1
      have e61 : ii s = ii 61 ↔ s = 61 := ii_eq (by omega) (by omega) (by omega) (by omega)
      have e60 : ii s = ii 60 ↔ s = 60 := ii_eq (by omega) (by omega) (by omega) (by omega)
      unfold cmC at g
      by_cases c1 : s = 61
      · rw [if_pos c1] at g
        rw [if_neg (fun y => y (e61.mpr c1)), b209_139]
        exact ⟨o3, by simp only [rV_s]; exact g⟩
      · rw [if_neg c1] at g
        rw [if_pos (fun y => c1 (e61.mp y))]
        by_cases c2 : s = 60
        · rw [if_pos c2] at g
          rw [if_neg (fun y => y (e60.mpr c2))]
          cases sm with
          | true =>
            rw [if_pos rfl] at g
            rw [if_neg (by rw [if_pos rfl]; decide), b209_139]
            exact ⟨o3, by simp only [rV_s]; exact g⟩
          | false =>
            rw [if_neg Bool.false_ne_true] at g
            rw [if_pos (if_neg Bool.false_ne_true), b209_139]
            exact ⟨o3, by simp only [rV_s]; exact g⟩
        · rw [if_neg c2] at g
          rw [if_pos (fun y => c2 (e60.mp y))]
          cases sm with
          | true =>
            rw [if_pos rfl] at g
            rw [if_neg (by rw [if_pos rfl]; decide), b209_139]
            exact ⟨o3, by simp only [rV_s]; exact g⟩
          | false =>
            rw [if_neg Bool.false_ne_true] at g
            rw [if_pos (if_neg Bool.false_ne_true), b209_139]
            exact ⟨o3, by simp only [rV_s]; exact g⟩
    rw [b209_75]
    simp only [(RS.ok x2.1), (RS.fr x2.1), true_and, and_true, true_or, or_true, z2.2]
    cases sm with
    | true =>
      rw [if_neg (by rw [if_pos rfl]; decide)]
      exact fin 1 rfl
    | false =>
      rw [if_pos (if_neg Bool.false_ne_true)]
      exact fin 0 rfl
  by_cases c1 : s = 61
  · rw [if_pos (by rw [c1]), b209_74]
    exact last false (by rw [decide_eq_false (fun y => y.1 c1)])
  · rw [if_neg (by rw [show ii 61 = ii (61 : Int) from rfl, ii_eq (by omega) (by omega) (by omega) (by omega)]; exact c1)]
    (try simp only [(RS.ok x2.1), (RS.fr x2.1), true_and, and_true, true_or, or_true])
    have sb := sgn_b (B := B) (n := n) (p := p + 1)
    rw [c198 x2.1 x2.2.1 x2.2.2.1 z2.2 (by omega)]
    by_cases c2 : sgn B n (p + 1) = 61
    · rw [if_neg (by rw [c2]; exact fun y => y rfl)]
      exact last true (by rw [decide_eq_true ⟨c1, c2⟩])
    · rw [if_pos (by rw [show ii 61 = ii (61 : Int) from rfl, ii_eq (by omega) (by omega) (by omega) (by omega)]; exact c2), b209_74]
      exact last false (by rw [decide_eq_false (fun y => c2 y.2)])
/-- which sign of a comparison it is, if any -/
theorem cmp_sg (hb : Byt B n) (hl : Pl B n q t) : (isCm t ↔ sgn B n q = 60 ∨ sgn B n q = 61 ∨ sgn B n q = 62) ∧ (isCm t → q < n ∧ cmC (sgn B n q) (decide (¬ sgn B n q = 61 ∧ sgn B n (q + 1) = 61)) = srt (t - 1) ∧ (tok B n q).2 = q + 1 + (if decide (¬ sgn B n q = 61 ∧ sgn B n (q + 1) = 61) = true then 1 else 0)) := by
  have a := pl_lt hb hl
  have b := pl_gt hb hl
  have c := pl_sg hb hl (c := 61) (by decide) (by decide) (by decide) (by decide) (by decide) (by decide)
  have e : isCm t ↔ sgn B n q = 60 ∨ sgn B n q = 61 ∨ sgn B n q = 62 := by
    rw [a, b, c]
    unfold isCm
    omega
  refine ⟨e, fun g => ?_⟩
  have t0 : ¬ t = 0 := by rcases g with g | g | g | g | g <;> omega
  refine ⟨(pl_ne hl t0).1, ?_⟩
  by_cases c1 : t = 62
  · have s61 := c.mpr (by omega)
    rw [decide_eq_false (fun y => y.1 s61), if_neg Bool.false_ne_true, s61, c1]
    exact ⟨rfl, pl_one hb hl t0 (by omega)⟩
  · have s61 : ¬ sgn B n q = 61 := fun y => c1 (by have := c.mp y; omega)
    have sm := pl_same hb hl (show t = 61 ∨ t = 257 ∨ t = 63 ∨ t = 258 by rcases g with g | g | g | g | g <;> omega)
    by_cases c2 : t = 257 ∨ t = 258
    · rw [decide_eq_true ⟨s61, sm.1.mpr c2⟩, if_pos rfl, sm.2, if_pos c2]
      refine ⟨?_, rfl⟩
      unfold cmC
      rw [if_neg s61]
      rcases c2 with c2 | c2
      · rw [if_pos (a.mpr (Or.inr c2)), if_pos rfl, c2]
        decide
      · rw [if_neg (fun y => by have := a.mp y; omega), if_pos rfl, c2]
        decide
    · rw [decide_eq_false (fun y => c2 (sm.1.mp y.2)), if_neg Bool.false_ne_true, sm.2, if_neg c2]
      refine ⟨?_, rfl⟩
      unfold cmC
      rw [if_neg s61]
      rcases g with g | g | g | g | g
      · rw [if_pos (a.mpr (Or.inl g)), if_neg Bool.false_ne_true, g]
        decide
      · exact absurd g c1
      · rw [if_neg (fun y => by have := a.mp y; omega), if_neg Bool.false_ne_true, g]
        decide
      · exact absurd (Or.inl g) c2
      · exact absurd (Or.inr g) c2
theorem c209_cont {K : mHeap → Prop} (hx : Cx h B n sl) (hp : fI h 148 28 = ii (p : Nat)) (p5 : p ≤ 500) (hY : ∀ s, s = sgn B n p → (s = 60 ∨ s = 61 ∨ s = 62) → Go (d + 9) 209 37 [some (.ref 148), some (.int (ii s)), none] [] h (rV K)) (hN : ¬ (sgn B n p = 60 ∨ sgn B n p = 61 ∨ sgn B n p = 62) → GoCv (d + 9) 197 [.ref 148, .int (ii 0), .int (ii (p : Nat))] h K) : oC h 148 = 12 ∧ GoCi (d + 9) 198 [.ref 148] h (fun v2 h2 => (if v2 = (ii 60) then (Go (d + 9) 209 37 [some (.ref 148), some (.int v2), none] [] h2 (rV K)) else ((if v2 = (ii 61) then (Go (d + 9) 209 37 [some (.ref 148), some (.int v2), none] [] h2 (rV K)) else ((if v2 = (ii 62) then (Go (d + 9) 209 37 [some (.ref 148), some (.int v2), none] [] h2 (rV K)) else (okF h2 148 12 28 0 ∧ oC h2 148 = 12 ∧ GoCv (d + 9) 197 [.ref 148, .int (ii 0), .int (fI h2 148 28)] h2 (fun h3 => rV K none h3)))))))) := by
  have sb := sgn_b (B := B) (n := n) (p := p)
  have eqs : ∀ c : Int, 0 ≤ c → c < 256 → (ii (sgn B n p) = ii c ↔ sgn B n p = c) := fun c h0 h1 => ii_eq (by omega) (by omega) (by omega) (by omega)
  refine ⟨(RS.ok hx.1).1, ?_⟩
  rw [c198 hx.1 hx.2.1 hx.2.2.1 hp p5]
  by_cases c1 : sgn B n p = 60
  · rw [if_pos ((eqs 60 (by decide) (by decide)).mpr c1)]
    exact hY _ rfl (Or.inl c1)
  rw [if_neg (fun y => c1 ((eqs 60 (by decide) (by decide)).mp y))]
  by_cases c2 : sgn B n p = 61
  · rw [if_pos ((eqs 61 (by decide) (by decide)).mpr c2)]
    exact hY _ rfl (Or.inr (Or.inl c2))
  rw [if_neg (fun y => c2 ((eqs 61 (by decide) (by decide)).mp y))]
  by_cases c3 : sgn B n p = 62
  · rw [if_pos ((eqs 62 (by decide) (by decide)).mpr c3)]
    exact hY _ rfl (Or.inr (Or.inr c3))
  rw [if_neg (fun y => c3 ((eqs 62 (by decide) (by decide)).mp y))]
  simp only [(RS.ok hx.1), (RS.fr hx.1), true_and, and_true, true_or, or_true, hp, rV_s]
  exact hN (fun y => by rcases y with y | y | y; exact c1 y; exact c2 y; exact c3 y)
/-- a fact, from behind its first sum, after a fault -/
theorem c209_d {K : mHeap → Prop} (hx : Cx h B n sl) (hd : Pd h n f) (hK : ∀ h1, Zr vvF vvR sl h h1 → Pd h1 n f → K h1) : oC h 148 = 12 ∧ GoCi (d + 9) 198 [.ref 148] h (fun v2 h2 => (if v2 = (ii 60) then (Go (d + 9) 209 37 [some (.ref 148), some (.int v2), none] [] h2 (rV K)) else ((if v2 = (ii 61) then (Go (d + 9) 209 37 [some (.ref 148), some (.int v2), none] [] h2 (rV K)) else ((if v2 = (ii 62) then (Go (d + 9) 209 37 [some (.ref 148), some (.int v2), none] [] h2 (rV K)) else (okF h2 148 12 28 0 ∧ oC h2 148 = 12 ∧ GoCv (d + 9) 197 [.ref 148, .int (ii 0), .int (fI h2 148 28)] h2 (fun h3 => rV K none h3)))))))) := by
  have n4 := hx.2.1.2.1
  obtain ⟨hf, f0, f5, p, pn, hp⟩ := hd
  refine c209_cont hx hp (by omega) (fun s es hs => ?_) (fun _ => ?_)
  · have pl : p < n := by
      have : ¬ sgn B n p = -1 := by omega
      unfold sgn at this
      by_cases c : p < n
      · exact c
      · rw [if_neg c] at this; exact absurd rfl this
    refine c209_37 (PP := fun h1 => fI h1 148 29 = ii (f : Nat)) hx hp pl hs (fun K' hK' => c204d hx.1 hf f0 f5 hK') (fun h1 h2 sm z1 y1 z2 em e28 K' hK' => ?_)
    have zz : RF vvF [] h h2 := (z1.wd (by decide) (by decide)).tr (z2.wd (by decide) (by decide))
    have x2 : Cx h2 B n sl := hx.z zz (by decide) (by decide) (by decide) (by decide) (by decide)
    refine c208d (f := f) x2 ⟨by rw [z2.fe (by decide)]; exact y1, f0, f5, _, ?_, e28⟩ (fun h3 z3 d3 => ?_)
    · cases sm with
      | false => rw [if_neg Bool.false_ne_true]; omega
      | true =>
        have := (of_decide_eq_true em.symm).2
        unfold sgn at this
        by_cases c : p + 1 < n
        · rw [if_pos rfl]; omega
        · rw [if_neg c] at this; omega
    · have x3 := x2.v z3
      refine hK' h3 x3.1 (c203d x3.1 d3.1 f0 f5 (hK h3 ((RF.zr zz (by decide) (by decide) |>.wd (by decide) (by decide)).tr z3) d3))
  · rw [show ii 0 = ii ((0 : Nat) : Int) from rfl]
    refine c197 hx.1 hf f5 (fun h1 z1 y1 => ?_)
    have e : fa f p 0 = f := by unfold fa; rw [if_neg (by omega)]
    rw [e] at y1
    exact hK h1 (RF.zr (F := vvF) (R := []) (z1.wd (by decide) (by decide)) (by decide) (by decide) |>.wd (by decide) (by decide)) ⟨y1, f0, f5, p, pn, by rw [z1.fe (by decide)]; exact hp⟩
theorem faS_1 (e : suS T i k = .inl f) : faS T i k = .inl f := by unfold faS; rw [e]
theorem faS_2 {i1 k1 : Nat} (e : suS T i k = .inr (i1, k1, V)) (c : ¬ itF T isCm i1 k1 = 0) : faS T i k = .inl (itF T isCm i1 k1) := by
  unfold faS
  rw [e]
  exact if_neg c
theorem faS_3 {i1 k1 : Nat} (e : suS T i k = .inr (i1, k1, V)) (c : itF T isCm i1 k1 = 0) (e2 : suS T (i1 + 1) (k1 + 1) = .inl f) : faS T i k = .inl f := by
  unfold faS
  rw [e]
  refine (if_pos c).trans ?_
  rw [e2]
theorem faS_4 {i1 k1 i2 k2 : Nat} (e : suS T i k = .inr (i1, k1, V)) (c : itF T isCm i1 k1 = 0) (e2 : suS T (i1 + 1) (k1 + 1) = .inr (i2, k2, W)) : faS T i k = .inr (i2, k2, V ++ W ++ [(tk T i1).1 - 1]) := by
  unfold faS
  rw [e]
  refine (if_pos c).trans ?_
  rw [e2]
theorem c209 {K : mHeap → Prop} (hx : Cx h B n sl) (ho : Po h sl p k O) (ha : AtT B n T p i) (room : O.length + 2 * (60 - k) ≤ 298) (hY : ∀ h1 i' k' V, Zr vvF vvR sl h h1 → Po h1 sl (tk T i').2 k' (O ++ V) → AtT B n T (tk T i').2 i' → faS T i k = .inr (i', k', V) → K h1) (hN : ∀ h1 f, Zr vvF vvR sl h h1 → Pd h1 n f → faS T i k = .inl f → K h1) : GoCv (d + 10) 209 [.ref 148] h K := by
  have n4 := hx.2.1.2.1
  rw [e209, b209_0]
  refine ⟨(RS.ok hx.1).1, ?_⟩
  refine c208 hx ho ha (by omega) (fun h1 i1 k1 V z1 o1 a1 e1 => ?_) (fun h1 f z1 d1 e1 => ?_)
  · have x1 := hx.v z1
    have hb := hx.2.2.1
    obtain ⟨bl, pl, le⟩ := a1.bl
    have cs := cmp_sg hb pl
    have so := suS_ok e1
    have ol : (O ++ V).length = O.length + V.length := List.length_append
    obtain ⟨o2, o3, o4, o5, o6⟩ := id o1
    have ei : itF T isCm i1 k1 = @ite _ (isCm (tk T i1).1) (Classical.propDecidable _) (if (tk T i1).1 = 101001 then flt T i1 1 else if k1 = 60 then flt T i1 3 else 0) (flt T i1 0) := rfl
    refine c209_cont x1 o2 (by omega) (fun s es hs => ?_) (fun hs => ?_)
    · subst es
      have cm := cs.1.mpr hs
      obtain ⟨qn, c1, c2⟩ := cs.2 cm
      have tn : ¬ (tk T i1).1 = 101001 := by rcases cm with g | g | g | g | g <;> omega
      have t0 : ¬ (tk T i1).1 = 0 := by rcases cm with g | g | g | g | g <;> omega
      rw [if_pos cm, if_neg tn] at ei
      by_cases k6 : k1 = 60
      · rw [if_pos k6] at ei
        have fe : flt T i1 3 = 1 + 8 * (tk T i1).2 + 3 := rfl
        have fs := faS_2 e1 (by rw [ei]; exact flt_n0)
        rw [ei, fe] at fs
        refine c209_37 (PP := fun h2 => fI h2 148 29 = ii ((1 + 8 * (tk T i1).2 + 3 : Nat) : Int)) x1 o2 qn hs (fun K' hK' => c204 x1.1 o3 o4 o5 (fun g => absurd k6 g) (fun _ h2 z y => hK' h2 z y)) (fun h2 h3 sm z2 y2 z3 em e28 K' hK' => ?_)
        have zz : RF vvF [] h1 h3 := (z2.wd (by decide) (by decide)).tr (z3.wd (by decide) (by decide))
        have x3 : Cx h3 B n sl := x1.z zz (by decide) (by decide) (by decide) (by decide) (by decide)
        have tl := (tok_le (B := B) qn).2
        rw [← em] at c2
        rw [← c2] at e28
        refine c208d (f := 1 + 8 * (tk T i1).2 + 3) x3 ⟨by rw [z3.fe (by decide)]; exact y2, by omega, by omega, _, tl, e28⟩ (fun h4 z4 d4 => ?_)
        have x4 := x3.v z4
        exact hK' h4 x4.1 (c203d x4.1 d4.1 d4.2.1 d4.2.2.1 (hN h4 _ (z1.tr ((RF.zr zz (by decide) (by decide) |>.wd (by decide) (by decide)).tr z4)) d4 fs))
      · rw [if_neg k6] at ei
        have nx := a1.nxt t0
        refine c209_37 (PP := fun h2 => fI h2 148 35 = ii ((k1 + 1 : Nat) : Int) ∧ RF [35] [] h1 h2) x1 o2 qn hs (fun K' hK' => c204 x1.1 o3 o4 o5 (fun _ h2 z y => hK' h2 (z.wd (by decide) (by decide)) ⟨y, z⟩) (fun g => absurd g k6)) (fun h2 h3 sm z2 y2 z3 em e28 K' hK' => ?_)
        have zz : RF vvF [] h1 h3 := (z2.wd (by decide) (by decide)).tr (z3.wd (by decide) (by decide))
        have x3 : Cx h3 B n sl := x1.z zz (by decide) (by decide) (by decide) (by decide) (by decide)
        have zz' : Zr vvF vvR sl h1 h3 := RF.zr zz (by decide) (by decide) |>.wd (by decide) (by decide)
        rw [← em] at c1 c2
        rw [← c2] at e28
        have P3 : Po h3 sl (tok B n (tk T i1).2).2 (k1 + 1) (O ++ V) := ⟨e28, by rw [z3.fe (by decide), y2.2.fe (by decide)]; exact o3, by rw [z3.fe (by decide)]; exact y2.1, by omega, (o6.z y2.2 (by decide) (by decide) (by decide)).z z3 (by decide) (by decide) (by decide)⟩
        have m0 : nbr ((tk T i1).1 - 1) = 0 := by
          have : ¬ 1000 ≤ (tk T i1).1 - 1 ∧ ¬ (304 ≤ (tk T i1).1 - 1 ∧ (tk T i1).1 - 1 < 314) := by rcases cm with g | g | g | g | g <;> omega
          unfold nbr
          rw [if_neg this.1, if_neg this.2]
        refine c208 x3 P3 nx.1 (by omega) (fun h4 i2 k2 V2 z4 o4' a4 e4 => ?_) (fun h4 f z4 d4 e4 => ?_)
        · have x4 := x3.v z4
          have s4 := suS_ok e4
          obtain ⟨u2, u3, u4, u5, u6⟩ := o4'
          have l2 : (O ++ V ++ V2).length = O.length + V.length + V2.length := by rw [List.length_append, List.length_append]
          refine hK' h4 x4.1 ?_
          rw [c1, show ii 0 = ii ((nbr ((tk T i1).1 - 1) : Nat) : Int) by rw [m0]; rfl]
          refine c203 x4 u3 u6 (by omega) (fun h5 z5 y5 => ?_)
          have e5 : O ++ V ++ V2 ++ [(tk T i1).1 - 1] = O ++ (V ++ V2 ++ [(tk T i1).1 - 1]) := by rw [List.append_assoc, List.append_assoc, List.append_assoc]
          refine hY h5 i2 k2 _ (z1.tr (zz'.tr (z4.tr (z5.wd (by decide) (by decide))))) ⟨by rw [z5.1.fe (by decide)]; exact u2, by rw [z5.1.fe (by decide)]; exact u3, by rw [z5.1.fe (by decide)]; exact u4, u5, by rw [← e5]; exact y5⟩ a4 (faS_4 e1 ei e4)
        · have x4 := x3.v z4
          exact hK' h4 x4.1 (c203d x4.1 d4.1 d4.2.1 d4.2.2.1 (hN h4 _ (z1.tr (zz'.tr z4)) d4 (faS_3 e1 ei e4)))
    · have cm : ¬ isCm (tk T i1).1 := fun y => hs (cs.1.mp y)
      rw [if_neg cm] at ei
      have fs := faS_2 e1 (by rw [ei]; exact flt_n0)
      rw [ei] at fs
      have fe : flt T i1 0 = 1 + 8 * (tk T i1).2 + 0 := rfl
      rw [fe] at fs
      rw [show ii 0 = ii ((0 : Nat) : Int) from rfl]
      refine c197 (f := 0) x1.1 o3 (by decide) (fun h2 z2 y2 => ?_)
      have y2 : fI h2 148 29 = ii ((1 + 8 * (tk T i1).2 + 0 : Nat) : Int) := y2
      exact hN h2 (1 + 8 * (tk T i1).2 + 0) (z1.tr (RF.zr (F := vvF) (R := []) (z2.wd (by decide) (by decide)) (by decide) (by decide) |>.wd (by decide) (by decide))) ⟨y2, by omega, by omega, _, le, by rw [z2.fe (by decide)]; exact o2⟩ fs
  · have x1 := hx.v z1
    refine c209_d x1 d1 (fun h2 z2 d2 => hN h2 f (z1.tr z2) d2 (faS_1 e1))
end Th
