/-! THE REFERENCE: terms, sums, a fact -/
section Tg
variable {d : Nat} {h h1 h2 : mHeap} {B : Bt} {n sl p q t i k f c : Nat} {T : List (Nat × Nat)} {O : List Nat} {F R F1 R1 : List Nat}
theorem Pd.ne (hd : Pd h n f) : ¬ ii (f : Nat) = ii 0 := by
  obtain ⟨_, a, b, _⟩ := hd
  rw [show ii 0 = ii (0 : Int) from rfl, ii_eq (by omega) (by omega) (by omega) (by omega)]
  omega
theorem c199d {K : mHeap → Prop} (hx : Cx h B n sl) (hd : Pd h n f) (hK : ∀ h1, Zr vvF vvR sl h h1 → Pd h1 n f → K h1) : GoCv (d + 2) 199 [.ref 148] h K := by
  obtain ⟨hf, f0, f5, p, pn, hp⟩ := hd
  refine c199 hx.1 hx.2.1 hx.2.2.1 hp pn (fun h1 z1 y1 => hK h1 (RF.zr (F := vvF) (R := []) (z1.wd (by decide) (by decide)) (by decide) (by decide) |>.wd (by decide) (by decide)) ⟨by rw [z1.fe (by decide)]; exact hf, f0, f5, _, (hd_le (B := B) pn).2, y1⟩)
theorem c207d {K : mHeap → Prop} (hx : Cx h B n sl) (hd : Pd h n f) (hK : ∀ h1, Zr vvF vvR sl h h1 → Pd h1 n f → K h1) : GoCv (d + 8) 207 [.ref 148] h K := by
  rw [e207, b207_0]
  (try simp only [(RS.ok hx.1), (RS.fr hx.1), true_and, and_true, true_or, or_true])
  refine c206d hx hd (fun h1 z1 d1 => ?_)
  have x1 := hx.v z1
  (try simp only [(RS.ok x1.1), (RS.fr x1.1), true_and, and_true, true_or, or_true])
  refine c199d x1 d1 (fun h2 z2 d2 => ?_)
  have x2 := x1.v z2
  rw [b207_8]
  simp only [(RS.ok x2.1), (RS.fr x2.1), true_and, and_true, true_or, or_true, d2.1]
  rw [if_pos d2.ne, rV_s]
  exact hK h2 (z1.tr z2) d2
theorem c208d {K : mHeap → Prop} (hx : Cx h B n sl) (hd : Pd h n f) (hK : ∀ h1, Zr vvF vvR sl h h1 → Pd h1 n f → K h1) : GoCv (d + 9) 208 [.ref 148] h K := by
  rw [e208, b208_0]
  (try simp only [(RS.ok hx.1), (RS.fr hx.1), true_and, and_true, true_or, or_true])
  refine c207d hx hd (fun h1 z1 d1 => ?_)
  have x1 := hx.v z1
  rw [b208_4]
  simp only [(RS.ok x1.1), (RS.fr x1.1), true_and, and_true, true_or, or_true, d1.1]
  rw [if_pos d1.ne, rV_s]
  exact hK h1 z1 d1
theorem suL_m {g : Nat} {pd W : List Nat} (m : (tk T i).1 = 43 ∨ (tk T i).1 = 48 ∨ (tk T i).1 = 38) : suL T (g + 1) i k pd W = if itF T isVa (i + 1) k = 0 then suL T g (i + 2) (k + 1) pd (W ++ [(tk T (i + 1)).1 - 1, (tk T i).1 - 1]) else .inl (itF T isVa (i + 1) k) := if_pos m
theorem suL_p {g : Nat} {pd W : List Nat} (m : ¬ ((tk T i).1 = 43 ∨ (tk T i).1 = 48 ∨ (tk T i).1 = 38)) (m2 : (tk T i).1 = 44 ∨ (tk T i).1 = 46) : suL T (g + 1) i k pd W = if itF T isVa (i + 1) k = 0 then suL T g (i + 2) (k + 1) [(tk T i).1 - 1] (W ++ pd ++ [(tk T (i + 1)).1 - 1]) else .inl (itF T isVa (i + 1) k) := (if_neg m).trans (if_pos m2)
theorem suL_e {g : Nat} {pd W : List Nat} (m : ¬ ((tk T i).1 = 43 ∨ (tk T i).1 = 48 ∨ (tk T i).1 = 38)) (m2 : ¬ ((tk T i).1 = 44 ∨ (tk T i).1 = 46)) : suL T (g + 1) i k pd W = .inr (i, k, W ++ pd) := (if_neg m).trans (if_neg m2)
/-- on past one sign -/
theorem step1 (hx : Cx h B n sl) (ho : Po h sl (tk T i).2 k O) (ha : AtT B n T (tk T i).2 i) (c0 : ¬ (tk T i).1 = 0) (c : (tk T i).1 ≤ 256) : fI h 148 28 + ii 1 = ii (((tok B n (tk T i).2).2 : Nat) : Int) ∧ Zr vvF vvR sl h (sF h 148 28 (.int (ii (((tok B n (tk T i).2).2 : Nat) : Int)))) ∧ Cx (sF h 148 28 (.int (ii (((tok B n (tk T i).2).2 : Nat) : Int)))) B n sl ∧ Po (sF h 148 28 (.int (ii (((tok B n (tk T i).2).2 : Nat) : Int)))) sl (tok B n (tk T i).2).2 k O ∧ AtT B n T (tok B n (tk T i).2).2 (i + 1) := by
  obtain ⟨hp, hf, hk, k6, hO⟩ := ho
  have t28 : tgK (kd h 148) 28 = some 0 := hx.1.tg.2.1
  have z := RF.sF (x := ii (((tok B n (tk T i).2).2 : Nat) : Int)) t28
  have pl := ha.bl.2.1
  have e := pl_one hx.2.2.1 pl c0 c
  refine ⟨?_, ?_, hx.z z.1 (by decide) (by decide) (by decide) (by decide) (by decide), ⟨z.2, by rw [z.1.fe (by decide)]; exact hf, by rw [z.1.fe (by decide)]; exact hk, k6, hO.z z.1 (by decide) (by decide) (by decide)⟩, (ha.nxt c0).1⟩
  · rw [hp, e, show ii ((tk T i).2 : Nat) + ii 1 = ii (((tk T i).2 + 1 : Nat) : Int) from ii_add _ _]
  · exact RF.zr (F := vvF) (R := []) (z.1.wd (by decide) (by decide)) (by decide) (by decide) |>.wd (by decide) (by decide)
theorem c207_8 {K : mHeap → Prop} {pd W0 O0 : List Nat} {r : Nat} (r9 : r ≤ 299) : ∀ g {i k : Nat} {V : List Nat} {h : mHeap} {l1 : Option Value}, T.length ≤ g + i → Cx h B n sl → Po h sl (tk T i).2 k (O0 ++ V) → AtT B n T (tk T i).2 i → (O0 ++ V).length + 2 * (60 - k) ≤ r → (∀ h1 i' k' V' g', Zr vvF vvR sl h h1 → Po h1 sl (tk T i').2 k' (O0 ++ V') → AtT B n T (tk T i').2 i' → T.length ≤ g' + i' → g' ≤ g → (O0 ++ V').length + 2 * (60 - k') ≤ r → suL T g i k pd (W0 ++ V) = suL T g' i' k' pd (W0 ++ V') → ¬ ((tk T i').1 = 43 ∨ (tk T i').1 = 48 ∨ (tk T i').1 = 38) → K h1) → (∀ h1 f, Zr vvF vvR sl h h1 → Pd h1 n f → suL T g i k pd (W0 ++ V) = .inl f → K h1) → Go (d + 7) 207 8 [some (.ref 148), l1] [] h (rV K) := by
  intro g
  induction g with
  | zero =>
    intro i k V h l1 hg hx ho ha room hY hN
    have := ha.lt
    omega
  | succ g ih =>
    intro i k V h l1 hg hx ho ha room hY hN
    have pl := ha.bl.2.1
    have n4 := hx.2.1.2.1
    have q5 : (tk T i).2 ≤ 500 := by have := ha.2; omega
    have hb := hx.2.2.1
    have s42 := pl_sg hb pl (c := 42) (by decide) (by decide) (by decide) (by decide) (by decide) (by decide)
    have s47 := pl_sg hb pl (c := 47) (by decide) (by decide) (by decide) (by decide) (by decide) (by decide)
    have s37 := pl_sg hb pl (c := 37) (by decide) (by decide) (by decide) (by decide) (by decide) (by decide)
    have sb := sgn_b (B := B) (n := n) (p := (tk T i).2)
    have eqs : ∀ c : Int, 0 ≤ c → c < 256 → (ii (sgn B n (tk T i).2) = ii c ↔ sgn B n (tk T i).2 = c) := fun c h0 h1 => ii_eq (by omega) (by omega) (by omega) (by omega)
    -- the way on, by a sign
    have on : ((tk T i).1 = 43 ∨ (tk T i).1 = 48 ∨ (tk T i).1 = 38) → Go (d + 7) 207 42 [some (.ref 148), l1] [] h (rV K) := fun m => by
      obtain ⟨s1, s2, s3, s4, s5⟩ := step1 hx ho ha (by omega) (by omega)
      have sm := suL_m (T := T) (i := i) (k := k) (g := g) (pd := pd) (W := W0 ++ V) m
      have m0 : nbr ((tk T i).1 - 1) = 0 := by unfold nbr; rw [if_neg (by omega), if_neg (by omega)]
      have go72 : Go (d + 7) 207 72 [some (.ref 148), l1] [.int (ii (srt ((tk T i).1 - 1) : Nat))] h (rV K) := by
        rw [b207_72]
        simp only [(RS.ok hx.1), (RS.fr hx.1), true_and, and_true, true_or, or_true, hx.1.op, s1]
        generalize sF h 148 28 (.int (ii (((tok B n (tk T i).2).2 : Nat) : Int))) = H at *
        have l := ha.lt
        refine ⟨RS.ok s3.1 |>.1, ?_⟩
        refine c206 s3 s4 s5 (fun k6 => by omega) (fun e h1 p' z1 o1 a1 => ?_) (fun f e h1 z1 d1 => ?_)
        · have x1 := s3.v z1
          (try simp only [(RS.ok x1.1), (RS.fr x1.1), true_and, and_true, true_or, or_true])
          rw [show ii 0 = ii ((nbr ((tk T i).1 - 1) : Nat) : Int) by rw [m0]; rfl]
          obtain ⟨o2, o3, o4, o5, o6⟩ := o1
          refine c203 x1 o3 o6 (by rw [List.length_append, List.length_singleton]; omega) (fun h2 z2 y2 => ?_)
          have x2 := x1.v (z2.wd (by decide) (by decide))
          (try simp only [(RS.ok x2.1), (RS.fr x2.1), true_and, and_true, true_or, or_true])
          refine c199 x2.1 x2.2.1 x2.2.2.1 (p := p') (by rw [z2.1.fe (by decide)]; exact o2) a1.2 (fun h3 z3 y3 => ?_)
          have x3 : Cx h3 B n sl := x2.z z3 (by decide) (by decide) (by decide) (by decide) (by decide)
          have z3' : Zr vvF vvR sl h2 h3 := RF.zr (F := vvF) (R := []) (z3.wd (by decide) (by decide)) (by decide) (by decide) |>.wd (by decide) (by decide)
          have zz : Zr vvF vvR sl h h3 := s2.tr (z1.tr ((z2.wd (by decide) (by decide)).tr z3'))
          rw [if_pos e] at sm
          rw [sm] at hY hN
          rw [a1.eh] at y3
          have le : O0 ++ V ++ [(tk T (i + 1)).1 - 1] ++ [(tk T i).1 - 1] = O0 ++ (V ++ [(tk T (i + 1)).1 - 1, (tk T i).1 - 1]) := by rw [List.append_assoc, List.append_assoc]; rfl
          have y3' : RO h3 sl (O0 ++ (V ++ [(tk T (i + 1)).1 - 1, (tk T i).1 - 1])) := by
            rw [← le]
            exact y2.z z3 (by decide) (by decide) (by decide)
          rw [List.append_assoc] at hY hN
          refine ih (by omega) x3 ⟨y3, by rw [z3.fe (by decide), z2.1.fe (by decide)]; exact o3, by rw [z3.fe (by decide), z2.1.fe (by decide)]; exact o4, o5, y3'⟩ a1.bl.1 (by rw [List.length_append, List.length_append, List.length_cons, List.length_singleton]; rw [List.length_append] at room; omega) (fun h4 i' k' V' g' z4 a b c e1 rr m2 m3 => hY h4 i' k' V' g' (zz.tr z4) a b c (by omega) rr m2 m3) (fun h4 f z4 a b => hN h4 f (zz.tr z4) a b)
        · have x1 := s3.v z1
          (try simp only [(RS.ok x1.1), (RS.fr x1.1), true_and, and_true, true_or, or_true])
          refine c203d x1.1 d1.1 d1.2.1 d1.2.2.1 ?_
          (try simp only [(RS.ok x1.1), (RS.fr x1.1), true_and, and_true, true_or, or_true])
          refine c199d x1 d1 (fun h2 z2 d2 => ?_)
          have x2 := x1.v z2
          rw [b207_8]
          simp only [(RS.ok x2.1), (RS.fr x2.1), true_and, and_true, true_or, or_true, d2.1]
          rw [if_pos d2.ne, rV_s]
          rw [if_neg (by have := d2.2.1; omega), e] at sm
          exact hN h2 f (s2.tr (z1.tr z2)) d2 sm
      rw [b207_42]
      (try simp only [(RS.ok hx.1), (RS.fr hx.1), true_and, and_true, true_or, or_true])
      rw [c198 hx.1 hx.2.1 hb ho.1 q5]
      by_cases c1 : (tk T i).1 = 43
      · rw [if_neg (fun y => y ((eqs 42 (by decide) (by decide)).mpr (s42.mpr (by omega))))]
        rw [c1] at go72
        exact go72
      · rw [if_pos (fun y => c1 (by have := s42.mp ((eqs 42 (by decide) (by decide)).mp y); omega))]
        (try simp only [(RS.ok hx.1), (RS.fr hx.1), true_and, and_true, true_or, or_true])
        rw [c198 hx.1 hx.2.1 hb ho.1 q5]
        by_cases c2 : (tk T i).1 = 48
        · rw [if_neg (fun y => y ((eqs 47 (by decide) (by decide)).mpr (s47.mpr (by omega))))]
          rw [c2] at go72
          exact go72
        · rw [if_pos (fun y => c2 (by have := s47.mp ((eqs 47 (by decide) (by decide)).mp y); omega))]
          rw [show (tk T i).1 = 38 by omega] at go72
          exact go72
    rw [b207_8]
    simp only [(RS.ok hx.1), (RS.fr hx.1), true_and, and_true, true_or, or_true, ho.2.1]
    rw [if_neg (fun y => y trivial), c198 hx.1 hx.2.1 hb ho.1 q5]
    by_cases c1 : (tk T i).1 = 43
    · rw [if_pos ((eqs 42 (by decide) (by decide)).mpr (s42.mpr (by omega)))]
      exact on (by omega)
    · rw [if_neg (fun y => c1 (by have := s42.mp ((eqs 42 (by decide) (by decide)).mp y); omega))]
      (try simp only [(RS.ok hx.1), (RS.fr hx.1), true_and, and_true, true_or, or_true])
      rw [c198 hx.1 hx.2.1 hb ho.1 q5]
      by_cases c2 : (tk T i).1 = 48
      · rw [if_pos ((eqs 47 (by decide) (by decide)).mpr (s47.mpr (by omega)))]
        exact on (by omega)
      · rw [if_neg (fun y => c2 (by have := s47.mp ((eqs 47 (by decide) (by decide)).mp y); omega))]
        (try simp only [(RS.ok hx.1), (RS.fr hx.1), true_and, and_true, true_or, or_true])
        rw [c198 hx.1 hx.2.1 hb ho.1 q5]
        by_cases c3 : (tk T i).1 = 38
        · rw [if_neg (fun y => y ((eqs 37 (by decide) (by decide)).mpr (s37.mpr (by omega))))]
          exact on (by omega)
        · rw [if_pos (fun y => c3 (by have := s37.mp ((eqs 37 (by decide) (by decide)).mp y); omega)), rV_s]
          exact hY h i k V (g + 1) Zr.rf ho ha hg (Nat.le_refl _) room rfl (by omega)
theorem c207 {K : mHeap → Prop} {pd W0 : List Nat} {r : Nat} (r9 : r ≤ 299) (g : Nat) (hg : T.length ≤ g + (i + 1)) (hx : Cx h B n sl) (ho : Po h sl p k O) (ha : AtT B n T p i) (room : O.length + 2 * (60 - k) ≤ r + 1) (l3 : O.length ≤ 299) (hY : itF T isVa i k = 0 → ∀ h1 i' k' V' g', Zr vvF vvR sl h h1 → Po h1 sl (tk T i').2 k' (O ++ V') → AtT B n T (tk T i').2 i' → T.length ≤ g' + i' → g' ≤ g → (O ++ V').length + 2 * (60 - k') ≤ r → suL T g (i + 1) (k + 1) pd (W0 ++ [(tk T i).1 - 1]) = suL T g' i' k' pd (W0 ++ V') → ¬ ((tk T i').1 = 43 ∨ (tk T i').1 = 48 ∨ (tk T i').1 = 38) → K h1) (hN : ∀ h1 f, Zr vvF vvR sl h h1 → Pd h1 n f → (itF T isVa i k = f ∨ (itF T isVa i k = 0 ∧ suL T g (i + 1) (k + 1) pd (W0 ++ [(tk T i).1 - 1]) = .inl f)) → K h1) : GoCv (d + 8) 207 [.ref 148] h K := by
  rw [e207, b207_0]
  (try simp only [(RS.ok hx.1), (RS.fr hx.1), true_and, and_true, true_or, or_true])
  refine c206 hx ho ha (fun k6 => by omega) (fun e h1 p' z1 o1 a1 => ?_) (fun f e h1 z1 d1 => ?_)
  · have x1 := hx.v z1
    (try simp only [(RS.ok x1.1), (RS.fr x1.1), true_and, and_true, true_or, or_true])
    obtain ⟨o2, o3, o4, o5, o6⟩ := o1
    refine c199 x1.1 x1.2.1 x1.2.2.1 o2 a1.2 (fun h3 z3 y3 => ?_)
    have x3 : Cx h3 B n sl := x1.z z3 (by decide) (by decide) (by decide) (by decide) (by decide)
    have z3' : Zr vvF vvR sl h1 h3 := RF.zr (F := vvF) (R := []) (z3.wd (by decide) (by decide)) (by decide) (by decide) |>.wd (by decide) (by decide)
    rw [a1.eh] at y3
    refine c207_8 (pd := pd) (W0 := W0) (O0 := O) (V := [(tk T i).1 - 1]) r9 g (by omega) x3 ⟨y3, by rw [z3.fe (by decide)]; exact o3, by rw [z3.fe (by decide)]; exact o4, o5, o6.z z3 (by decide) (by decide) (by decide)⟩ a1.bl.1 (by rw [List.length_append, List.length_singleton]; omega) (fun h4 i' k' V' g' z4 a b c e1 rr m2 m3 => hY e h4 i' k' V' g' (z1.tr (z3'.tr z4)) a b c e1 rr m2 m3) (fun h4 f z4 a b => hN h4 f (z1.tr (z3'.tr z4)) a (Or.inr ⟨e, b⟩))
  · have x1 := hx.v z1
    (try simp only [(RS.ok x1.1), (RS.fr x1.1), true_and, and_true, true_or, or_true])
    refine c199d x1 d1 (fun h2 z2 d2 => ?_)
    have x2 := x1.v z2
    rw [b207_8]
    simp only [(RS.ok x2.1), (RS.fr x2.1), true_and, and_true, true_or, or_true, d2.1]
    rw [if_pos d2.ne, rV_s]
    exact hN h2 f (z1.tr z2) d2 (Or.inl e)
theorem c208_4 {K : mHeap → Prop} {O0 : List Nat} : ∀ N g {i k : Nat} {pd V : List Nat} {h : mHeap} {l1 : Option Value}, g ≤ N → T.length ≤ g + i → Cx h B n sl → Po h sl (tk T i).2 k (O0 ++ (V ++ pd)) → AtT B n T (tk T i).2 i → (O0 ++ (V ++ pd)).length + 2 * (60 - k) ≤ 299 → ¬ ((tk T i).1 = 43 ∨ (tk T i).1 = 48 ∨ (tk T i).1 = 38) → (∀ h1 i' k' V', Zr vvF vvR sl h h1 → Po h1 sl (tk T i').2 k' (O0 ++ V') → AtT B n T (tk T i').2 i' → suL T g i k pd V = .inr (i', k', V') → K h1) → (∀ h1 f, Zr vvF vvR sl h h1 → Pd h1 n f → suL T g i k pd V = .inl f → K h1) → Go (d + 8) 208 4 [some (.ref 148), l1] [] h (rV K) := by
  intro N
  induction N with
  | zero =>
    intro g i k pd V h l1 hN0 hg hx ho ha room nm hY hN
    have := ha.lt
    omega
  | succ N ih =>
    intro g i k pd V h l1 hN0 hg hx ho ha room nm hY hN
    have l := ha.lt
    have pl := ha.bl.2.1
    have n4 := hx.2.1.2.1
    have q5 : (tk T i).2 ≤ 500 := by have := ha.2; omega
    have hb := hx.2.2.1
    have s43 := pl_sg hb pl (c := 43) (by decide) (by decide) (by decide) (by decide) (by decide) (by decide)
    have s45 := pl_sg hb pl (c := 45) (by decide) (by decide) (by decide) (by decide) (by decide) (by decide)
    have sb := sgn_b (B := B) (n := n) (p := (tk T i).2)
    have eqs : ∀ c : Int, 0 ≤ c → c < 256 → (ii (sgn B n (tk T i).2) = ii c ↔ sgn B n (tk T i).2 = c) := fun c h0 h1 => ii_eq (by omega) (by omega) (by omega) (by omega)
    obtain ⟨g, rfl⟩ : ∃ g', g = g' + 1 := ⟨g - 1, by omega⟩
    have on : ((tk T i).1 = 44 ∨ (tk T i).1 = 46) → Go (d + 8) 208 29 [some (.ref 148), l1] [] h (rV K) := fun m => by
      obtain ⟨s1, s2, s3, s4, s5⟩ := step1 hx ho ha (by omega) (by omega)
      have sm := suL_p (T := T) (i := i) (k := k) (g := g) (pd := pd) (W := V) nm m
      have m0 : nbr ((tk T i).1 - 1) = 0 := by unfold nbr; rw [if_neg (by omega), if_neg (by omega)]
      have go43 : Go (d + 8) 208 43 [some (.ref 148), l1] [.int (ii (srt ((tk T i).1 - 1) : Nat))] h (rV K) := by
        rw [b208_43]
        simp only [(RS.ok hx.1), (RS.fr hx.1), true_and, and_true, true_or, or_true, hx.1.op, s1]
        generalize sF h 148 28 (.int (ii (((tok B n (tk T i).2).2 : Nat) : Int))) = H at *
        refine ⟨RS.ok s3.1 |>.1, ?_⟩
        refine c207 (pd := [(tk T i).1 - 1]) (W0 := V ++ pd) (r := 298) (by decide) g (by omega) s3 s4 s5 (by omega) (by omega) (fun e h1 i' k' V' g' z1 o1 a1 hg' gg room' es nm' => ?_) (fun h1 f z1 d1 e => ?_)
        · rw [if_pos e] at sm
          rw [sm, es] at hY hN
          have x1 := s3.v z1
          (try simp only [(RS.ok x1.1), (RS.fr x1.1), true_and, and_true, true_or, or_true])
          rw [show ii 0 = ii ((nbr ((tk T i).1 - 1) : Nat) : Int) by rw [m0]; rfl]
          obtain ⟨o2, o3, o4, o5, o6⟩ := o1
          refine c203 x1 o3 o6 (by omega) (fun h2 z2 y2 => ?_)
          have x2 := x1.v (z2.wd (by decide) (by decide))
          have le : O0 ++ (V ++ pd) ++ V' ++ [(tk T i).1 - 1] = O0 ++ (V ++ pd ++ V' ++ [(tk T i).1 - 1]) := by
            rw [List.append_assoc, List.append_assoc, List.append_assoc, List.append_assoc, List.append_assoc]
          have zz : Zr vvF vvR sl h h2 := s2.tr (z1.tr (z2.wd (by decide) (by decide)))
          have ll : (O0 ++ (V ++ pd ++ V' ++ [(tk T i).1 - 1])).length = (O0 ++ (V ++ pd) ++ V').length + 1 := by rw [← le, List.length_append, List.length_singleton]
          refine ih g' (by omega) hg' x2 ⟨by rw [z2.1.fe (by decide)]; exact o2, by rw [z2.1.fe (by decide)]; exact o3, by rw [z2.1.fe (by decide)]; exact o4, o5, by rw [← le]; exact y2⟩ a1 (by omega) nm' (fun h4 i2 k2 V2 z4 a b c => hY h4 i2 k2 V2 (zz.tr z4) a b c) (fun h4 f z4 a b => hN h4 f (zz.tr z4) a b)
        · have x1 := s3.v z1
          (try simp only [(RS.ok x1.1), (RS.fr x1.1), true_and, and_true, true_or, or_true])
          refine c203d x1.1 d1.1 d1.2.1 d1.2.2.1 ?_
          rw [b208_4]
          simp only [(RS.ok x1.1), (RS.fr x1.1), true_and, and_true, true_or, or_true, d1.1]
          rw [if_pos d1.ne, rV_s]
          refine hN h1 f (s2.tr z1) d1 ?_
          rw [sm]
          rcases e with e | ⟨e, e2⟩
          · rw [if_neg (by have := d1.2.1; omega), e]
          · rw [if_pos e]; exact e2
      rw [b208_29]
      (try simp only [(RS.ok hx.1), (RS.fr hx.1), true_and, and_true, true_or, or_true])
      rw [c198 hx.1 hx.2.1 hb ho.1 q5]
      by_cases c1 : (tk T i).1 = 44
      · rw [if_neg (fun y => y ((eqs 43 (by decide) (by decide)).mpr (s43.mpr (by omega))))]
        rw [c1] at go43
        exact go43
      · rw [if_pos (fun y => c1 (by have := s43.mp ((eqs 43 (by decide) (by decide)).mp y); omega))]
        rw [show (tk T i).1 = 46 by omega] at go43
        exact go43
    rw [b208_4]
    simp only [(RS.ok hx.1), (RS.fr hx.1), true_and, and_true, true_or, or_true, ho.2.1]
    rw [if_neg (fun y => y trivial), c198 hx.1 hx.2.1 hb ho.1 q5]
    by_cases c1 : (tk T i).1 = 44
    · rw [if_pos ((eqs 43 (by decide) (by decide)).mpr (s43.mpr (by omega)))]
      exact on (by omega)
    · rw [if_neg (fun y => c1 (by have := s43.mp ((eqs 43 (by decide) (by decide)).mp y); omega))]
      (try simp only [(RS.ok hx.1), (RS.fr hx.1), true_and, and_true, true_or, or_true])
      rw [c198 hx.1 hx.2.1 hb ho.1 q5]
      by_cases c2 : (tk T i).1 = 46
      · rw [if_neg (fun y => y ((eqs 45 (by decide) (by decide)).mpr (s45.mpr (by omega))))]
        exact on (by omega)
      · rw [if_pos (fun y => c2 (by have := s45.mp ((eqs 45 (by decide) (by decide)).mp y); omega)), rV_s]
        exact hY h i k (V ++ pd) Zr.rf ho ha (suL_e nm (by omega))
/-- a sum -/
theorem c208 {K : mHeap → Prop} (hx : Cx h B n sl) (ho : Po h sl p k O) (ha : AtT B n T p i) (room : O.length + 2 * (60 - k) ≤ 299) (hY : ∀ h1 i' k' V, Zr vvF vvR sl h h1 → Po h1 sl (tk T i').2 k' (O ++ V) → AtT B n T (tk T i').2 i' → suS T i k = .inr (i', k', V) → K h1) (hN : ∀ h1 f, Zr vvF vvR sl h h1 → Pd h1 n f → suS T i k = .inl f → K h1) : GoCv (d + 9) 208 [.ref 148] h K := by
  have l := ha.lt
  rw [e208, b208_0]
  (try simp only [(RS.ok hx.1), (RS.fr hx.1), true_and, and_true, true_or, or_true])
  have es : suS T i k = if itF T isVa i k = 0 then suL T T.length (i + 1) (k + 1) [] [(tk T i).1 - 1] else .inl (itF T isVa i k) := rfl
  refine c207 (pd := []) (W0 := []) (r := 298) (by decide) T.length (by omega) hx ho ha (by omega) (by omega) (fun e h1 i' k' V' g' z1 o1 a1 hg' gg room' eq nm' => ?_) (fun h1 f z1 d1 e => ?_)
  · rw [if_pos e] at es
    rw [List.nil_append, List.nil_append] at eq
    rw [es, eq] at hY hN
    refine c208_4 (O0 := O) g' g' (Nat.le_refl _) hg' (hx.v z1) (by rw [List.append_nil]; exact o1) a1 (by rw [List.append_nil]; omega) nm' (fun h4 i2 k2 V2 z4 a b c => hY h4 i2 k2 V2 (z1.tr z4) a b c) (fun h4 f z4 a b => hN h4 f (z1.tr z4) a b)
  · have x1 := hx.v z1
    rw [b208_4]
    simp only [(RS.ok x1.1), (RS.fr x1.1), true_and, and_true, true_or, or_true, d1.1]
    rw [if_pos d1.ne, rV_s]
    refine hN h1 f z1 d1 ?_
    rw [es]
    rcases e with e | ⟨e, e2⟩
    · rw [if_neg (by have := d1.2.1; omega), e]
    · rw [if_pos e]; exact e2
end Tg
