/-! THE REFERENCE: a land's parts -/
section Tt
variable {d : Nat} {h h1 h2 h3 : mHeap} {B : Bt} {n p q t i k f c a b : Nat} {T : List (Nat × Nat)} {F R : List Nat} {l : Ld} {st : Nat ⊕ Nat} {lo hi : Int}
theorem amS_y (e : nmF T i lo hi = 0) : amS T (.inr i) lo hi = .inr (i + 1) := if_pos e
theorem amS_n (e : ¬ nmF T i lo hi = 0) : amS T (.inr i) lo hi = .inl (nmF T i lo hi) := if_neg e
theorem RLn.fc (hL : RLn h l) (e0 : xA h1 164 0 = ii (a : Nat)) (e1 : xA h1 164 1 = ii (b : Nat)) (e164 : ∀ j, ¬ j = 0 → ¬ j = 1 → xA h1 164 j = xA h 164 j) (e : ∀ r, 165 ≤ r → r ≤ 174 → xA h1 r = xA h r) : RLn h1 (a, b, ld_q l, ld_p l, ld_w l, ld_t l) := by
  obtain ⟨⟨a0, a1, a2, a3, a4, a5⟩, b1, c1, d1, f1⟩ := hL
  refine ⟨⟨e0, e1, (e164 2 (by decide) (by decide)).trans a2, (e164 3 (by decide) (by decide)).trans a3, (e164 4 (by decide) (by decide)).trans a4, (e164 5 (by decide) (by decide)).trans a5⟩, fun q hq => ?_, fun k hk => ?_, fun k hk => ?_, fun t ht => ?_⟩
  · rw [e 165 (by decide) (by decide), e 166 (by decide) (by decide), e 167 (by decide) (by decide), e 168 (by decide) (by decide)]; exact b1 q hq
  · rw [e 169 (by decide) (by decide)]; exact c1 k hk
  · rw [e 170 (by decide) (by decide), e 171 (by decide) (by decide), e 172 (by decide) (by decide)]; exact d1 k hk
  · rw [e 173 (by decide) (by decide), e 174 (by decide) (by decide)]; exact f1 t ht
theorem RLn.pe {v1 v2 v3 v4 : Nat} (hL : RLn h l) (e2 : xA h1 164 2 = ii (((ld_q l).length + 1 : Nat) : Int)) (e164 : ∀ j, ¬ j = 2 → xA h1 164 j = xA h 164 j) (g1 : xA h1 165 = upf (xA h 165) (ld_q l).length (ii (v1 : Nat))) (g2 : xA h1 166 = upf (xA h 166) (ld_q l).length (ii (v2 : Nat))) (g3 : xA h1 167 = upf (xA h 167) (ld_q l).length (ii (v3 : Nat))) (g4 : xA h1 168 = upf (xA h 168) (ld_q l).length (ii (v4 : Nat))) (e : ∀ r, 169 ≤ r → r ≤ 174 → xA h1 r = xA h r) : RLn h1 (ld_n l, ld_so l, ld_q l ++ [(v1, v2, v3, v4)], ld_p l, ld_w l, ld_t l) := by
  obtain ⟨⟨a0, a1, a2, a3, a4, a5⟩, b1, c1, d1, f1⟩ := hL
  refine ⟨⟨(e164 0 (by decide)).trans a0, (e164 1 (by decide)).trans a1, ?_, (e164 3 (by decide)).trans a3, (e164 4 (by decide)).trans a4, (e164 5 (by decide)).trans a5⟩, fun q hq => ?_, fun k hk => ?_, fun k hk => ?_, fun t ht => ?_⟩
  · show _ = ii ((ld_q l ++ [(v1, v2, v3, v4)]).length : Nat)
    rw [e2, List.length_append, List.length_singleton]
  · have hq : q < (ld_q l ++ [(v1, v2, v3, v4)]).length := hq
    rw [List.length_append, List.length_singleton] at hq
    have ea : la_q (ld_n l, ld_so l, ld_q l ++ [(v1, v2, v3, v4)], ld_p l, ld_w l, ld_t l) q = if q = (ld_q l).length then (v1, v2, v3, v4) else if q < (ld_q l).length then la_q l q else (0, 0, 0, 0) := getD_app
    rw [ea, g1, g2, g3, g4]
    unfold upf
    by_cases c : q = (ld_q l).length
    · rw [if_pos c, if_pos c, if_pos c, if_pos c, if_pos c]; exact ⟨rfl, rfl, rfl, rfl⟩
    · rw [if_neg c, if_neg c, if_neg c, if_neg c, if_neg c, if_pos (by omega)]; exact b1 q (by omega)
  · rw [e 169 (by decide) (by decide)]; exact c1 k hk
  · rw [e 170 (by decide) (by decide), e 171 (by decide) (by decide), e 172 (by decide) (by decide)]; exact d1 k hk
  · rw [e 173 (by decide) (by decide), e 174 (by decide) (by decide)]; exact f1 t ht
theorem RLn.pl {v1 : Nat} (hL : RLn h l) (e3 : xA h1 164 3 = ii (((ld_p l).length + 1 : Nat) : Int)) (e164 : ∀ j, ¬ j = 3 → xA h1 164 j = xA h 164 j) (g1 : xA h1 169 = upf (xA h 169) (ld_p l).length (ii (v1 : Nat))) (e : ∀ r, 165 ≤ r → r ≤ 174 → ¬ r = 169 → xA h1 r = xA h r) : RLn h1 (ld_n l, ld_so l, ld_q l, ld_p l ++ [v1], ld_w l, ld_t l) := by
  obtain ⟨⟨a0, a1, a2, a3, a4, a5⟩, b1, c1, d1, f1⟩ := hL
  refine ⟨⟨(e164 0 (by decide)).trans a0, (e164 1 (by decide)).trans a1, (e164 2 (by decide)).trans a2, ?_, (e164 4 (by decide)).trans a4, (e164 5 (by decide)).trans a5⟩, fun q hq => ?_, fun k hk => ?_, fun k hk => ?_, fun t ht => ?_⟩
  · show _ = ii ((ld_p l ++ [v1]).length : Nat)
    rw [e3, List.length_append, List.length_singleton]
  · rw [e 165 (by decide) (by decide) (by decide), e 166 (by decide) (by decide) (by decide), e 167 (by decide) (by decide) (by decide), e 168 (by decide) (by decide) (by decide)]; exact b1 q hq
  · have hk : k < (ld_p l ++ [v1]).length := hk
    rw [List.length_append, List.length_singleton] at hk
    show _ = ii ((ld_p l ++ [v1]).getD k 0 : Nat)
    rw [getD_app, g1]
    unfold upf
    by_cases c : k = (ld_p l).length
    · rw [if_pos c, if_pos c]
    · rw [if_neg c, if_neg c, if_pos (by omega)]; exact c1 k (by omega)
  · rw [e 170 (by decide) (by decide) (by decide), e 171 (by decide) (by decide) (by decide), e 172 (by decide) (by decide) (by decide)]; exact d1 k hk
  · rw [e 173 (by decide) (by decide) (by decide), e 174 (by decide) (by decide) (by decide)]; exact f1 t ht
theorem RLn.pa {v1 v2 v3 : Nat} (hL : RLn h l) (e4 : xA h1 164 4 = ii (((ld_w l).length + 1 : Nat) : Int)) (e164 : ∀ j, ¬ j = 4 → xA h1 164 j = xA h 164 j) (g1 : xA h1 170 = upf (xA h 170) (ld_w l).length (ii (v1 : Nat))) (g2 : xA h1 171 = upf (xA h 171) (ld_w l).length (ii (v2 : Nat))) (g3 : xA h1 172 = upf (xA h 172) (ld_w l).length (ii (v3 : Nat))) (e : ∀ r, 165 ≤ r → r ≤ 174 → ¬ (170 ≤ r ∧ r ≤ 172) → xA h1 r = xA h r) : RLn h1 (ld_n l, ld_so l, ld_q l, ld_p l, ld_w l ++ [(v1, v2, v3)], ld_t l) := by
  obtain ⟨⟨a0, a1, a2, a3, a4, a5⟩, b1, c1, d1, f1⟩ := hL
  refine ⟨⟨(e164 0 (by decide)).trans a0, (e164 1 (by decide)).trans a1, (e164 2 (by decide)).trans a2, (e164 3 (by decide)).trans a3, ?_, (e164 5 (by decide)).trans a5⟩, fun q hq => ?_, fun k hk => ?_, fun k hk => ?_, fun t ht => ?_⟩
  · show _ = ii ((ld_w l ++ [(v1, v2, v3)]).length : Nat)
    rw [e4, List.length_append, List.length_singleton]
  · rw [e 165 (by decide) (by decide) (by decide), e 166 (by decide) (by decide) (by decide), e 167 (by decide) (by decide) (by decide), e 168 (by decide) (by decide) (by decide)]; exact b1 q hq
  · rw [e 169 (by decide) (by decide) (by decide)]; exact c1 k hk
  · have hk : k < (ld_w l ++ [(v1, v2, v3)]).length := hk
    rw [List.length_append, List.length_singleton] at hk
    have ea : la_w (ld_n l, ld_so l, ld_q l, ld_p l, ld_w l ++ [(v1, v2, v3)], ld_t l) k = if k = (ld_w l).length then (v1, v2, v3) else if k < (ld_w l).length then la_w l k else (0, 0, 0) := getD_app
    rw [ea, g1, g2, g3]
    unfold upf
    by_cases c : k = (ld_w l).length
    · rw [if_pos c, if_pos c, if_pos c, if_pos c]; exact ⟨rfl, rfl, rfl⟩
    · rw [if_neg c, if_neg c, if_neg c, if_neg c, if_pos (by omega)]; exact d1 k (by omega)
  · rw [e 173 (by decide) (by decide) (by decide), e 174 (by decide) (by decide) (by decide)]; exact f1 t ht
theorem RLn.tu {v1 v2 : Nat} (hL : RLn h l) (e5 : xA h1 164 5 = ii (((ld_t l).length + 1 : Nat) : Int)) (e164 : ∀ j, ¬ j = 5 → xA h1 164 j = xA h 164 j) (g1 : xA h1 173 = upf (xA h 173) (ld_t l).length (ii (v1 : Nat))) (g2 : xA h1 174 = upf (xA h 174) (ld_t l).length (ii (v2 : Nat))) (e : ∀ r, 165 ≤ r → r ≤ 172 → xA h1 r = xA h r) : RLn h1 (ld_n l, ld_so l, ld_q l, ld_p l, ld_w l, ld_t l ++ [(v1, v2)]) := by
  obtain ⟨⟨a0, a1, a2, a3, a4, a5⟩, b1, c1, d1, f1⟩ := hL
  refine ⟨⟨(e164 0 (by decide)).trans a0, (e164 1 (by decide)).trans a1, (e164 2 (by decide)).trans a2, (e164 3 (by decide)).trans a3, (e164 4 (by decide)).trans a4, ?_⟩, fun q hq => ?_, fun k hk => ?_, fun k hk => ?_, fun t ht => ?_⟩
  · show _ = ii ((ld_t l ++ [(v1, v2)]).length : Nat)
    rw [e5, List.length_append, List.length_singleton]
  · rw [e 165 (by decide) (by decide), e 166 (by decide) (by decide), e 167 (by decide) (by decide), e 168 (by decide) (by decide)]; exact b1 q hq
  · rw [e 169 (by decide) (by decide)]; exact c1 k hk
  · rw [e 170 (by decide) (by decide), e 171 (by decide) (by decide), e 172 (by decide) (by decide)]; exact d1 k hk
  · have ht : t < (ld_t l ++ [(v1, v2)]).length := ht
    rw [List.length_append, List.length_singleton] at ht
    have ea : la_t (ld_n l, ld_so l, ld_q l, ld_p l, ld_w l, ld_t l ++ [(v1, v2)]) t = if t = (ld_t l).length then (v1, v2) else if t < (ld_t l).length then la_t l t else (0, 0) := getD_app
    rw [ea, g1, g2]
    unfold upf
    by_cases c : t = (ld_t l).length
    · rw [if_pos c, if_pos c, if_pos c]; exact ⟨rfl, rfl⟩
    · rw [if_neg c, if_neg c, if_neg c, if_pos (by omega)]; exact f1 t (by omega)
theorem pow8 (hk : k ≤ 8) : 2 ^ k ≤ 256 := by
  have : 2 ^ k ≤ 2 ^ 8 := Nat.pow_le_pow_right (by decide) hk
  omega
theorem pow8i (hk : k ≤ 8) : i32 (((2 ^ k : Nat) : Int) - 1) := by
  have a := pow8 hk
  have b := Nat.two_pow_pos k
  generalize 2 ^ k = z at *
  exact ⟨by omega, by omega⟩
/-- the facts -/
theorem c219_0 {K : mHeap → Prop} (hx : Tx h B n) (hu : LaU h B n T (.inr i)) (hL : RLn h l) (hK : ∀ h1, RF ldF ldR h h1 → laU h1 B n T (fcR T i l) → K h1) : GoCv (d + 5) 219 [.ref 148, .int (ii ((0 : Nat) : Int))] h K := by
  rw [e219, b219_0, if_pos (by decide)]
  (try simp only [(RS.ok hx.1), (RS.fr hx.1), true_and, and_true, true_or, or_true])
  refine c215 (lo := 1) (hi := 8) hx hu ⟨by decide, by decide⟩ ⟨by decide, by decide⟩ (fun h1 v1 z1 u1 b1 w1 => ?_)
  have x1 : Tx h1 B n := hx.z z1 (by decide) (by decide) (by decide)
  simp only [(RS.ok x1.1), (RS.fr x1.1), true_and, and_true, true_or, or_true, x1.1.l164]
  refine ⟨by decide, ?_⟩
  have zs : RF [] [164] h1 (sI h1 164 (ii 0) (ii (v1 : Nat))) := RF.sI
  have s1 : xA (sI h1 164 (ii 0) (ii (v1 : Nat))) 164 = upf (xA h1 164) 0 (ii (v1 : Nat)) := (x1.1.s164 (i := 0) (by decide)).trans (if_pos rfl)
  generalize sI h1 164 (ii 0) (ii (v1 : Nat)) = H1 at *
  have xs : Tx H1 B n := x1.z zs (by decide) (by decide) (by decide)
  have us := u1.z zs (by decide) (by decide)
  (try simp only [(RS.ok xs.1), (RS.fr xs.1), true_and, and_true, true_or, or_true])
  -- the second number, and the end
  have last : ∀ (hi2 : Int) (st : Nat ⊕ Nat), i32 hi2 → LaU H1 B n T st → (∀ h3 v2, RF ldF ldR H1 h3 → LaU h3 B n T (amS T st 0 hi2) → (∀ i, st = .inr i → nmF T i 0 hi2 = 0 → v2 = nmV T i) → xA h3 164 = upf (xA H1 164) 1 (ii (v2 : Nat)) → (∀ r, 165 ≤ r → xA h3 r = xA H1 r) → K h3) → Go (d + 4) 219 67 [some (.ref 148), some (.int (ii ((0 : Nat) : Int))), none] [.int (ii hi2), .int (ii 0), .ref 148, .int (ii 1), .ref 164] H1 (rV K) := fun hi2 st hb u g => by
    rw [b219_67]
    (try simp only [(RS.ok xs.1), (RS.fr xs.1), true_and, and_true, true_or, or_true])
    refine c215 (lo := 0) (hi := hi2) xs u ⟨by decide, by decide⟩ hb (fun h2 v2 z2 u2 b2 w2 => ?_)
    have x2 : Tx h2 B n := xs.z z2 (by decide) (by decide) (by decide)
    have s3 : ∀ r, xA (sI h2 164 (ii 1) (ii (v2 : Nat))) r = if 164 = r then upf (xA h2 164) 1 (ii (v2 : Nat)) else xA h2 r := fun r => x2.1.s164 (i := 1) (by decide)
    simp only [x2.1.l164, rV_s]
    refine ⟨by decide, g _ v2 ((z2.wd (by decide) (by decide)).tr (RF.sI.wd (by decide) (by decide))) (u2.z RF.sI (by decide) (by decide)) w2 ?_ (fun r hr => ?_)⟩
    · rw [s3, if_pos rfl, z2.ae (by decide) (by decide)]
    · rw [s3, if_neg (by omega), z2.ae (by omega) (fun y => by cases y)]
  have zz : RF ldF ldR h H1 := (z1.wd (by decide) (by decide)).tr (zs.wd (by decide) (by decide))
  by_cases n1 : nmF T i 1 8 = 0
  · have e1 := w1 i rfl n1
    have b8 := nm_ok n1
    rw [amS_y n1] at us
    have f0 : fI H1 148 29 = ii 0 := us.2
    rw [f0, if_neg (fun y => y rfl), c217 xs.1 (by rw [s1]; unfold upf; rw [if_pos rfl]) (by omega)]
    refine last _ _ (pow8i (by omega)) us (fun h3 v2 z3 u3 w3 g1 g2 => hK h3 (zz.tr z3) ?_)
    have ef : fcR T i l = if nmF T i 1 8 = 0 then (if nmF T (i + 1) 0 (((2 ^ nmV T i : Nat) : Int) - 1) = 0 then .inr (i + 1 + 1, (nmV T i, nmV T (i + 1), ld_q l, ld_p l, ld_w l, ld_t l)) else .inl (nmF T (i + 1) 0 (((2 ^ nmV T i : Nat) : Int) - 1))) else .inl (nmF T i 1 8) := rfl
    rw [ef, if_pos n1]
    rw [e1] at u3 w3
    by_cases n2 : nmF T (i + 1) 0 (((2 ^ nmV T i : Nat) : Int) - 1) = 0
    · rw [amS_y n2] at u3
      have e2 := w3 (i + 1) rfl n2
      rw [if_pos n2]
      refine ⟨u3, hL.fc ?_ ?_ (fun j j0 j1 => ?_) (fun r r1 r2 => ?_)⟩
      · rw [g1, s1]; unfold upf; rw [if_neg (by decide), if_pos rfl, e1]
      · rw [g1]; unfold upf; rw [if_pos rfl, e2]
      · rw [g1, s1]; unfold upf; rw [if_neg j1, if_neg j0, z1.ae (by decide) (by decide)]
      · rw [g2 r r1, zs.ae (by omega) (fun y => by have := List.mem_singleton.mp y; omega), z1.ae (by omega) (fun y => by cases y)]
    · rw [amS_n n2] at u3
      rw [if_neg n2]
      exact u3
  · rw [amS_n n1] at us
    have us : Pd H1 n (nmF T i 1 8) := us
    rw [us.1, if_pos us.ne]
    refine last 0 (.inl (nmF T i 1 8)) ⟨by decide, by decide⟩ us (fun h3 v2 z3 u3 _ _ _ => hK h3 (zz.tr z3) ?_)
    have ef : fcR T i l = if nmF T i 1 8 = 0 then (if nmF T (i + 1) 0 (((2 ^ nmV T i : Nat) : Int) - 1) = 0 then .inr (i + 1 + 1, (nmV T i, nmV T (i + 1), ld_q l, ld_p l, ld_w l, ld_t l)) else .inl (nmF T (i + 1) 0 (((2 ^ nmV T i : Nat) : Int) - 1))) else .inl (nmF T i 1 8) := rfl
    rw [ef, if_neg n1]
    exact u3
/-- a place -/
theorem c219_2 {K : mHeap → Prop} (hx : Tx h B n) (hu : LaU h B n T (.inr i)) (hL : RLn h l) (n8 : ld_n l ≤ 8) (hp : (ld_p l).length < 6) (hK : ∀ h1, RF ldF ldR h h1 → laU h1 B n T (plR T i l) → K h1) : GoCv (d + 5) 219 [.ref 148, .int (ii ((2 : Nat) : Int))] h K := by
  have a0 := hL.1.1
  have a3 := hL.1.2.2.2.1
  rw [e219, b219_0, if_neg (by decide), if_neg (by decide), if_pos (by decide)]
  simp only [(RS.ok hx.1), (RS.fr hx.1), true_and, and_true, true_or, or_true, hx.1.l164, a0, a3]
  rw [show ii (ld_n l : Nat) - ii 1 = ii ((ld_n l : Int) - 1) from ii_sub _ _]
  refine c215 (lo := 0) (hi := (ld_n l : Int) - 1) hx hu ⟨by decide, by decide⟩ ⟨by omega, by omega⟩ (fun h1 v1 z1 u1 b1 w1 => ?_)
  have x1 : Tx h1 B n := hx.z z1 (by decide) (by decide) (by decide)
  simp only [(RS.ok x1.1), (RS.fr x1.1), true_and, and_true, true_or, or_true, x1.1.x169 hp]
  refine ⟨by decide, ?_⟩
  have zs : RF [] [169] h1 (sI h1 169 (ii ((ld_p l).length : Nat)) (ii (v1 : Nat))) := RF.sI
  have s1 : xA (sI h1 169 (ii ((ld_p l).length : Nat)) (ii (v1 : Nat))) 169 = upf (xA h1 169) (ld_p l).length (ii (v1 : Nat)) := (x1.1.s169 hp).trans (if_pos rfl)
  generalize sI h1 169 (ii ((ld_p l).length : Nat)) (ii (v1 : Nat)) = H1 at *
  have xs : Tx H1 B n := x1.z zs (by decide) (by decide) (by decide)
  have us := u1.z zs (by decide) (by decide)
  have c3 : xA H1 164 3 = ii ((ld_p l).length : Nat) := by rw [zs.ae (by decide) (by decide), z1.ae (by decide) (by decide)]; exact a3
  simp only [(RS.ok xs.1), (RS.fr xs.1), true_and, and_true, true_or, or_true, xs.1.l164, c3, rV_s]
  refine ⟨by decide, ?_⟩
  rw [show ii ((ld_p l).length : Nat) + ii 1 = ii (((ld_p l).length + 1 : Nat) : Int) from ii_add _ _]
  have s2 : ∀ r, xA (sI H1 164 (ii 3) (ii (((ld_p l).length + 1 : Nat) : Int))) r = if 164 = r then upf (xA H1 164) 3 (ii (((ld_p l).length + 1 : Nat) : Int)) else xA H1 r := fun r => xs.1.s164 (i := 3) (by decide)
  have ut := us.z (RF.sI (a := 164) (j := ii 3) (w := ii (((ld_p l).length + 1 : Nat) : Int))) (by decide) (by decide)
  refine hK _ ((z1.wd (by decide) (by decide)).tr ((zs.wd (by decide) (by decide)).tr (RF.sI.wd (by decide) (by decide)))) ?_
  unfold plR
  by_cases n1 : nmF T i 0 ((ld_n l : Int) - 1) = 0
  · rw [amS_y n1] at ut
    rw [if_pos n1, ← w1 i rfl n1]
    refine ⟨ut, hL.pl ?_ (fun j j3 => ?_) ?_ (fun r r1 r2 r3 => ?_)⟩
    · rw [s2, if_pos rfl]; unfold upf; rw [if_pos rfl]
    · rw [s2, if_pos rfl]; unfold upf; rw [if_neg j3, zs.ae (by decide) (by decide), z1.ae (by decide) (by decide)]
    · rw [s2, if_neg (by decide), s1, z1.ae (by decide) (by decide)]
    · rw [s2, if_neg (by omega), zs.ae (by omega) (fun y => by have := List.mem_singleton.mp y; omega), z1.ae (by omega) (fun y => by cases y)]
  · rw [amS_n n1] at ut
    rw [if_neg n1]
    exact ut
/-- a turn -/
theorem c219_4 {K : mHeap → Prop} (hx : Tx h B n) (hu : LaU h B n T (.inr i)) (hL : RLn h l) (n8 : ld_n l ≤ 8) (hp : (ld_t l).length < 8) (hK : ∀ h1, RF ldF ldR h h1 → laU h1 B n T (tuR T i l) → K h1) : GoCv (d + 5) 219 [.ref 148, .int (ii ((4 : Nat) : Int))] h K := by
  have a0 := hL.1.1
  have a5 := hL.1.2.2.2.2.2
  rw [e219, b219_0, if_neg (by decide), if_neg (by decide), if_neg (by decide), if_neg (by decide)]
  simp only [(RS.ok hx.1), (RS.fr hx.1), true_and, and_true, true_or, or_true, hx.1.l164, a0, a5]
  rw [show ii (ld_n l : Nat) - ii 1 = ii ((ld_n l : Int) - 1) from ii_sub _ _]
  refine c215 (lo := 0) (hi := (ld_n l : Int) - 1) hx hu ⟨by decide, by decide⟩ ⟨by omega, by omega⟩ (fun h1 v1 z1 u1 b1 w1 => ?_)
  have x1 : Tx h1 B n := hx.z z1 (by decide) (by decide) (by decide)
  simp only [(RS.ok x1.1), (RS.fr x1.1), true_and, and_true, true_or, or_true, x1.1.x173 hp]
  refine ⟨by decide, ?_⟩
  have zs : RF [] [173] h1 (sI h1 173 (ii ((ld_t l).length : Nat)) (ii (v1 : Nat))) := RF.sI
  have s1 : xA (sI h1 173 (ii ((ld_t l).length : Nat)) (ii (v1 : Nat))) 173 = upf (xA h1 173) (ld_t l).length (ii (v1 : Nat)) := (x1.1.s173 hp).trans (if_pos rfl)
  generalize sI h1 173 (ii ((ld_t l).length : Nat)) (ii (v1 : Nat)) = H1 at *
  have xs : Tx H1 B n := x1.z zs (by decide) (by decide) (by decide)
  have us := u1.z zs (by decide) (by decide)
  (try simp only [(RS.ok xs.1), (RS.fr xs.1), true_and, and_true, true_or, or_true])
  refine c215 (lo := 1) (hi := 99) xs us ⟨by decide, by decide⟩ ⟨by decide, by decide⟩ (fun h2 v2 z2 u2 b2 w2 => ?_)
  have x2 : Tx h2 B n := xs.z z2 (by decide) (by decide) (by decide)
  simp only [(RS.ok x2.1), (RS.fr x2.1), true_and, and_true, true_or, or_true, x2.1.x174 hp]
  refine ⟨by decide, ?_⟩
  have zt : RF [] [174] h2 (sI h2 174 (ii ((ld_t l).length : Nat)) (ii (v2 : Nat))) := RF.sI
  have t1 : xA (sI h2 174 (ii ((ld_t l).length : Nat)) (ii (v2 : Nat))) 174 = upf (xA h2 174) (ld_t l).length (ii (v2 : Nat)) := (x2.1.s174 hp).trans (if_pos rfl)
  generalize sI h2 174 (ii ((ld_t l).length : Nat)) (ii (v2 : Nat)) = H2 at *
  have xt : Tx H2 B n := x2.z zt (by decide) (by decide) (by decide)
  have uu := u2.z zt (by decide) (by decide)
  have c5 : xA H2 164 5 = ii ((ld_t l).length : Nat) := by rw [zt.ae (by decide) (by decide), z2.ae (by decide) (by decide), zs.ae (by decide) (by decide), z1.ae (by decide) (by decide)]; exact a5
  simp only [(RS.ok xt.1), (RS.fr xt.1), true_and, and_true, true_or, or_true, xt.1.l164, c5, rV_s]
  refine ⟨by decide, ?_⟩
  rw [show ii ((ld_t l).length : Nat) + ii 1 = ii (((ld_t l).length + 1 : Nat) : Int) from ii_add _ _]
  have s2 : ∀ r, xA (sI H2 164 (ii 5) (ii (((ld_t l).length + 1 : Nat) : Int))) r = if 164 = r then upf (xA H2 164) 5 (ii (((ld_t l).length + 1 : Nat) : Int)) else xA H2 r := fun r => xt.1.s164 (i := 5) (by decide)
  have ut := uu.z (RF.sI (a := 164) (j := ii 5) (w := ii (((ld_t l).length + 1 : Nat) : Int))) (by decide) (by decide)
  refine hK _ ((z1.wd (by decide) (by decide)).tr ((zs.wd (by decide) (by decide)).tr ((z2.wd (by decide) (by decide)).tr ((zt.wd (by decide) (by decide)).tr (RF.sI.wd (by decide) (by decide)))))) ?_
  unfold tuR
  by_cases n1 : nmF T i 0 ((ld_n l : Int) - 1) = 0
  · rw [amS_y n1] at ut w2
    rw [if_pos n1]
    by_cases n2 : nmF T (i + 1) 1 99 = 0
    · rw [amS_y n2] at ut
      rw [if_pos n2, ← w1 i rfl n1, ← w2 (i + 1) rfl n2]
      refine ⟨ut, hL.tu ?_ (fun j j3 => ?_) ?_ ?_ (fun r r1 r2 => ?_)⟩
      · rw [s2, if_pos rfl]; unfold upf; rw [if_pos rfl]
      · rw [s2, if_pos rfl]; unfold upf; rw [if_neg j3, zt.ae (by decide) (by decide), z2.ae (by decide) (by decide), zs.ae (by decide) (by decide), z1.ae (by decide) (by decide)]
      · rw [s2, if_neg (by decide), zt.ae (by decide) (by decide), z2.ae (by decide) (by decide), s1, z1.ae (by decide) (by decide)]
      · rw [s2, if_neg (by decide), t1, z2.ae (by decide) (by decide), zs.ae (by decide) (by decide), z1.ae (by decide) (by decide)]
      · rw [s2, if_neg (by omega), zt.ae (by omega) (fun y => by have := List.mem_singleton.mp y; omega), z2.ae (by omega) (fun y => by cases y), zs.ae (by omega) (fun y => by have := List.mem_singleton.mp y; omega), z1.ae (by omega) (fun y => by cases y)]
    · rw [amS_n n2] at ut
      rw [if_neg n2]
      exact ut
  · rw [amS_n n1] at ut
    rw [if_neg n1]
    exact ut
end Tt
