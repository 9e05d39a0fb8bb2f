/-! THE REFERENCE: a land's clauses -/
section Tu
variable {d : Nat} {h h1 h2 h3 : mHeap} {B : Bt} {n p q t i k f c a b : Nat} {T : List (Nat × Nat)} {F R : List Nat} {l : Ld} {st : Nat ⊕ Nat} {lo hi : Int}
theorem amS_d : amS T (.inl f) lo hi = .inl f := rfl
/-- a person -/
theorem c219_1 {K : mHeap → Prop} (hx : Tx h B n) (hu : LaU h B n T (.inr i)) (hL : RLn h l) (n8 : ld_n l ≤ 8) (hp : (ld_q l).length < 6) (hK : ∀ h1, RF ldF ldR h h1 → laU h1 B n T (peR T i l) → K h1) : GoCv (d + 5) 219 [.ref 148, .int (ii ((1 : Nat) : Int))] h K := by
  have a0 := hL.1.1
  have a2 := hL.1.2.2.1
  rw [e219, b219_0, if_neg (by decide), if_pos (by decide)]
  simp only [(RS.ok hx.1), (RS.fr hx.1), true_and, and_true, true_or, or_true, hx.1.l164, a2]
  refine c215 (lo := 0) (hi := 1) hx hu ⟨by decide, by decide⟩ ⟨by decide, by decide⟩ (fun h1 v1 z1 u1 b1 w1 => ?_)
  have x1 : Tx h1 B n := hx.z z1 (by decide) (by decide) (by decide)
  simp only [(RS.ok x1.1), (RS.fr x1.1), true_and, and_true, true_or, or_true, x1.1.x165 hp]
  refine ⟨by decide, ?_⟩
  have zs : RF [] [165] h1 (sI h1 165 (ii ((ld_q l).length : Nat)) (ii (v1 : Nat))) := RF.sI
  have s1 : xA (sI h1 165 (ii ((ld_q l).length : Nat)) (ii (v1 : Nat))) 165 = upf (xA h1 165) (ld_q l).length (ii (v1 : Nat)) := (x1.1.s165 hp).trans (if_pos rfl)
  generalize sI h1 165 (ii ((ld_q l).length : Nat)) (ii (v1 : Nat)) = H1 at *
  have xs : Tx H1 B n := x1.z zs (by decide) (by decide) (by decide)
  (try simp only [(RS.ok xs.1), (RS.fr xs.1), true_and, and_true, true_or, or_true])
  refine c215 (lo := 1) (hi := 128) xs (u1.z zs (by decide) (by decide)) ⟨by decide, by decide⟩ ⟨by decide, by decide⟩ (fun h2 v2 z2 u2 b2 w2 => ?_)
  have x2 : Tx h2 B n := xs.z z2 (by decide) (by decide) (by decide)
  simp only [(RS.ok x2.1), (RS.fr x2.1), true_and, and_true, true_or, or_true, x2.1.x166 hp]
  refine ⟨by decide, ?_⟩
  have zt : RF [] [166] h2 (sI h2 166 (ii ((ld_q l).length : Nat)) (ii (v2 : Nat))) := RF.sI
  have t1 : xA (sI h2 166 (ii ((ld_q l).length : Nat)) (ii (v2 : Nat))) 166 = upf (xA h2 166) (ld_q l).length (ii (v2 : Nat)) := (x2.1.s166 hp).trans (if_pos rfl)
  generalize sI h2 166 (ii ((ld_q l).length : Nat)) (ii (v2 : Nat)) = H2 at *
  have xt : Tx H2 B n := x2.z zt (by decide) (by decide) (by decide)
  have zz2 : RF ldF [165, 166] h H2 := (z1.wd (by decide) (by decide)).tr ((zs.wd (by decide) (by decide)).tr ((z2.wd (by decide) (by decide)).tr (zt.wd (by decide) (by decide))))
  (try simp only [(RS.ok xt.1), (RS.fr xt.1), true_and, and_true, true_or, or_true])
  rw [c217 xt.1 (k := ld_n l) (by rw [zz2.ae (by decide) (by decide)]; exact a0) (by omega)]
  (try simp only [(RS.ok xt.1), (RS.fr xt.1), true_and, and_true, true_or, or_true])
  refine c215 (lo := 0) (hi := ((2 ^ ld_n l : Nat) : Int) - 1) xt (u2.z zt (by decide) (by decide)) ⟨by decide, by decide⟩ (pow8i n8) (fun h3 v3 z3 u3 b3 w3 => ?_)
  have x3 : Tx h3 B n := xt.z z3 (by decide) (by decide) (by decide)
  simp only [(RS.ok x3.1), (RS.fr x3.1), true_and, and_true, true_or, or_true, x3.1.x167 hp]
  refine ⟨by decide, ?_⟩
  have zv : RF [] [167] h3 (sI h3 167 (ii ((ld_q l).length : Nat)) (ii (v3 : Nat))) := RF.sI
  have v1' : xA (sI h3 167 (ii ((ld_q l).length : Nat)) (ii (v3 : Nat))) 167 = upf (xA h3 167) (ld_q l).length (ii (v3 : Nat)) := (x3.1.s167 hp).trans (if_pos rfl)
  generalize sI h3 167 (ii ((ld_q l).length : Nat)) (ii (v3 : Nat)) = H3 at *
  have xv : Tx H3 B n := x3.z zv (by decide) (by decide) (by decide)
  (try simp only [(RS.ok xv.1), (RS.fr xv.1), true_and, and_true, true_or, or_true])
  refine c215 (lo := 0) (hi := 99) xv (u3.z zv (by decide) (by decide)) ⟨by decide, by decide⟩ ⟨by decide, by decide⟩ (fun h4 v4 z4 u4 b4 w4 => ?_)
  have x4 : Tx h4 B n := xv.z z4 (by decide) (by decide) (by decide)
  simp only [(RS.ok x4.1), (RS.fr x4.1), true_and, and_true, true_or, or_true, x4.1.x168 hp]
  refine ⟨by decide, ?_⟩
  have zw : RF [] [168] h4 (sI h4 168 (ii ((ld_q l).length : Nat)) (ii (v4 : Nat))) := RF.sI
  have w1' : xA (sI h4 168 (ii ((ld_q l).length : Nat)) (ii (v4 : Nat))) 168 = upf (xA h4 168) (ld_q l).length (ii (v4 : Nat)) := (x4.1.s168 hp).trans (if_pos rfl)
  generalize sI h4 168 (ii ((ld_q l).length : Nat)) (ii (v4 : Nat)) = H4 at *
  have xw : Tx H4 B n := x4.z zw (by decide) (by decide) (by decide)
  have zz4 : RF ldF [165, 166, 167, 168] h H4 := (zz2.wd (by decide) (by decide)).tr ((z3.wd (by decide) (by decide)).tr ((zv.wd (by decide) (by decide)).tr ((z4.wd (by decide) (by decide)).tr (zw.wd (by decide) (by decide)))))
  have c2 : xA H4 164 2 = ii ((ld_q l).length : Nat) := by rw [zz4.ae (by decide) (by decide)]; exact a2
  simp only [(RS.ok xw.1), (RS.fr xw.1), true_and, and_true, true_or, or_true, xw.1.l164, c2, rV_s]
  refine ⟨by decide, ?_⟩
  rw [show ii ((ld_q l).length : Nat) + ii 1 = ii (((ld_q l).length + 1 : Nat) : Int) from ii_add _ _]
  have s2 : ∀ r, xA (sI H4 164 (ii 2) (ii (((ld_q l).length + 1 : Nat) : Int))) r = if 164 = r then upf (xA H4 164) 2 (ii (((ld_q l).length + 1 : Nat) : Int)) else xA H4 r := fun r => xw.1.s164 (i := 2) (by decide)
  have ut := (u4.z zw (by decide) (by decide)).z (RF.sI (a := 164) (j := ii 2) (w := ii (((ld_q l).length + 1 : Nat) : Int))) (by decide) (by decide)
  refine hK _ ((zz4.wd (by decide) (by decide)).tr (RF.sI.wd (by decide) (by decide))) ?_
  unfold peR
  by_cases n1 : nmF T i 0 1 = 0
  rotate_left
  · rw [amS_n n1, amS_d, amS_d, amS_d] at ut
    rw [if_neg n1]
    exact ut
  rw [amS_y n1] at ut w2 w3 w4
  rw [if_pos n1]
  by_cases n2 : nmF T (i + 1) 1 128 = 0
  rotate_left
  · rw [amS_n n2, amS_d, amS_d] at ut
    rw [if_neg n2]
    exact ut
  rw [amS_y n2] at ut w3 w4
  rw [if_pos n2]
  by_cases n3 : nmF T (i + 1 + 1) 0 (((2 ^ ld_n l : Nat) : Int) - 1) = 0
  rotate_left
  · rw [amS_n n3, amS_d] at ut
    rw [if_neg n3]
    exact ut
  rw [amS_y n3] at ut w4
  rw [if_pos n3]
  by_cases n4 : nmF T (i + 1 + 1 + 1) 0 99 = 0
  rotate_left
  · rw [amS_n n4] at ut
    rw [if_neg n4]
    exact ut
  rw [amS_y n4] at ut
  rw [if_pos n4, ← w1 i rfl n1, ← w2 (i + 1) rfl n2, ← w3 (i + 1 + 1) rfl n3, ← w4 (i + 1 + 1 + 1) rfl n4]
  have o : ∀ {r : Nat} {G G1 : mHeap}, ¬ r = 148 → RF ldF [] G G1 → xA G1 r = xA G r := fun hr z => z.ae hr (fun y => by cases y)
  refine ⟨ut, hL.pe ?_ (fun j j3 => ?_) ?_ ?_ ?_ ?_ (fun r r1 r2 => ?_)⟩
  · rw [s2, if_pos rfl]; unfold upf; rw [if_pos rfl]
  · rw [s2, if_pos rfl]; unfold upf; rw [if_neg j3, zz4.ae (by decide) (by decide)]
  · rw [s2, if_neg (by decide), zw.ae (by decide) (by decide), o (by decide) z4, zv.ae (by decide) (by decide), o (by decide) z3, zt.ae (by decide) (by decide), o (by decide) z2, s1, o (by decide) z1]
  · rw [s2, if_neg (by decide), zw.ae (by decide) (by decide), o (by decide) z4, zv.ae (by decide) (by decide), o (by decide) z3, t1, o (by decide) z2, zs.ae (by decide) (by decide), o (by decide) z1]
  · rw [s2, if_neg (by decide), zw.ae (by decide) (by decide), o (by decide) z4, v1', o (by decide) z3, zt.ae (by decide) (by decide), o (by decide) z2, zs.ae (by decide) (by decide), o (by decide) z1]
  · rw [s2, if_neg (by decide), w1', o (by decide) z4, zv.ae (by decide) (by decide), o (by decide) z3, zt.ae (by decide) (by decide), o (by decide) z2, zs.ae (by decide) (by decide), o (by decide) z1]
  · rw [s2, if_neg (by omega), zz4.ae (by omega) (fun y => by
      have : r = 165 ∨ r = 166 ∨ r = 167 ∨ r = 168 := by
        rcases List.mem_cons.mp y with g | g
        · omega
        · rcases List.mem_cons.mp g with g | g
          · omega
          · rcases List.mem_cons.mp g with g | g
            · omega
            · have := List.mem_singleton.mp g; omega
      omega)]
/-- blanks, before a fault or after it -/
theorem c199u {K : mHeap → Prop} (hx : Tx h B n) (hu : LaU h B n T st) (hK : ∀ h1 p, RF [28] [] h h1 → LaU h1 B n T st → fI h1 148 28 = ii (p : Nat) → (∀ i, st = .inr i → p = (tk T i).2) → K h1) : GoCv (d + 2) 199 [.ref 148] h K := by
  cases st with
  | inl f =>
    obtain ⟨a, f0, f5, p, g, ep⟩ : Pd h n f := hu
    exact c199 hx.1 hx.2.1 hx.2.2 ep g (fun h1 z1 y1 => hK h1 _ z1 ⟨by rw [z1.fe (by decide)]; exact a, f0, f5, _, (hd_le (B := B) g).2, y1⟩ y1 (fun i e => by cases e))
  | inr i =>
    obtain ⟨⟨p, ep, ha⟩, hf⟩ : (∃ p, fI h 148 28 = ii (p : Nat) ∧ AtT B n T p i) ∧ fI h 148 29 = ii 0 := hu
    refine c199 hx.1 hx.2.1 hx.2.2 ep ha.2 (fun h1 z1 y1 => ?_)
    rw [ha.eh] at y1
    exact hK h1 _ z1 ⟨⟨_, y1, ha.bl.1⟩, by rw [z1.fe (by decide)]; exact hf⟩ y1 (fun i' e => by cases e; rfl)
theorem c218_82 {K : mHeap → Prop} {l2 : Option Value} (hx : Tx h B n) (hu : LaU h B n T st) (hw : xA h 164 4 = ii (k : Nat)) (hk : k < 10) (hK : ∀ h1 v, RF ldF [164, 172] h h1 → LaU h1 B n T (amS T st 1 9) → (∀ i, st = .inr i → nmF T i 1 9 = 0 → v = nmV T i) → xA h1 172 = upf (xA h 172) k (ii (v : Nat)) → xA h1 164 = upf (xA h 164) 4 (ii ((k + 1 : Nat) : Int)) → K h1) : Go (d + 4) 218 82 [some (.ref 148), some (.int (ii (k : Nat))), l2] [] h (rV K) := by
  rw [b218_82]
  (try simp only [(RS.ok hx.1), (RS.fr hx.1), true_and, and_true, true_or, or_true])
  refine c215 (lo := 1) (hi := 9) hx hu ⟨by decide, by decide⟩ ⟨by decide, by decide⟩ (fun h1 v1 z1 u1 b1 w1 => ?_)
  have x1 : Tx h1 B n := hx.z z1 (by decide) (by decide) (by decide)
  simp only [(RS.ok x1.1), (RS.fr x1.1), true_and, and_true, true_or, or_true, x1.1.x172 hk]
  refine ⟨by decide, ?_⟩
  have zs : RF [] [172] h1 (sI h1 172 (ii (k : Nat)) (ii (v1 : Nat))) := RF.sI
  have s1 : xA (sI h1 172 (ii (k : Nat)) (ii (v1 : Nat))) 172 = upf (xA h1 172) k (ii (v1 : Nat)) := (x1.1.s172 hk).trans (if_pos rfl)
  generalize sI h1 172 (ii (k : Nat)) (ii (v1 : Nat)) = H1 at *
  have xs : Tx H1 B n := x1.z zs (by decide) (by decide) (by decide)
  have c4 : xA H1 164 4 = ii (k : Nat) := by rw [zs.ae (by decide) (by decide), z1.ae (by decide) (by decide)]; exact hw
  have s2 : ∀ r, xA (sI H1 164 (ii 4) (ii ((k + 1 : Nat) : Int))) r = if 164 = r then upf (xA H1 164) 4 (ii ((k + 1 : Nat) : Int)) else xA H1 r := fun r => xs.1.s164 (i := 4) (by decide)
  simp only [(RS.ok xs.1), (RS.fr xs.1), true_and, and_true, true_or, or_true, xs.1.l164, c4, rV_s]
  refine ⟨by decide, ?_⟩
  rw [show ii (k : Nat) + ii 1 = ii ((k + 1 : Nat) : Int) from ii_add _ _]
  refine hK _ v1 ((z1.wd (by decide) (by decide)).tr ((zs.wd (by decide) (by decide)).tr (RF.sI.wd (by decide) (by decide)))) ((u1.z zs (by decide) (by decide)).z RF.sI (by decide) (by decide)) w1 ?_ ?_
  · rw [s2, if_neg (by decide), s1, z1.ae (by decide) (by decide)]
  · rw [s2, if_pos rfl, zs.ae (by decide) (by decide), z1.ae (by decide) (by decide)]
/-- a path -/
theorem c218 {K : mHeap → Prop} (hx : Tx h B n) (hu : LaU h B n T (.inr i)) (hL : RLn h l) (p6 : (ld_p l).length ≤ 6) (hw : (ld_w l).length < 10) (hK : ∀ h1, RF ldF ldR h h1 → laU h1 B n T (paR T i l) → K h1) : GoCv (d + 5) 218 [.ref 148] h K := by
  have a3 := hL.1.2.2.2.1
  have a4 := hL.1.2.2.2.2.1
  have em1 : ii ((ld_p l).length : Nat) - ii 1 = ii (((ld_p l).length : Int) - 1) := ii_sub _ _
  have hiP : i32 (((ld_p l).length : Int) - 1) := ⟨by omega, by omega⟩
  have lo0 : i32 0 := ⟨by decide, by decide⟩
  rw [e218, b218_0]
  simp only [(RS.ok hx.1), (RS.fr hx.1), true_and, and_true, true_or, or_true, hx.1.l164, a3, a4, em1]
  refine c215 (lo := 0) hx hu lo0 hiP (fun h1 v1 z1 u1 b1 w1 => ?_)
  have x1 : Tx h1 B n := hx.z z1 (by decide) (by decide) (by decide)
  simp only [(RS.ok x1.1), (RS.fr x1.1), true_and, and_true, true_or, or_true, x1.1.x170 hw]
  refine ⟨by decide, ?_⟩
  have zs : RF [] [170] h1 (sI h1 170 (ii ((ld_w l).length : Nat)) (ii (v1 : Nat))) := RF.sI
  have s1 : xA (sI h1 170 (ii ((ld_w l).length : Nat)) (ii (v1 : Nat))) 170 = upf (xA h1 170) (ld_w l).length (ii (v1 : Nat)) := (x1.1.s170 hw).trans (if_pos rfl)
  generalize sI h1 170 (ii ((ld_w l).length : Nat)) (ii (v1 : Nat)) = H1 at *
  have xs : Tx H1 B n := x1.z zs (by decide) (by decide) (by decide)
  (try simp only [(RS.ok xs.1), (RS.fr xs.1), true_and, and_true, true_or, or_true])
  refine c199u xs (u1.z zs (by decide) (by decide)) (fun h2 bp z2 u2 y2 g2 => ?_)
  have x2 : Tx h2 B n := xs.z z2 (by decide) (by decide) (by decide)
  have zz2 : RF ldF [170] h h2 := (z1.wd (by decide) (by decide)).tr ((zs.wd (by decide) (by decide)).tr (z2.wd (by decide) (by decide)))
  have c3 : xA h2 164 3 = ii ((ld_p l).length : Nat) := by rw [zz2.ae (by decide) (by decide)]; exact a3
  simp only [(RS.ok x2.1), (RS.fr x2.1), true_and, and_true, true_or, or_true, x2.1.l164, c3, em1, y2]
  refine c215 (lo := 0) x2 u2 lo0 hiP (fun h3 v2 z3 u3 b3 w3 => ?_)
  have x3 : Tx h3 B n := x2.z z3 (by decide) (by decide) (by decide)
  simp only [(RS.ok x3.1), (RS.fr x3.1), true_and, and_true, true_or, or_true, x3.1.x171 hw]
  refine ⟨by decide, ?_⟩
  have zt : RF [] [171] h3 (sI h3 171 (ii ((ld_w l).length : Nat)) (ii (v2 : Nat))) := RF.sI
  have t1 : xA (sI h3 171 (ii ((ld_w l).length : Nat)) (ii (v2 : Nat))) 171 = upf (xA h3 171) (ld_w l).length (ii (v2 : Nat)) := (x3.1.s171 hw).trans (if_pos rfl)
  generalize sI h3 171 (ii ((ld_w l).length : Nat)) (ii (v2 : Nat)) = H3 at *
  have xt : Tx H3 B n := x3.z zt (by decide) (by decide) (by decide)
  have u4 := u3.z zt (by decide) (by decide)
  have zz3 : RF ldF [170, 171] h H3 := (zz2.wd (by decide) (by decide)).tr ((z3.wd (by decide) (by decide)).tr (zt.wd (by decide) (by decide)))
  have c4 : xA H3 164 4 = ii ((ld_w l).length : Nat) := by rw [zz3.ae (by decide) (by decide)]; exact a4
  have d170 : xA H3 170 = upf (xA h 170) (ld_w l).length (ii (v1 : Nat)) := by rw [zt.ae (by decide) (by decide), z3.ae (by decide) (by decide), z2.ae (by decide) (by decide), s1, z1.ae (by decide) (by decide)]
  have d171 : xA H3 171 = upf (xA h 171) (ld_w l).length (ii (v2 : Nat)) := by rw [t1, z3.ae (by decide) (by decide), zz2.ae (by decide) (by decide)]
  (try simp only [(RS.ok xt.1), (RS.fr xt.1), true_and, and_true, true_or, or_true])
  have ep : paR T i l = if nmF T i 0 (((ld_p l).length : Int) - 1) = 0 then (if (tk T (i + 1)).1 = 1001 + nmV T i then .inl (flt T (i + 1) 1) else if nmF T (i + 1) 0 (((ld_p l).length : Int) - 1) = 0 then (if nmF T (i + 1 + 1) 1 9 = 0 then .inr (i + 1 + 1 + 1, (ld_n l, ld_so l, ld_q l, ld_p l, ld_w l ++ [(nmV T i, nmV T (i + 1), nmV T (i + 1 + 1))], ld_t l)) else .inl (nmF T (i + 1 + 1) 1 9)) else .inl (nmF T (i + 1) 0 (((ld_p l).length : Int) - 1))) else .inl (nmF T i 0 (((ld_p l).length : Int) - 1)) := rfl
  have fin : ∀ (H : mHeap) (f : Nat) (l2 : Option Value), RF [29] [] H3 H → Pd H n f → paR T i l = .inl f → Go (d + 4) 218 82 [some (.ref 148), some (.int (ii ((ld_w l).length : Nat))), l2] [] H (rV K) := fun H f l2 z dd e => by
    have xH : Tx H B n := xt.z z (by decide) (by decide) (by decide)
    refine c218_82 (T := T) (st := .inl f) xH dd (by rw [z.ae (by decide) (by decide)]; exact c4) hw (fun h5 v3 z5 u5 _ _ _ => hK h5 ((zz3.wd (by decide) (by decide)).tr ((z.wd (by decide) (by decide)).tr (z5.wd (by decide) (by decide)))) ?_)
    rw [e]
    exact u5
  by_cases n1 : nmF T i 0 (((ld_p l).length : Int) - 1) = 0
  rotate_left
  · rw [if_neg n1] at ep
    rw [amS_n n1, amS_d] at u4
    have u4 : Pd H3 n (nmF T i 0 (((ld_p l).length : Int) - 1)) := u4
    rw [u4.1, if_pos u4.ne]
    exact fin H3 _ _ RF.rf u4 ep
  rw [if_pos n1] at ep
  rw [amS_y n1] at u4 w3 g2
  have ev1 := w1 i rfl n1
  have r1 := nm_ok n1
  have bp' := g2 (i + 1) rfl
  have en : nmF T (i + 1) 0 (((ld_p l).length : Int) - 1) = if (tk T (i + 1)).1 < 1001 then flt T (i + 1) 0 else if (tk T (i + 1)).1 = 101001 ∨ ((tk T (i + 1)).1 : Int) - 1001 < 0 ∨ (((ld_p l).length : Int) - 1) < ((tk T (i + 1)).1 : Int) - 1001 then flt T (i + 1) 1 else 0 := rfl
  have ev : nmV T (i + 1) = (tk T (i + 1)).1 - 1001 := rfl
  by_cases n2 : nmF T (i + 1) 0 (((ld_p l).length : Int) - 1) = 0
  rotate_left
  · have ne : ¬ (tk T (i + 1)).1 = 1001 + nmV T i := fun y => by
      rw [if_neg (by omega), if_neg (by omega)] at en
      exact n2 en
    rw [if_neg ne, if_neg n2] at ep
    rw [amS_n n2] at u4
    have u4 : Pd H3 n (nmF T (i + 1) 0 (((ld_p l).length : Int) - 1)) := u4
    rw [u4.1, if_pos u4.ne]
    exact fin H3 _ _ RF.rf u4 ep
  rw [amS_y n2] at u4
  have ev2 := w3 (i + 1) rfl n2
  have r2 := nm_ok n2
  have t1001 : 1001 ≤ (tk T (i + 1)).1 := by
    by_cases g : (tk T (i + 1)).1 < 1001
    · rw [if_pos g] at en
      rw [en] at n2
      exact absurd n2 flt_n0
    · omega
  have f4 : fI H3 148 29 = ii 0 := u4.2
  have g170 : eI H3 170 (ii ((ld_w l).length : Nat)) = ii (v1 : Nat) := by rw [(xt.1.x170 hw).2, d170]; unfold upf; rw [if_pos rfl]
  have g171 : eI H3 171 (ii ((ld_w l).length : Nat)) = ii (v2 : Nat) := by rw [(xt.1.x171 hw).2, d171]; unfold upf; rw [if_pos rfl]
  rw [f4, if_neg (fun y => y rfl)]
  simp only [g170, g171, (xt.1.x170 hw).1, (xt.1.x171 hw).1, true_and]
  by_cases c : v2 = v1
  · rw [if_pos (show (tk T (i + 1)).1 = 1001 + nmV T i by omega)] at ep
    rw [if_neg (by rw [c]; exact fun y => y rfl)]
    rw [show GoCv (d + 4) 197 [.ref 148, .int (ii 1), .int (ii (bp : Nat))] H3 _ = GoCv (d + 4) 197 [.ref 148, .int (ii ((1 : Nat) : Int)), .int (ii (bp : Nat))] H3 _ from rfl]
    refine c197 (f := 0) xt.1 f4 (by decide) (fun h5 z5 y5 => ?_)
    have y5 : fI h5 148 29 = ii ((1 + 8 * bp + 1 : Nat) : Int) := y5
    rw [bp'] at y5
    obtain ⟨⟨p', hp', a'⟩, _⟩ : (∃ p, fI H3 148 28 = ii (p : Nat) ∧ AtT B n T p (i + 1 + 1)) ∧ fI H3 148 29 = ii 0 := u4
    have n4 := hx.2.1.2.1
    have le1 : (tk T (i + 1)).2 ≤ n := by
      obtain ⟨⟨p2, _, a2⟩, _⟩ : (∃ p, fI h2 148 28 = ii (p : Nat) ∧ AtT B n T p (i + 1)) ∧ fI h2 148 29 = ii 0 := by
        rw [amS_y n1] at u2
        exact u2
      exact a2.bl.2.2
    have fe : flt T (i + 1) 1 = 1 + 8 * (tk T (i + 1)).2 + 1 := rfl
    refine fin h5 (flt T (i + 1) 1) _ z5 ⟨y5, by rw [fe]; omega, by rw [fe]; omega, p', a'.2, by rw [z5.fe (by decide)]; exact hp'⟩ ep
  · rw [if_neg (show ¬ (tk T (i + 1)).1 = 1001 + nmV T i by omega), if_pos n2] at ep
    rw [if_pos (by rw [ii_eq (by omega) (by omega) (by omega) (by omega)]; omega)]
    refine c218_82 xt u4 c4 hw (fun h5 v3 z5 u5 w5 q1 q2 => hK h5 ((zz3.wd (by decide) (by decide)).tr (z5.wd (by decide) (by decide))) ?_)
    rw [ep]
    by_cases n3 : nmF T (i + 1 + 1) 1 9 = 0
    · rw [amS_y n3] at u5
      rw [if_pos n3, ← ev1, ← ev2, ← w5 (i + 1 + 1) rfl n3]
      refine ⟨u5, hL.pa ?_ (fun j j3 => ?_) ?_ ?_ ?_ (fun r r1 r2 r3 => ?_)⟩
      · rw [q2]; unfold upf; rw [if_pos rfl]
      · rw [q2]; unfold upf; rw [if_neg j3, zz3.ae (by decide) (by decide)]
      · rw [z5.ae (by decide) (by decide)]; exact d170
      · rw [z5.ae (by decide) (by decide)]; exact d171
      · rw [q1, zz3.ae (by decide) (by decide)]
      · rw [z5.ae (by omega) (fun y => by
          rcases List.mem_cons.mp y with g | g
          · omega
          · have := List.mem_singleton.mp g; omega), zz3.ae (by omega) (fun y => by
          rcases List.mem_cons.mp y with g | g
          · omega
          · have := List.mem_singleton.mp g; omega)]
    · rw [amS_n n3] at u5
      rw [if_neg n3]
      exact u5
end Tu
