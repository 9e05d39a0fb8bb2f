/-! THE REFERENCE: a land read -/
def lnR (h : mHeap) (r : Nat ⊕ Ld) : Prop := match r with
  | .inl f => fI h 148 29 = ii (f : Nat) ∧ 0 < f ∧ f < 100000
  | .inr l => fI h 148 29 = ii 0 ∧ RLn h l ∧ LdOk l ∧ 1 ≤ ld_n l
section Tv
variable {d : Nat} {h h1 h2 h3 : mHeap} {B : Bt} {n p q t i k f c a b nth : Nat} {T : List (Nat × Nat)} {F R : List Nat} {l : Ld} {st : Nat ⊕ Nat} {lo hi : Int}
theorem RLn.z (hL : RLn h l) (z : RF F R h h1) (r : ∀ a ∈ ldR, ¬ a ∈ R) : RLn h1 l := by
  have e : ∀ a ∈ ldR, xA h1 a = xA h a := fun a ha => z.ae (by
    have : ∀ a ∈ ldR, ¬ a = 148 := by decide
    exact this a ha) (r a ha)
  obtain ⟨x, b1, c1, d1, f1⟩ := hL
  refine ⟨by rw [e 164 (by decide)]; exact x, fun q hq => ?_, fun k hk => ?_, fun k hk => ?_, fun t ht => ?_⟩
  · rw [e 165 (by decide), e 166 (by decide), e 167 (by decide), e 168 (by decide)]; exact b1 q hq
  · rw [e 169 (by decide)]; exact c1 k hk
  · rw [e 170 (by decide), e 171 (by decide), e 172 (by decide)]; exact d1 k hk
  · rw [e 173 (by decide), e 174 (by decide)]; exact f1 t ht
theorem c220 {K : Int32 → mHeap → Prop} (hR : RS h) (hL : RLn h l) (ok : LdOk l) (hk : k < 5) (hn : nth ≤ 40) (hY : (40 ≤ nth ∨ ¬ (k = 0 ↔ nth = 0) ∨ fulC (301 + lwk k) l) → K (ii 1) h) (hN : ¬ (40 ≤ nth ∨ ¬ (k = 0 ↔ nth = 0) ∨ fulC (301 + lwk k) l) → K (ii 0) h) : GoCi (d + 1) 220 [.ref 148, .int (ii (k : Nat)), .int (ii (nth : Nat))] h K := by
  obtain ⟨⟨a0, a1, a2, a3, a4, a5⟩, _⟩ := hL
  obtain ⟨o1, o2, o3, o4, o5, o6, _⟩ := ok
  rw [e220, b220_0]
  by_cases c0 : nth = 40
  · rw [if_pos (by rw [c0]; rfl)]
    exact ⟨Or.inr rfl, rI_s.mpr (hY (Or.inl (by omega)))⟩
  rw [if_neg (by rw [show ii 40 = ii (40 : Int) from rfl, ii_eq (by omega) (by omega) (by omega) (by omega)]; omega)]
  have lw := (lwk_ok k hk).2
  have ek : ∀ m : Nat, m < 10 → (ii (k : Nat) = ii ((m : Nat) : Int) ↔ k = m) := fun m hm => by
    rw [ii_eq (by omega) (by omega) (by omega) (by omega)]; omega
  have en : ii (nth : Nat) = ii ((0 : Nat) : Int) ↔ nth = 0 := by
    rw [ii_eq (by omega) (by omega) (by omega) (by omega)]; omega
  have e6 : ∀ (x m : Nat), x ≤ 10 → m ≤ 10 → (ii (x : Nat) = ii ((m : Nat) : Int) ↔ x = m) := fun x m h1 h2 => by
    rw [ii_eq (by omega) (by omega) (by omega) (by omega)]; omega
  have ek0 : ii (k : Nat) = ii 0 ↔ k = 0 := ek 0 (by decide)
  have ek1 : ii (k : Nat) = ii 1 ↔ k = 1 := ek 1 (by decide)
  have ek2 : ii (k : Nat) = ii 2 ↔ k = 2 := ek 2 (by decide)
  have ek3 : ii (k : Nat) = ii 3 ↔ k = 3 := ek 3 (by decide)
  have ek4 : ii (k : Nat) = ii 4 ↔ k = 4 := ek 4 (by decide)
  have en0 : ii (nth : Nat) = ii 0 ↔ nth = 0 := en
  have l6 : ∀ x : Nat, x ≤ 10 → (ii (x : Nat) = ii 6 ↔ x = 6) := fun x hx => e6 x 6 hx (by decide)
  have l8 : ∀ x : Nat, x ≤ 10 → (ii (x : Nat) = ii 8 ↔ x = 8) := fun x hx => e6 x 8 hx (by decide)
  have l10 : ∀ x : Nat, x ≤ 10 → (ii (x : Nat) = ii 10 ↔ x = 10) := fun x hx => e6 x 10 hx (by decide)
  have fin : (k = 0 ↔ nth = 0) → (if ii (k : Nat) = ii 1 then (okF h 148 12 16 2 ∧ okA h (fR h 148 16) .int (ii 2) ∧ (if ¬ (eI h (fR h 148 16) (ii 2)) = (ii 6) then (((ii 0) = ii 0 ∨ (ii 0) = ii 1) ∧ rI K (some (.int (ii 0))) h) else (((ii 1) = ii 0 ∨ (ii 1) = ii 1) ∧ rI K (some (.int (ii 1))) h))) else (if ii (k : Nat) = ii 2 then (okF h 148 12 16 2 ∧ okA h (fR h 148 16) .int (ii 3) ∧ (if ¬ (eI h (fR h 148 16) (ii 3)) = (ii 6) then (((ii 0) = ii 0 ∨ (ii 0) = ii 1) ∧ rI K (some (.int (ii 0))) h) else (((ii 1) = ii 0 ∨ (ii 1) = ii 1) ∧ rI K (some (.int (ii 1))) h))) else (if ii (k : Nat) = ii 3 then (okF h 148 12 16 2 ∧ okA h (fR h 148 16) .int (ii 4) ∧ (if ¬ (eI h (fR h 148 16) (ii 4)) = (ii 10) then (((ii 0) = ii 0 ∨ (ii 0) = ii 1) ∧ rI K (some (.int (ii 0))) h) else (((ii 1) = ii 0 ∨ (ii 1) = ii 1) ∧ rI K (some (.int (ii 1))) h))) else (if ii (k : Nat) = ii 4 then (okF h 148 12 16 2 ∧ okA h (fR h 148 16) .int (ii 5) ∧ (if ¬ (eI h (fR h 148 16) (ii 5)) = (ii 8) then (((ii 0) = ii 0 ∨ (ii 0) = ii 1) ∧ rI K (some (.int (ii 0))) h) else (((ii 1) = ii 0 ∨ (ii 1) = ii 1) ∧ rI K (some (.int (ii 1))) h))) else (((ii 0) = ii 0 ∨ (ii 0) = ii 1) ∧ rI K (some (.int (ii 0))) h))))) := fun ci => by
    simp only [(RS.ok hR), (RS.fr hR), true_and, and_true, true_or, or_true, hR.l164, a2, a3, a4, a5, rI_s]
    have no : ¬ fulC (301 + lwk k) l → K (ii 0) h := fun nf => hN (fun y => by
      rcases y with y | y | y
      · omega
      · exact y ci
      · exact nf y)
    have yes : fulC (301 + lwk k) l → K (ii 1) h := fun y => hY (Or.inr (Or.inr y))
    rw [lw] at no yes
    by_cases k1 : k = 1
    · rw [if_pos (ek1.mpr k1)]
      rw [if_neg (by omega), if_pos k1] at no yes
      by_cases g : (ld_q l).length = 6
      · rw [if_neg (fun y => y ((l6 _ (by omega)).mpr g))]
        exact yes (Or.inr (Or.inr (Or.inr ⟨rfl, by omega⟩)))
      · rw [if_pos (fun y => g ((l6 _ (by omega)).mp y))]
        exact no (fun y => by rcases y with y | y | y | y <;> omega)
    rw [if_neg (fun y => k1 (ek1.mp y))]
    rw [if_neg k1] at no yes
    by_cases k2 : k = 2
    · rw [if_pos (ek2.mpr k2)]
      rw [if_neg (by omega), k2] at no yes
      by_cases g : (ld_p l).length = 6
      · rw [if_neg (fun y => y ((l6 _ (by omega)).mpr g))]
        exact yes (Or.inl ⟨rfl, by omega⟩)
      · rw [if_pos (fun y => g ((l6 _ (by omega)).mp y))]
        exact no (fun y => by rcases y with y | y | y | y <;> omega)
    rw [if_neg (fun y => k2 (ek2.mp y))]
    by_cases k3 : k = 3
    · rw [if_pos (ek3.mpr k3)]
      rw [if_neg (by omega), k3] at no yes
      by_cases g : (ld_w l).length = 10
      · rw [if_neg (fun y => y ((l10 _ (by omega)).mpr g))]
        exact yes (Or.inr (Or.inl ⟨rfl, by omega⟩))
      · rw [if_pos (fun y => g ((l10 _ (by omega)).mp y))]
        exact no (fun y => by rcases y with y | y | y | y <;> omega)
    rw [if_neg (fun y => k3 (ek3.mp y))]
    by_cases k4 : k = 4
    · rw [if_pos (ek4.mpr k4)]
      rw [if_neg (by omega), k4] at no yes
      by_cases g : (ld_t l).length = 8
      · rw [if_neg (fun y => y ((l8 _ (by omega)).mpr g))]
        exact yes (Or.inr (Or.inr (Or.inl ⟨rfl, by omega⟩)))
      · rw [if_pos (fun y => g ((l8 _ (by omega)).mp y))]
        exact no (fun y => by rcases y with y | y | y | y <;> omega)
    rw [if_neg (fun y => k4 (ek4.mp y))]
    rw [if_pos (by omega)] at no yes
    exact no (fun y => by rcases y with y | y | y | y <;> omega)
  have bad : ¬ (k = 0 ↔ nth = 0) → K (ii 1) h := fun y => hY (Or.inr (Or.inl y))
  by_cases k0 : k = 0
  · rw [if_neg (fun y => y (ek0.mpr k0)), b220_15]
    by_cases n0 : nth = 0
    · rw [if_neg (fun y => y (en0.mpr n0)), b220_24, if_pos rfl]
      exact fin ⟨fun _ => n0, fun _ => k0⟩
    · rw [if_pos (fun y => n0 (en0.mp y)), b220_24, if_neg (by decide)]
      exact ⟨Or.inr rfl, rI_s.mpr <| bad (fun y => n0 (y.mp k0))⟩
  · rw [if_pos (fun y => k0 (ek0.mp y)), b220_15]
    by_cases n0 : nth = 0
    · rw [if_neg (fun y => y (en0.mpr n0)), b220_24, if_neg (by decide)]
      exact ⟨Or.inr rfl, rI_s.mpr <| bad (fun y => k0 (y.mpr n0))⟩
    · rw [if_pos (fun y => n0 (en0.mp y)), b220_24, if_pos rfl]
      exact fin ⟨fun y => absurd y k0, fun y => absurd y n0⟩
theorem lcS_0 (c : (tk T i).1 < 301 ∨ 305 < (tk T i).1) : lcS T i nth l = .inl (flt T i 0) := if_pos c
theorem lcS_4 (c : ¬ ((tk T i).1 < 301 ∨ 305 < (tk T i).1)) (c2 : 40 ≤ nth ∨ ¬ ((tk T i).1 = 301 ↔ nth = 0) ∨ fulC (tk T i).1 l) : lcS T i nth l = .inl (flt T i 4) := (if_neg c).trans (if_pos c2)
theorem lcS_k (c : ¬ ((tk T i).1 < 301 ∨ 305 < (tk T i).1)) (c2 : ¬ (40 ≤ nth ∨ ¬ ((tk T i).1 = 301 ↔ nth = 0) ∨ fulC (tk T i).1 l)) : lcS T i nth l = if (tk T i).1 = 301 then fcR T (i + 1) l else if (tk T i).1 = 302 then plR T (i + 1) l else if (tk T i).1 = 303 then paR T (i + 1) l else if (tk T i).1 = 304 then tuR T (i + 1) l else peR T (i + 1) l := (if_neg c).trans (if_neg c2)
theorem c221 {K : mHeap → Prop} (hx : Tx h B n) (hu : LaU h B n T (.inr i)) (hL : RLn h l) (ok : LdOk l) (hn : nth ≤ 40) (hK : ∀ h1, RF ldF ldR h h1 → laU h1 B n T (lcS T i nth l) → K h1) : GoCv (d + 7) 221 [.ref 148, .int (ii (nth : Nat))] h K := by
  obtain ⟨⟨p, ep, ha⟩, hf⟩ : (∃ p, fI h 148 28 = ii (p : Nat) ∧ AtT B n T p i) ∧ fI h 148 29 = ii 0 := hu
  have n4 := hx.2.1.2.1
  have hb := hx.2.2
  obtain ⟨bl, pl, le⟩ := ha.bl
  have fe : ∀ c, flt T i c = 1 + 8 * (tk T i).2 + c := fun c => rfl
  rw [e221, b221_0]
  (try simp only [(RS.ok hx.1), (RS.fr hx.1), true_and, and_true, true_or, or_true])
  refine c199 hx.1 hx.2.1 hb ep ha.2 (fun h1 z1 y1 => ?_)
  rw [ha.eh] at y1
  have x1 : Tx h1 B n := hx.z z1 (by decide) (by decide) (by decide)
  have f1 : fI h1 148 29 = ii 0 := by rw [z1.fe (by decide)]; exact hf
  have L1 := hL.z z1 (by decide)
  have bad : ∀ c : Nat, c < 8 → lcS T i nth l = .inl (flt T i c) → GoCv (d + 6) 197 [.ref 148, .int (ii (c : Nat)), .int (ii ((tk T i).2 : Nat))] h1 (fun h6 => rV K none h6) := fun c hc e => by
    refine c197 (f := 0) x1.1 f1 (by decide) (fun h2 z2 y2 => ?_)
    have y2 : fI h2 148 29 = ii ((flt T i c : Nat) : Int) := y2
    rw [rV_s]
    refine hK h2 ((z1.wd (by decide) (by decide)).tr (z2.wd (by decide) (by decide))) ?_
    rw [e]
    exact ⟨y2, by rw [fe]; omega, by rw [fe]; omega, (tk T i).2, le, by rw [z2.fe (by decide)]; exact y1⟩
  simp only [(RS.ok x1.1), (RS.fr x1.1), true_and, and_true, true_or, or_true, y1]
  refine Go_loop (fun j L h' => h' = h1 ∧ (∀ m, m < j → ¬ (tk T i).1 = 301 + lwk m) ∧ L = [some (.ref 148), some (.int (ii (nth : Nat))), some (.int (ii ((tk T i).2 : Nat))), some (.int (ii (j : Nat)))]) 5 ?_ ?_ 0 _ h1 (Nat.zero_le _) ⟨rfl, fun m hm => absurd hm (Nat.not_lt_zero m), rfl⟩
  · rintro j L h' hj ⟨rfl, hm, rfl⟩ nx
    have lw := lwk_ok j hj
    rw [b221_11, if_neg (by rw [show ii 5 = ii ((5 : Nat) : Int) from rfl, ii_le (by omega) (by omega) (by omega) (by omega)]; omega), c216 hj]
    (try simp only [(RS.ok x1.1), (RS.fr x1.1), true_and, and_true, true_or, or_true])
    refine c201w x1.1 x1.2.1 hb y1 le pl lw.1 (fun w => ?_) (fun w => ?_)
    · have rg : 301 ≤ (tk T i).1 ∧ (tk T i).1 ≤ 305 := by
        have := lw.2
        split at this
        · omega
        · split at this <;> omega
      have c0 : ¬ ((tk T i).1 < 301 ∨ 305 < (tk T i).1) := by omega
      have k301 : (tk T i).1 = 301 ↔ j = 0 := by
        have := lw.2
        split at this
        · omega
        · split at this <;> omega
      rw [if_pos (by decide), b221_33]
      (try simp only [(RS.ok x1.1), (RS.fr x1.1), true_and, and_true, true_or, or_true])
      rw [if_pos (by rw [show ii 5 = ii ((5 : Nat) : Int) from rfl, ii_eq (by omega) (by omega) (by omega) (by omega)]; omega)]
      refine c220 x1.1 L1 ok hj hn (fun c => ?_) (fun c => ?_)
      · rw [if_neg (by decide)]
        (try simp only [(RS.ok x1.1), (RS.fr x1.1), true_and, and_true, true_or, or_true])
        rw [← w] at c
        refine bad 4 (by decide) (lcS_4 c0 ?_)
        rw [k301]
        exact c
      · rw [← w] at c
        have el := lcS_k (T := T) (i := i) (nth := nth) (l := l) c0 (by rw [k301]; exact c)
        rw [if_pos rfl]
        (try simp only [(RS.ok x1.1), (RS.fr x1.1), true_and, and_true, true_or, or_true])
        rw [c216 hj]
        have hw := wix_ok (lwk j) lw.1
        have nx2 := ha.nxt (show ¬ (tk T i).1 = 0 by omega)
        have em := (pl_w pl lw.1).2 w
        refine ⟨oC_kd (St_str x1.1.1 hw.1).1, (c319 x1.1.1 hw.1).mpr ?_⟩
        have t28 : tgK (kd h' 148) 28 = some 0 := x1.1.tg.2.1
        rw [y1, hw.2, show ii ((tk T i).2 : Nat) + ii ((wrds.getD (lwk j) []).length : Nat) = ii (((tok B n (tk T i).2).2 : Nat) : Int) by rw [ii_add, em]; rfl]
        have z2 := RF.sF (x := ii (((tok B n (tk T i).2).2 : Nat) : Int)) t28
        have x2 : Tx (sF h' 148 28 (.int (ii (((tok B n (tk T i).2).2 : Nat) : Int)))) B n := x1.z z2.1 (by decide) (by decide) (by decide)
        have L2 := L1.z z2.1 (by decide)
        have f2 : fI (sF h' 148 28 (.int (ii (((tok B n (tk T i).2).2 : Nat) : Int)))) 148 29 = ii 0 := by rw [z2.1.fe (by decide)]; exact f1
        have p2 := z2.2
        simp only [x1.1.op, true_and]
        generalize sF h' 148 28 (.int (ii (((tok B n (tk T i).2).2 : Nat) : Int))) = H2 at *
        (try simp only [(RS.ok x2.1), (RS.fr x2.1), true_and, and_true, true_or, or_true])
        have U2 : LaU H2 B n T (.inr (i + 1)) := ⟨⟨_, p2, nx2.1⟩, f2⟩
        have zz : RF ldF ldR h H2 := (z1.wd (by decide) (by decide)).tr (z2.1.wd (by decide) (by decide))
        obtain ⟨o1, o2, o3, o4, o5, o6, _⟩ := id ok
        have nf : ¬ fulC (tk T i).1 l := fun y => c (Or.inr (Or.inr y))
        have : j = 0 ∨ j = 1 ∨ j = 2 ∨ j = 3 ∨ j = 4 := by omega
        rcases this with g | g | g | g | g <;> subst g
        · have w : (tk T i).1 = 301 := w
          rw [if_pos w] at el
          refine c219_0 x2 U2 L2 (fun h3 z3 u3 => ?_)
          rw [rV_s]
          exact hK h3 (zz.tr z3) (by rw [el]; exact u3)
        · have w : (tk T i).1 = 305 := w
          rw [if_neg (by omega), if_neg (by omega), if_neg (by omega), if_neg (by omega)] at el
          refine c219_1 x2 U2 L2 o1 ?_ (fun h3 z3 u3 => ?_)
          · by_cases y : (ld_q l).length < 6
            · exact y
            · exact absurd (Or.inr (Or.inr (Or.inr ⟨w, by omega⟩))) nf
          rw [rV_s]
          exact hK h3 (zz.tr z3) (by rw [el]; exact u3)
        · have w : (tk T i).1 = 302 := w
          rw [if_neg (by omega), if_pos w] at el
          refine c219_2 x2 U2 L2 o1 ?_ (fun h3 z3 u3 => ?_)
          · by_cases y : (ld_p l).length < 6
            · exact y
            · exact absurd (Or.inl ⟨w, by omega⟩) nf
          rw [rV_s]
          exact hK h3 (zz.tr z3) (by rw [el]; exact u3)
        · have w : (tk T i).1 = 303 := w
          rw [if_neg (by omega), if_neg (by omega), if_pos w] at el
          rw [e219, b219_0, if_neg (by decide), if_neg (by decide), if_neg (by decide), if_pos (by decide)]
          (try simp only [(RS.ok x2.1), (RS.fr x2.1), true_and, and_true, true_or, or_true])
          refine c218 x2 U2 L2 o4 ?_ (fun h3 z3 u3 => ?_)
          · by_cases y : (ld_w l).length < 10
            · exact y
            · exact absurd (Or.inr (Or.inl ⟨w, by omega⟩)) nf
          simp only [rV_s]
          exact hK h3 (zz.tr z3) (by rw [el]; exact u3)
        · have w : (tk T i).1 = 304 := w
          rw [if_neg (by omega), if_neg (by omega), if_neg (by omega), if_pos w] at el
          refine c219_4 x2 U2 L2 o1 ?_ (fun h3 z3 u3 => ?_)
          · by_cases y : (ld_t l).length < 8
            · exact y
            · exact absurd (Or.inr (Or.inr (Or.inl ⟨w, by omega⟩))) nf
          rw [rV_s]
          exact hK h3 (zz.tr z3) (by rw [el]; exact u3)
    · rw [if_neg (fun y => y rfl), show ii (j : Nat) + ii 1 = ii ((j + 1 : Nat) : Int) from ii_add _ _]
      refine nx _ _ ⟨rfl, fun m m1 => ?_, rfl⟩
      by_cases c2 : m = j
      · rw [c2]; exact w
      · exact hm m (by omega)
  · rintro L h' ⟨rfl, hm, rfl⟩
    have q0 : ¬ (tk T i).1 = 301 := hm 0 (by decide)
    have q1 : ¬ (tk T i).1 = 305 := hm 1 (by decide)
    have q2 : ¬ (tk T i).1 = 302 := hm 2 (by decide)
    have q3 : ¬ (tk T i).1 = 303 := hm 3 (by decide)
    have q4 : ¬ (tk T i).1 = 304 := hm 4 (by decide)
    rw [b221_11, if_pos (show ii 5 ≤ ii ((5 : Nat) : Int) by decide), b221_33]
    (try simp only [(RS.ok x1.1), (RS.fr x1.1), true_and, and_true, true_or, or_true])
    rw [if_neg (fun y => y (by decide))]
    exact bad 0 (by decide) (lcS_0 (by omega))
theorem laL_1 {g : Nat} (e : lcS T i nth l = .inl f) : laL T (g + 1) i nth l = .inl f := by
  show (match lcS T i nth l with | .inl f => _ | .inr (i1, l1) => _) = _
  rw [e]
theorem laL_2 {g i1 : Nat} {l1 : Ld} (e : lcS T i nth l = .inr (i1, l1)) : laL T (g + 1) i nth l = if (tk T i1).1 = 60 then laL T g (i1 + 1) (nth + 1) l1 else if (tk T i1).1 = 0 then .inr l1 else .inl (flt T i1 0) := by
  show (match lcS T i nth l with | .inl f => _ | .inr (i1, l1) => _) = _
  rw [e]
theorem c225_L {K : mHeap → Prop} : ∀ g {i nth : Nat} {l : Ld} {h : mHeap}, T.length ≤ g + i → Tx h B n → LaU h B n T (.inr i) → RLn h l → LdOk l → (nth = 0 → l = ld0) → (¬ nth = 0 → 1 ≤ ld_n l) → nth ≤ 40 → (∀ h1 x, RF ldF ldR h h1 → lnR h1 (laL T g i nth l) → Go (d + 7) 225 29 [some (.ref 148), some (.int x), some (.int (ii 0))] [] h1 (rV K)) → Go (d + 7) 225 29 [some (.ref 148), some (.int (ii (nth : Nat))), some (.int (ii 1))] [] h (rV K) := by
  intro g
  induction g with
  | zero =>
    intro i nth l h hg hx hu hL ok h0 hn n40 hK
    obtain ⟨⟨p, ep, ha⟩, hf⟩ : (∃ p, fI h 148 28 = ii (p : Nat) ∧ AtT B n T p i) ∧ fI h 148 29 = ii 0 := hu
    have := ha.lt
    omega
  | succ g ih =>
    intro i nth l h hg hx hu hL ok h0 hn n40 hK
    have ec : ii (nth : Nat) + ii 1 = ii ((nth + 1 : Nat) : Int) := ii_add _ _
    rw [b225_29, if_neg (by decide)]
    (try simp only [(RS.ok hx.1), (RS.fr hx.1), true_and, and_true, true_or, or_true])
    refine c221 hx hu hL ok n40 (fun h1 z1 u1 => ?_)
    have x1 : Tx h1 B n := hx.z z1 (by decide) (by decide) (by decide)
    (try simp only [(RS.ok x1.1), (RS.fr x1.1), true_and, and_true, true_or, or_true])
    cases e : lcS T i nth l with
    | inl f =>
      rw [e] at u1
      have u1 : Pd h1 n f := u1
      refine c223d x1.1 x1.2.1 x1.2.2 u1.e (fun h2 z2 => ?_)
      refine hK h2 _ (z1.tr (z2.wd (by decide) (by decide))) ?_
      rw [laL_1 e]
      exact ⟨by rw [z2.fe (by decide)]; exact u1.1, u1.2.1, u1.2.2.1⟩
    | inr r =>
      obtain ⟨i1, l1⟩ := r
      rw [e] at u1
      obtain ⟨⟨⟨p1, ep1, a1⟩, f1⟩, L1⟩ : ((∃ p, fI h1 148 28 = ii (p : Nat) ∧ AtT B n T p i1) ∧ fI h1 148 29 = ii 0) ∧ RLn h1 l1 := u1
      have lo := lcS_ok ok h0 hn e
      have n39 : nth < 40 := by
        by_cases c : nth < 40
        · exact c
        · exfalso
          by_cases c0 : (tk T i).1 < 301 ∨ 305 < (tk T i).1
          · rw [lcS_0 c0] at e; cases e
          · rw [lcS_4 c0 (Or.inl (by omega))] at e; cases e
      have el := laL_2 (g := g) e
      rw [el] at hK
      refine c223 x1.1 x1.2.1 x1.2.2 ep1 f1 a1 (fun c0 h2 z2 => ?_) (fun c0 h2 z2 y2 a2 => ?_) (fun c0 c1 h2 z2 y2 g5 => ?_)
      · rw [if_neg (by omega), if_pos c0] at hK
        exact hK h2 _ (z1.tr (z2.wd (by decide) (by decide))) ⟨by rw [z2.fe (by decide)]; exact f1, L1.z z2 (by decide), lo.1, lo.2.2⟩
      · rw [if_pos c0] at hK
        rw [ec]
        refine ih (by omega) (x1.z z2 (by decide) (by decide) (by decide)) ⟨⟨_, y2, a2⟩, by rw [z2.fe (by decide)]; exact f1⟩ (L1.z z2 (by decide)) lo.1 (fun y => by omega) (fun _ => lo.2.2) (by omega) (fun h3 x z3 r3 => hK h3 x (z1.tr ((z2.wd (by decide) (by decide)).tr z3)) r3)
      · rw [if_neg c1, if_neg c0] at hK
        exact hK h2 _ (z1.tr (z2.wd (by decide) (by decide))) ⟨y2, by unfold flt; omega, g5⟩
end Tv
