/-! DAYS: what a rule is told -/
def FrT (T : Nat → Prop) (h h1 : mHeap) : Prop := Sk h h1 ∧ h1.length = h.length ∧ mSlots h1 = mSlots h ∧ ∀ a, ¬ T a → h1[a]? = h[a]?
def DyQ (h : mHeap) (la : Nat) (l : Ld) : Prop := kd h 136 = (4, 1, [100, 72, 140, 141, 0, 0, 0]) ∧ kd h 137 = (2, 0, [10]) ∧ MoS h 138 ∧ kd h 97 = (4, 4, [la + 3, 109, 119, 0, 0, 120, 0, 0]) ∧ LaR h la l ∧ LdOk l
def dyT (h : mHeap) (a : Nat) : Prop := (106 ≤ a ∧ a < 116) ∨ (136 ≤ a ∧ a < 148) ∨ kd h a = (2, 0, [26])
/-- how many others are beside one -/
def besN (m : Mo) (q k : Nat) : Nat := cB (fun o => decide (¬ o = q ∧ mo_s m o = mo_s m q)) k
noncomputable def knI (v w : Wd) : Int := @ite _ (sub v w) (Classical.propDecidable _) 1 0
/-- what the words of a rule mean -/
noncomputable def asV (l : Ld) (m : Mo) (S : List Wd) (q s i : Nat) : Int := if i = 0 then (q : Int) else if i = 1 then (if mo_s m q = true then 1 else 0) else if i = 2 then ((la_q l q).2.1 : Int) else if i = 3 then (s : Int) else if i = 4 then knI (mo_w m (q + 1)) (sy S s) else if i = 5 then (gainW (mo_w m 0) (sy S s) : Int) else if i = 6 then (cB (mo_w m 0) 256 : Int) else if i = 7 then (besN m q (ld_q l).length : Int) else if i = 8 then (mo_d m : Int) else ((la_q l q).2.2.2 : Int)
noncomputable def asX (l : Ld) (m : Mo) (S : List Wd) (q s i : Nat) : Int64 := jj (asV l m S q s i)
section Dy0
variable {d la : Nat} {h h1 h2 : mHeap} {T T' : Nat → Prop} {l : Ld} {m : Mo} {S : List Wd}
theorem FrT.rf : FrT T h h := ⟨Sk.rf, rfl, rfl, fun _ _ => rfl⟩
theorem FrT.tr (x : FrT T h h1) (y : FrT T h1 h2) : FrT T h h2 := ⟨x.1.tr y.1, y.2.1.trans x.2.1, y.2.2.1.trans x.2.2.1, fun a ha => (y.2.2.2 a ha).trans (x.2.2.2 a ha)⟩
theorem FrT.wide (x : FrT T h h1) (e : ∀ a, T a → T' a) : FrT T' h h1 := ⟨x.1, x.2.1, x.2.2.1, fun a ha => x.2.2.2 a (fun g => ha (e a g))⟩
theorem Fr.toT {lo n : Nat} (x : Fr lo n h h1) (e : ∀ a, lo ≤ a → a < lo + n → T a) : FrT T h h1 := ⟨x.1, x.2.1, x.2.2.1, fun a ha => x.2.2.2 a (by
  have g : ¬ (lo ≤ a ∧ a < lo + n) := fun g => ha (e a g.1 g.2)
  omega)⟩
theorem DyQ_ok (hD : DyQ h la l) : okF h 136 1 0 2 ∧ okF h 136 1 1 2 ∧ okF h 136 1 2 2 ∧ okF h 136 1 3 2 ∧ okF h 136 1 4 0 ∧ okF h 136 1 5 0 ∧ okF h 136 1 6 0 ∧ fR h 136 0 = 97 ∧ fR h 136 1 = 69 ∧ fR h 136 2 = 137 ∧ fR h 136 3 = 138 ∧ oC h 136 = 1 := by
  have k := hD.1
  refine ⟨?_, ?_, ?_, ?_, ?_, ?_, ?_, ?_, ?_, ?_, ?_, oC_kd k⟩
  · rw [okF_kd, k]; exact ⟨rfl, rfl, rfl⟩
  · rw [okF_kd, k]; exact ⟨rfl, rfl, rfl⟩
  · rw [okF_kd, k]; exact ⟨rfl, rfl, rfl⟩
  · rw [okF_kd, k]; exact ⟨rfl, rfl, rfl⟩
  · rw [okF_kd, k]; exact ⟨rfl, rfl, rfl⟩
  · rw [okF_kd, k]; exact ⟨rfl, rfl, rfl⟩
  · rw [okF_kd, k]; exact ⟨rfl, rfl, rfl⟩
  · rw [fR_kd, k]; rfl
  · rw [fR_kd, k]; rfl
  · rw [fR_kd, k]; rfl
  · rw [fR_kd, k]; rfl
theorem DyQ_pg (hD : DyQ h la l) : okF h 97 4 0 2 ∧ okF h 97 4 1 2 ∧ okF h 97 4 7 0 ∧ fR h 97 0 = la ∧ fR h 97 1 = 106 := by
  have k := hD.2.2.2.1
  refine ⟨?_, ?_, ?_, ?_, ?_⟩
  · rw [okF_kd, k]; exact ⟨rfl, rfl, rfl⟩
  · rw [okF_kd, k]; exact ⟨rfl, rfl, rfl⟩
  · rw [okF_kd, k]; exact ⟨rfl, rfl, rfl⟩
  · rw [fR_kd, k]; rfl
  · rw [fR_kd, k]; rfl
theorem DyQ_okP (hD : DyQ h la l) {k : Nat} (hk : k < 7) : okP h 136 1 k := by
  rw [okP_kd, hD.1]
  exact ⟨by decide, rfl, rfl, hk⟩
theorem DyQ_t (hD : DyQ h la l) {k : Nat} (hk : k = 4 ∨ k = 5 ∨ k = 6) : tgK (kd h 136) k = some 0 := by
  rw [hD.1]
  rcases hk with g | g | g <;> subst g <;> rfl
theorem DyQ_la (hD : DyQ h la l) (hM : MoS h 106) {a : Nat} (h1 : la ≤ a) (h2 : a < la + 8) : ¬ dyT h a := by
  have L := hD.2.2.2.2.1.1
  rintro (g | g | g)
  · have := MoS_LaS hM L
    omega
  · have c138 := MoS_LaS hD.2.2.1 L
    have e : a = 136 ∨ a = 137 := by omega
    rcases e with e | e
    · rw [e] at h1 h2
      rcases LaS_kd L h1 h2 with ⟨_, _, k⟩ | ⟨_, n, k, _⟩
      · rw [hD.1] at k; cases k
      · rw [hD.1] at k; cases k
    · rw [e] at h1 h2
      rcases LaS_kd L h1 h2 with ⟨_, k, _⟩ | ⟨_, n, k, _⟩
      · rw [hD.2.1] at k; cases k
      · rw [hD.2.1] at k; cases k
  · rcases LaS_kd L h1 h2 with ⟨_, k, _⟩ | ⟨_, n, k, _⟩
    · rw [g] at k; cases k
    · rw [g] at k; cases k
/-- what days write leaves the land and where all lies -/
theorem DyQ.fr (hD : DyQ h la l) (hM : MoS h 106) (x : FrT T h h1) (e : ∀ a, T a → dyT h a) : DyQ h1 la l := ⟨by rw [x.1.1]; exact hD.1, by rw [x.1.1]; exact hD.2.1, x.1.MoS hD.2.2.1, by rw [x.1.1]; exact hD.2.2.2.1, LaR_eq hD.2.2.2.2.1 (fun a g1 g2 => x.2.2.2 a (fun t => DyQ_la hD hM g1 g2 (e a t))), hD.2.2.2.2.2⟩
theorem SyR.frT (hS : SyR h S) (x : FrT T h h1) (e : ∀ a, T a → a < 69 ∨ 97 ≤ a) : SyR h1 S := ⟨x.1.SyS hS.1, by rw [same_fI (x.2.2.2 69 (fun t => by have := e 69 t; omega))]; exact hS.2.1, hS.2.2.1, fun i hi => by have := hS.2.2.1; rw [same_wo (x.2.2.2 (73 + i) (fun t => by have := e _ t; omega))]; exact hS.2.2.2 i hi⟩
theorem MoR.frT {b : Nat} (hM : MoR h b m) (x : FrT T h h1) (e : ∀ a, b ≤ a → a < b + 10 → ¬ T a) : MoR h1 b m := MoR_eq hM (fun a g1 g2 => x.2.2.2 a (e a g1 g2))
theorem RuR.frT {r : Nat} {C : Ru} (hR : RuR h r C) (x : FrT T h h1) (e : ∀ a, r ≤ a → a < r + 4 → ¬ T a) : RuR h1 r C := by
  obtain ⟨n, s, a, b, ok, l, st, cl⟩ := hR
  refine ⟨n, x.1.RuS s, a, b, ok, ?_, fun c hc => ?_, fun c hc => ?_⟩
  · rw [same_fI (x.2.2.2 r (e r (by omega) (by omega)))]; exact l
  · rw [same_xA (x.2.2.2 (r + 2) (e _ (by omega) (by omega)))]; exact st c hc
  · rw [same_xA (x.2.2.2 (r + 3) (e _ (by omega) (by omega))), same_xA (x.2.2.2 (r + 1) (e _ (by omega) (by omega)))]; exact cl c hc
theorem besN_s {q k : Nat} : besN m q (k + 1) = besN m q k + (if ¬ k = q ∧ mo_s m k = mo_s m q then 1 else 0) := by
  unfold besN
  show cB _ k + (if decide (¬ k = q ∧ mo_s m k = mo_s m q) = true then 1 else 0) = _
  by_cases c : ¬ k = q ∧ mo_s m k = mo_s m q
  · rw [if_pos c, if_pos (decide_eq_true c)]
  · rw [if_neg c, if_neg (fun g => c (of_decide_eq_true g))]
/-- othersBeside -/
theorem c24 {K : Int32 → mHeap → Prop} (hD : DyQ h la l) (hM : MoR h 106 m) {q : Nat} (hq : q < 6) (hK : K (ii (besN m q (ld_q l).length : Nat)) h) : GoCi (d + 2) 24 [.ref 136, .int (ii q)] h K := by
  have L := hD.2.2.2.2.1
  have hn := hD.2.2.2.2.2.2.2.1
  rw [e24, b24_0]
  refine Go_loop (fun k L' h' => h' = h ∧ L' = [some (.ref 136), some (.int (ii q)), some (.int (ii (besN m q k : Nat))), some (.int (ii k))]) (ld_q l).length ?_ ?_ 0 _ _ (Nat.zero_le _) ⟨rfl, rfl⟩
  · rintro k L' h' hk ⟨rfl, rfl⟩ next
    have ek : ii (k : Int) + ii 1 = ii ((k + 1 : Nat) : Int) := by rw [ii_add]; rfl
    have no : ¬ (¬ k = q ∧ mo_s m k = mo_s m q) → Go (d + 1) 24 51 [some (.ref 136), some (.int (ii q)), some (.int (ii (besN m q k : Nat))), some (.int (ii k))] [] h' (rI K) := fun c => by
      rw [b24_51, ek]
      exact next _ _ ⟨rfl, by rw [besN_s, if_neg c]; rfl⟩
    rw [b24_4]
    simp only [DyQ_ok hD, DyQ_pg hD, LaS_ok L.1, L.2.2.2.1, true_and]
    rw [if_neg (by rw [ii_le (by omega) (by omega) (by omega) (by omega)]; omega)]
    by_cases c : k = q
    · rw [if_pos (by rw [c])]
      exact no (fun g => g.1 c)
    rw [if_neg (by rw [ii_eq (by omega) (by omega) (by omega) (by omega)]; omega)]
    simp only [MoS_okF hM.1, true_and]
    rw [c48 hM (show k < 6 by omega)]
    simp only [DyQ_ok hD, DyQ_pg hD, MoS_okF hM.1, true_and]
    rw [c48 hM hq]
    by_cases e2 : mo_s m k = mo_s m q
    · rw [if_neg (by rw [e2]; exact fun g => g rfl), b24_51, ek, ii_add]
      refine next _ _ ⟨rfl, ?_⟩
      rw [besN_s, if_pos ⟨c, e2⟩]
      rfl
    · rw [if_pos (by
        cases u : mo_s m k <;> cases v : mo_s m q <;> rw [u, v] at e2 <;> first | exact absurd rfl e2 | decide)]
      exact no (fun g => e2 g.2)
  · rintro L' h' ⟨rfl, rfl⟩
    rw [b24_4]
    simp only [DyQ_ok hD, DyQ_pg hD, LaS_ok L.1, L.2.2.2.1, true_and]
    rw [if_pos (by rw [ii_le (by omega) (by omega) (by omega) (by omega)]; omega), rI_s]
    exact hK
theorem put137 (hD : DyQ h la l) {p : Nat} (hp : p < 10) (v : Int64) : (64 ≤ 137 ∧ okJ h 137 (ii p)) ∧ Fr 137 1 h (sJ h 137 (ii p) v) ∧ xJ (sJ h 137 (ii p) v) 137 = upf (xJ h 137) p v := by
  have r := rowJ_ok hD.2.1 hp (by omega)
  exact ⟨⟨by decide, r.1⟩, Fr.sJ, by rw [sJ_row hD.2.1 hp (by omega), if_pos rfl]⟩
theorem T137 {lo n : Nat} (e : 137 ≤ lo ∧ lo + n ≤ 138) : ∀ a, lo ≤ a → a < lo + n → dyT h a := fun a g1 g2 => Or.inr (Or.inl ⟨by omega, by omega⟩)
/-- describe -/
theorem c22 {K : mHeap → Prop} (hD : DyQ h la l) (hM : MoR h 106 m) (hd : mo_d m < 2147483648) {q : Nat} (hq : q < (ld_q l).length) (hK : ∀ h1, Fr 137 1 h h1 → (∀ s i, i < 10 → ¬ i = 3 → ¬ i = 4 → ¬ i = 5 → xJ h1 137 i = asX l m S q s i) → K h1) : GoCv (d + 4) 22 [.ref 136, .int (ii q)] h K := by
  have ok := hD.2.2.2.2.2
  have hn := ok.2.2.1
  have vq := ok.2.2.2.2.2.2.1 _ (la_q_mem hq)
  have vw : (la_q l q).2.1 ≤ 128 := vq.2.1.2
  have vp : (la_q l q).2.2.2 ≤ 99 := vq.2.2.2
  rw [e22, b22_0]
  have x0 := put137 hD (p := 0) (by decide) (ii (q : Int)).toInt64
  simp only [DyQ_ok hD, DyQ_pg hD, true_and]
  refine ⟨x0.1, ?_⟩
  have F0 := x0.2.1
  have r0 := x0.2.2
  rw [show ii ((0 : Nat) : Int) = ii 0 from rfl] at F0 r0
  generalize sJ h 137 (ii 0) (ii (q : Int)).toInt64 = H1 at *
  have D1 := hD.fr hM.1 (F0.toT (T := dyT h) (T137 (by decide))) (fun a t => t)
  have M1 := hM.fr F0 (by decide)
  simp only [DyQ_ok D1, MoS_okF M1.1, true_and]
  rw [c48 M1 (show q < 6 by omega)]
  have x1 := put137 D1 (p := 1) (by decide) (ii (if mo_s m q = true then 1 else 0)).toInt64
  refine ⟨x1.1, ?_⟩
  have F1 := x1.2.1
  have r1 := x1.2.2
  rw [show ii ((1 : Nat) : Int) = ii 1 from rfl] at F1 r1
  generalize sJ H1 137 (ii 1) (ii (if mo_s m q = true then 1 else 0)).toInt64 = H2 at *
  have D2 := D1.fr M1.1 (F1.toT (T := dyT H1) (T137 (by decide))) (fun a t => t)
  have M2 := M1.fr F1 (by decide)
  have L2 := D2.2.2.2.2.1
  have w2 := row_ok L2.1.2.2.2.1 (show q < 6 by omega) (by omega)
  have v2 := (L2.2.2.2.2.2.2.2.2.1 q hq).2.1
  simp only [DyQ_ok D2, DyQ_pg D2, LaS_ok L2.1, LaS_fR L2.1, true_and, w2, v2]
  have x2 := put137 D2 (p := 2) (by decide) (ii ((la_q l q).2.1 : Int)).toInt64
  refine ⟨x2.1, ?_⟩
  have F2 := x2.2.1
  have r2 := x2.2.2
  rw [show ii ((2 : Nat) : Int) = ii 2 from rfl] at F2 r2
  generalize sJ H2 137 (ii 2) (ii ((la_q l q).2.1 : Int)).toInt64 = H3 at *
  have D3 := D2.fr M2.1 (F2.toT (T := dyT H2) (T137 (by decide))) (fun a t => t)
  have M3 := M2.fr F2 (by decide)
  simp only [DyQ_ok D3, MoS_okF M3.1, true_and]
  rw [c46 M3.1 (i := 0) (by decide) (by decide)]
  have W3 : WS H3 (106 + 3 + 0) := M3.1.2.2.2.2.2 0 (by decide)
  have m3 : wo H3 (106 + 3 + 0) = mo_w m 0 := M3.2.2.2.2.2.2 0 (by decide)
  refine ⟨W_oC W3, ?_⟩
  rw [c126 W3, m3]
  have x3 := put137 D3 (p := 6) (by decide) (ii (cB (mo_w m 0) 256 : Nat)).toInt64
  refine ⟨x3.1, ?_⟩
  have F3 := x3.2.1
  have r3 := x3.2.2
  rw [show ii ((6 : Nat) : Int) = ii 6 from rfl] at F3 r3
  generalize sJ H3 137 (ii 6) (ii (cB (mo_w m 0) 256 : Nat)).toInt64 = H4 at *
  have D4 := D3.fr M3.1 (F3.toT (T := dyT H3) (T137 (by decide))) (fun a t => t)
  have M4 := M3.fr F3 (by decide)
  simp only [DyQ_ok D4, true_and]
  refine c24 D4 M4 (by omega) ?_
  have x4 := put137 D4 (p := 7) (by decide) (ii (besN m q (ld_q l).length : Nat)).toInt64
  refine ⟨x4.1, ?_⟩
  have F4 := x4.2.1
  have r4 := x4.2.2
  rw [show ii ((7 : Nat) : Int) = ii 7 from rfl] at F4 r4
  generalize sJ H4 137 (ii 7) (ii (besN m q (ld_q l).length : Nat)).toInt64 = H5 at *
  have D5 := D4.fr M4.1 (F4.toT (T := dyT H4) (T137 (by decide))) (fun a t => t)
  have M5 := M4.fr F4 (by decide)
  simp only [DyQ_ok D5, MoS_okF M5.1, true_and, M5.2.1]
  have x5 := put137 D5 (p := 8) (by decide) (ii (mo_d m : Int)).toInt64
  refine ⟨x5.1, ?_⟩
  have F5 := x5.2.1
  have r5 := x5.2.2
  rw [show ii ((8 : Nat) : Int) = ii 8 from rfl] at F5 r5
  generalize sJ H5 137 (ii 8) (ii (mo_d m : Int)).toInt64 = H6 at *
  have D6 := D5.fr M5.1 (F5.toT (T := dyT H5) (T137 (by decide))) (fun a t => t)
  have M6 := M5.fr F5 (by decide)
  have L6 := D6.2.2.2.2.1
  have w6 := row_ok L6.1.2.2.2.2.1 (show q < 6 by omega) (by omega)
  have v6 := (L6.2.2.2.2.2.2.2.2.1 q hq).2.2
  simp only [DyQ_ok D6, DyQ_pg D6, LaS_ok L6.1, LaS_fR L6.1, true_and, w6, v6]
  have x6 := put137 D6 (p := 9) (by decide) (ii ((la_q l q).2.2.2 : Int)).toInt64
  refine ⟨x6.1, ?_⟩
  have F6 := x6.2.1
  have r6 := x6.2.2
  rw [show ii ((9 : Nat) : Int) = ii 9 from rfl] at F6 r6
  generalize sJ H6 137 (ii 9) (ii ((la_q l q).2.2.2 : Int)).toInt64 = H7 at *
  rw [rV_s]
  refine hK H7 (F0.tr (F1.tr (F2.tr (F3.tr (F4.tr (F5.tr F6)))))) (fun s i hi n3 n4 n5 => ?_)
  have cb := cB_le (mo_w m 0) 256
  have bn : besN m q (ld_q l).length ≤ 6 := Nat.le_trans (cB_le _ _) hn
  rw [r6, r5, r4, r3, r2, r1, r0]
  have tj : ∀ z : Int, -2147483648 ≤ z → z < 2147483648 → (ii z).toInt64 = jj z := fun z a b => i2l_ii a b
  unfold asX asV upf
  obtain e | e | e | e | e | e | e : i = 0 ∨ i = 1 ∨ i = 2 ∨ i = 6 ∨ i = 7 ∨ i = 8 ∨ i = 9 := by omega
  · subst e; exact tj _ (by omega) (by omega)
  · subst e
    show (ii (if mo_s m q = true then (1 : Int) else 0)).toInt64 = jj (if mo_s m q = true then (1 : Int) else 0)
    exact tj _ (by split <;> decide) (by split <;> decide)
  · subst e; exact tj _ (by omega) (by omega)
  · subst e; exact tj _ (by omega) (by omega)
  · subst e; exact tj _ (by omega) (by omega)
  · subst e; exact tj _ (by omega) (by omega)
  · subst e; exact tj _ (by omega) (by omega)
end Dy0
