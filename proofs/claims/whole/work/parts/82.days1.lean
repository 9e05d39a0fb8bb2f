/-! DAYS: by a rule -/
noncomputable def chF (l : Ld) (m : Mo) (S : List Wd) (C : Ru) (q : Nat) (b : Int × Int64) (s : Nat) : Int × Int64 := if ruV (asX l m S q s) C ≤ b.2 then b else ((s : Int), ruV (asX l m S q s) C)
noncomputable def chA (l : Ld) (m : Mo) (S : List Wd) (C : Ru) (q : Nat) : Int := (itr (chF l m S C q) (-1, jj 0) S.length).1
noncomputable def dyP (l : Ld) (S : List Wd) (C : Ru) (x : Nat × Mo) (q : Nat) : Nat × Mo := if mo_l x.2 q = true ∨ chA l x.2 S C q = -1 then x else (if (cro x.2 q (la_q l q).2.1 (sy S (chA l x.2 S C q).toNat)).1 = 3 then x.1 + 1 else x.1, (cro x.2 q (la_q l q).2.1 (sy S (chA l x.2 S C q).toNat)).2)
noncomputable def dyD (l : Ld) (S : List Wd) (C : Ru) (x : Nat × Mo) (_ : Nat) : Nat × Mo := ((itr (dyP l S C) x (ld_q l).length).1, mid l (itr (dyP l S C) x (ld_q l).length).2)
def rT (r a : Nat) : Prop := a = 137 ∨ a = r + 4
def rM (r a : Nat) : Prop := (106 ≤ a ∧ a < 116) ∨ a = 137 ∨ a = r + 4
section Dy1
variable {d la r : Nat} {h h1 h2 : mHeap} {T T' : Nat → Prop} {l : Ld} {m : Mo} {S : List Wd} {C : Ru}
theorem cro_f {q wt : Nat} {w : Wd} : mo_f (cro m q wt w).2 = mo_f m ∧ mo_d (cro m q wt w).2 = mo_d m ∧ (cro m q wt w).1 ≤ 3 ∧ mo_h (cro m q wt w).2 = mo_h m := by
  unfold cro
  split
  · refine ⟨rfl, rfl, ?_, rfl⟩
    show (if w (mo_f m) = true then 1 else 0) ≤ 3
    split <;> omega
  · split
    · exact ⟨rfl, rfl, (show 2 ≤ 3 by decide), rfl⟩
    · exact ⟨rfl, rfl, (show 3 ≤ 3 by decide), rfl⟩
theorem xAll_lt : ∀ (fs : List Nat) (a : Nat), a < 256 → (∀ f ∈ fs, f < 8) → fs.foldl (fun x f => x ^^^ 2 ^ f) a < 256
  | [], a, ha, _ => ha
  | f :: fs, a, ha, hf => xAll_lt fs _ (Nat.xor_lt_two_pow (n := 8) ha (Nat.pow_lt_pow_right (by decide) (hf f (by simp)))) (fun g hg => hf g (by simp [hg]))
theorem mid_f (ok : LdOk l) (hm : mo_f m < 256) : mo_f (mid l m) < 256 ∧ mo_d (mid l m) = mo_d m + 1 := by
  refine ⟨?_, rfl⟩
  show mo_f m ^^^ xAll (tOn l (m.1 + 1)) < 256
  refine Nat.xor_lt_two_pow (n := 8) hm (xAll_lt _ 0 (by decide) (fun f hf => ?_))
  unfold tOn at hf
  rw [List.mem_map] at hf
  obtain ⟨t, ht, rfl⟩ := hf
  rw [List.mem_filter] at ht
  have := ok.2.2.2.2.2.2.2.2.2 t ht.1
  have := ok.1
  omega
/-- describeSaying -/
theorem c23 {K : mHeap → Prop} (hD : DyQ h la l) (hM : MoR h 106 m) (hS : SyR h S) {q s : Nat} (hq : q < 6) (hs : s < S.length) (hK : ∀ h1, Fr 137 1 h h1 → xJ h1 137 3 = asX l m S q s 3 → xJ h1 137 4 = asX l m S q s 4 → xJ h1 137 5 = asX l m S q s 5 → (∀ i, ¬ i = 3 → ¬ i = 4 → ¬ i = 5 → xJ h1 137 i = xJ h 137 i) → K h1) : GoCv (d + 3) 23 [.ref 136, .int (ii q), .int (ii s)] h K := by
  have hlen := hS.2.2.1
  have rr := SyS_row hS.1 (show s < 24 by omega)
  have gl := cB_le (fun i => mo_w m 0 i && !sy S s i) 256
  rw [e23, b23_0]
  have x0 := put137 hD (p := 3) (by decide) (ii (s : Int)).toInt64
  simp only [DyQ_ok hD, SyS_ok hS.1, rr, true_and]
  refine ⟨x0.1, ?_⟩
  have F0 := x0.2.1
  have r0 := x0.2.2
  rw [show ii ((3 : Nat) : Int) = ii 3 from rfl] at F0 r0
  generalize sJ h 137 (ii 3) (ii (s : Int)).toInt64 = H1 at *
  have D1 := hD.fr hM.1 (F0.toT (T := dyT h) (T137 (by decide))) (fun a t => t)
  have M1 := hM.fr F0 (by decide)
  have S1 := hS.fr F0 (by omega)
  simp only [DyQ_ok D1, DyQ_pg D1, MoS_okF M1.1, true_and]
  rw [c46 M1.1 (i := q + 1) (by omega) (by omega)]
  have W1 : WS H1 (106 + 3 + (q + 1)) := M1.1.2.2.2.2.2 (q + 1) (by omega)
  have m1 : wo H1 (106 + 3 + (q + 1)) = mo_w m (q + 1) := M1.2.2.2.2.2.2 (q + 1) (by omega)
  have wr := S1.1.2.2.2.1 s (by omega)
  refine ⟨W_oC W1, ?_⟩
  rw [c128 W1 wr, m1, S1.2.2.2 s hs]
  have fin : Go (d + 2) 23 46 [some (.ref 136), some (.int (ii q)), some (.int (ii s)), some (.ref (73 + s))] [.long (jj (knI (mo_w m (q + 1)) (sy S s))), .int (ii 4), .ref 137] H1 (rV K) := by
    rw [b23_46]
    have x1 := put137 D1 (p := 4) (by decide) (jj (knI (mo_w m (q + 1)) (sy S s)))
    refine ⟨x1.1, ?_⟩
    have F1 := x1.2.1
    have r1 := x1.2.2
    rw [show ii ((4 : Nat) : Int) = ii 4 from rfl] at F1 r1
    generalize sJ H1 137 (ii 4) (jj (knI (mo_w m (q + 1)) (sy S s))) = H2 at *
    have D2 := D1.fr M1.1 (F1.toT (T := dyT H1) (T137 (by decide))) (fun a t => t)
    have M2 := M1.fr F1 (by decide)
    have S2 := S1.fr F1 (by omega)
    simp only [DyQ_ok D2, DyQ_pg D2, MoS_okF M2.1, true_and]
    rw [c46 M2.1 (i := 0) (by decide) (by decide)]
    have W2 : WS H2 (106 + 3 + 0) := M2.1.2.2.2.2.2 0 (by decide)
    have m2 : wo H2 (106 + 3 + 0) = mo_w m 0 := M2.2.2.2.2.2.2 0 (by decide)
    have wr2 := S2.1.2.2.2.1 s (by omega)
    refine ⟨W_oC W2, ?_⟩
    rw [c127 W2 wr2, m2, S2.2.2.2 s hs]
    have x2 := put137 D2 (p := 5) (by decide) (ii (cB (fun i => mo_w m 0 i && !sy S s i) 256 : Nat)).toInt64
    refine ⟨x2.1, ?_⟩
    have F2 := x2.2.1
    have r2 := x2.2.2
    rw [show ii ((5 : Nat) : Int) = ii 5 from rfl] at F2 r2
    rw [rV_s]
    refine hK _ (F0.tr (F1.tr F2)) ?_ ?_ ?_ (fun i n3 n4 n5 => ?_)
    · rw [r2, r1, r0]
      show (ii (s : Int)).toInt64 = jj (s : Int)
      exact i2l_ii (by omega) (by omega)
    · rw [r2, r1]
      rfl
    · rw [r2]
      show (ii (cB (fun i => mo_w m 0 i && !sy S s i) 256 : Nat)).toInt64 = jj (cB (fun i => mo_w m 0 i && !sy S s i) 256 : Nat)
      exact i2l_ii (by omega) (by omega)
    · rw [r2, r1, r0]
      unfold upf
      rw [if_neg n5, if_neg n4, if_neg n3]
  unfold knI at fin
  by_cases g : sub (mo_w m (q + 1)) (sy S s)
  · rw [if_neg (fun e => bP_n.mpr g e)]
    rw [if_pos g] at fin
    exact fin
  · rw [if_pos (bP_0.mpr g)]
    rw [if_neg g] at fin
    exact fin
theorem chF_b {q : Nat} : ∀ k, (itr (chF l m S C q) (-1, jj 0) k).1 = -1 ∨ 0 ≤ (itr (chF l m S C q) (-1, jj 0) k).1 ∧ (itr (chF l m S C q) (-1, jj 0) k).1 < k
  | 0 => Or.inl rfl
  | k + 1 => by
    have ih := chF_b (q := q) k
    have hs : itr (chF l m S C q) (-1, jj 0) (k + 1) = chF l m S C q (itr (chF l m S C q) (-1, jj 0) k) k := rfl
    rw [hs]
    generalize itr (chF l m S C q) (-1, jj 0) k = bb at *
    unfold chF
    by_cases c : ruV (asX l m S q k) C ≤ bb.2
    · rw [if_pos c]
      rcases ih with g | g
      · exact Or.inl g
      · exact Or.inr ⟨g.1, by omega⟩
    · rw [if_neg c]
      exact Or.inr ⟨by show (0 : Int) ≤ k; omega, by show (k : Int) < ((k + 1 : Nat) : Int); omega⟩
/-- chosenBy -/
theorem c21 {K : Int32 → mHeap → Prop} (hD : DyQ h la l) (hM : MoR h 106 m) (hS : SyR h S) (hR : RuR h r C) (hr : 148 ≤ r) (hd : mo_d m < 2147483648) {q : Nat} (hq : q < (ld_q l).length) (hK : ∀ h1, FrT (rT r) h h1 → K (ii (chA l m S C q)) h1) : GoCi (d + 5) 21 [.ref 136, .ref r, .int (ii q)] h K := by
  have hn := hD.2.2.2.2.2.2.2.1
  have hlen := hS.2.2.1
  rw [e21, b21_0]
  refine ⟨(DyQ_ok hD).2.2.2.2.2.2.2.2.2.2.2, ?_⟩
  refine c22 (S := S) hD hM hd hq (fun h1 F1 x1 => ?_)
  refine Go_loop (fun k L' h' => FrT (rT r) h h' ∧ (∀ s i, i < 10 → ¬ i = 3 → ¬ i = 4 → ¬ i = 5 → xJ h' 137 i = asX l m S q s i) ∧ ∃ l7 l8, L' = [some (.ref 136), some (.ref r), some (.int (ii q)), some (.int (ii (itr (chF l m S C q) (-1, jj 0) k).1)), some (.long (itr (chF l m S C q) (-1, jj 0) k).2), none, some (.int (ii k)), l7, l8]) S.length ?_ ?_ 0 _ _ (Nat.zero_le _) ⟨F1.toT (fun a g1 g2 => Or.inl (by omega)), x1, none, none, rfl⟩
  · rintro k L' h' hk ⟨F, xw, l7, l8, rfl⟩ next
    have ek : ii (k : Int) + ii 1 = ii ((k + 1 : Nat) : Int) := by rw [ii_add]; rfl
    have hs : itr (chF l m S C q) (-1, jj 0) (k + 1) = chF l m S C q (itr (chF l m S C q) (-1, jj 0) k) k := rfl
    have k4 : kd h (r + 4) = (2, 0, [26]) := by
      obtain ⟨n, s, _⟩ := hR
      exact s.2.2.2.2.2
    have D := hD.fr hM.1 F (fun a t => by
      rcases t with t | t
      · exact Or.inr (Or.inl (by omega))
      · exact Or.inr (Or.inr (by rw [t]; exact k4)))
    have M := hM.frT F (fun a g1 g2 t => by rcases t with t | t <;> omega)
    have S' := hS.frT F (fun a t => by rcases t with t | t <;> omega)
    have R := hR.frT F (fun a g1 g2 t => by rcases t with t | t <;> omega)
    generalize itr (chF l m S C q) (-1, jj 0) k = bb at *
    rw [b21_13]
    simp only [DyQ_ok D, SyS_ok S'.1, S'.2.1, true_and]
    rw [if_neg (by rw [ii_le (by omega) (by omega) (by omega) (by omega)]; omega)]
    refine c23 D M S' (by omega) hk (fun h2 F2 y3 y4 y5 yo => ?_)
    have D2 := D.fr M.1 (F2.toT (T := dyT h') (T137 (by decide))) (fun a t => t)
    have R2 := R.fr F2 (by omega)
    have xX : ∀ i, i < 10 → xJ h2 137 i = asX l m S q k i := fun i hi => by
      by_cases c3 : i = 3
      · rw [c3]; exact y3
      by_cases c4 : i = 4
      · rw [c4]; exact y4
      by_cases c5 : i = 5
      · rw [c5]; exact y5
      rw [yo i c3 c4 c5]
      exact xw k i hi c3 c4 c5
    have oR : oC h2 r = 5 := by
      obtain ⟨n, s, _⟩ := R2
      exact (RuS_ok s).2.2.2.2.2.2.2.2.2
    simp only [DyQ_ok D2, true_and, oR]
    refine c64 R2 D2.2.1 (by omega) xX (fun h3 F3 => ?_)
    have FF : FrT (rT r) h h3 := F.tr ((F2.toT (fun a g1 g2 => Or.inl (by omega))).tr (F3.toT (fun a g1 g2 => Or.inr (by omega))))
    have xw3 : ∀ s i, i < 10 → ¬ i = 3 → ¬ i = 4 → ¬ i = 5 → xJ h3 137 i = asX l m S q s i := fun s i hi n3 n4 n5 => by
      rw [same_xJ (F3.2.2.2 137 (by omega)), yo i n3 n4 n5]
      exact xw s i hi n3 n4 n5
    simp only [lg_le]
    by_cases c : ruV (asX l m S q k) C ≤ bb.2
    · rw [if_pos c, b21_57, ek]
      refine next _ _ ⟨FF, xw3, some (.long (ruV (asX l m S q k) C)), none, ?_⟩
      rw [hs]
      unfold chF
      rw [if_pos c]
    · rw [if_neg c, b21_57, ek]
      refine next _ _ ⟨FF, xw3, some (.long (ruV (asX l m S q k) C)), none, ?_⟩
      rw [hs]
      unfold chF
      rw [if_neg c]
  · rintro L' h' ⟨F, xw, l7, l8, rfl⟩
    have k4 : kd h (r + 4) = (2, 0, [26]) := by
      obtain ⟨n, s, _⟩ := hR
      exact s.2.2.2.2.2
    have D := hD.fr hM.1 F (fun a t => by
      rcases t with t | t
      · exact Or.inr (Or.inl (by omega))
      · exact Or.inr (Or.inr (by rw [t]; exact k4)))
    have S' := hS.frT F (fun a t => by rcases t with t | t <;> omega)
    rw [b21_13]
    simp only [DyQ_ok D, SyS_ok S'.1, S'.2.1, true_and]
    rw [if_pos (by rw [ii_le (by omega) (by omega) (by omega) (by omega)]; omega), rI_s]
    exact hK h' F
end Dy1
