/-! DAYS: the days that go by, by a rule -/
section Dy2
variable {d la r : Nat} {h h1 h2 : mHeap} {T T' : Nat → Prop} {l : Ld} {m : Mo} {S : List Wd} {C : Ru}
theorem dyP_f {x : Nat × Mo} {q : Nat} : mo_f (dyP l S C x q).2 = mo_f x.2 ∧ mo_d (dyP l S C x q).2 = mo_d x.2 := by
  unfold dyP
  split
  · exact ⟨rfl, rfl⟩
  · exact ⟨cro_f.1, cro_f.2.1⟩
theorem dyI_f {x : Nat × Mo} : ∀ k, mo_f (itr (dyP l S C) x k).2 = mo_f x.2 ∧ mo_d (itr (dyP l S C) x k).2 = mo_d x.2
  | 0 => ⟨rfl, rfl⟩
  | k + 1 => by
    have ih := dyI_f (x := x) k
    have hs : itr (dyP l S C) x (k + 1) = dyP l S C (itr (dyP l S C) x k) k := rfl
    rw [hs]
    exact ⟨dyP_f.1.trans ih.1, dyP_f.2.trans ih.2⟩
theorem dyK_f (ok : LdOk l) (hm : mo_f m < 256) : ∀ k, mo_f (itr (dyD l S C) (0, m) k).2 < 256 ∧ mo_d (itr (dyD l S C) (0, m) k).2 = mo_d m + k
  | 0 => ⟨hm, rfl⟩
  | k + 1 => by
    have ih := dyK_f ok hm k
    have hs : itr (dyD l S C) (0, m) (k + 1) = dyD l S C (itr (dyD l S C) (0, m) k) k := rfl
    rw [hs]
    generalize itr (dyD l S C) (0, m) k = x at *
    have a := dyI_f (l := l) (S := S) (C := C) (x := x) (ld_q l).length
    have b := mid_f ok (m := (itr (dyP l S C) x (ld_q l).length).2) (by rw [a.1]; exact ih.1)
    refine ⟨b.1, ?_⟩
    show mo_d (mid l (itr (dyP l S C) x (ld_q l).length).2) = _
    rw [b.2, a.2, ih.2]
    omega
theorem St_frT (hSt : St h) (x : FrT T h h1) (e : ∀ a, T a → 64 ≤ a) : St h1 := St_get hSt fun b hb => x.2.2.2 b (fun t => by have := e b t; omega)
/-- byRule -/
theorem c20 {K : Int32 → mHeap → Prop} (hSt : St h) (hD : DyQ h la l) (hM : MoR h 106 m) (hS : SyR h S) (hR : RuR h r C) (hr : 148 ≤ r) (hm : mo_f m < 256) {n : Nat} (hn : n ≤ 60) (hd : mo_d m + n ≤ 9999) (hK : ∀ h1, FrT (rM r) h h1 → MoR h1 106 (itr (dyD l S C) (0, m) n).2 → K (ii ((itr (dyD l S C) (0, m) n).1 : Nat)) h1) : GoCi (d + 6) 20 [.ref 136, .ref r, .int (ii n)] h K := by
  have hnq := hD.2.2.2.2.2.2.2.1
  have hlen := hS.2.2.1
  have ok := hD.2.2.2.2.2
  have k4 : kd h (r + 4) = (2, 0, [26]) := by
    obtain ⟨n, s, _⟩ := hR
    exact s.2.2.2.2.2
  have ctx : ∀ h', FrT (rM r) h h' → DyQ h' la l ∧ SyR h' S ∧ RuR h' r C ∧ St h' := fun h' F => by
    refine ⟨hD.fr hM.1 F (fun a t => ?_), hS.frT F (fun a t => ?_), hR.frT F (fun a g1 g2 t => ?_), St_frT hSt F (fun a t => ?_)⟩
    · rcases t with t | t | t
      · exact Or.inl t
      · exact Or.inr (Or.inl (by omega))
      · exact Or.inr (Or.inr (by rw [t]; exact k4))
    · rcases t with t | t | t <;> omega
    · rcases t with t | t | t <;> omega
    · rcases t with t | t | t <;> omega
  have fM : ∀ {h1 h2 : mHeap}, Fr 106 10 h1 h2 → FrT (rM r) h1 h2 := fun F => F.toT (fun a g1 g2 => Or.inl ⟨g1, g2⟩)
  rw [e20, b20_0]
  simp only [DyQ_ok hD, DyQ_pg hD, true_and]
  refine Go_loop (fun k L' h' => FrT (rM r) h h' ∧ MoR h' 106 (itr (dyD l S C) (0, m) k).2 ∧ ∃ l7 l8, L' = [some (.ref 136), some (.ref r), some (.int (ii n)), some (.ref 106), some (.ref la), some (.int (ii ((itr (dyD l S C) (0, m) k).1 : Nat))), some (.int (ii k)), l7, l8]) n ?_ ?_ 0 _ _ (Nat.zero_le _) ⟨FrT.rf, hM, none, none, rfl⟩
  · rintro k L' h' hk ⟨F, M, l7, l8, rfl⟩ next
    have ek : ii (k : Int) + ii 1 = ii ((k + 1 : Nat) : Int) := by rw [ii_add]; rfl
    have fk := dyK_f (S := S) (C := C) ok hm k
    have hs : itr (dyD l S C) (0, m) (k + 1) = dyD l S C (itr (dyD l S C) (0, m) k) k := rfl
    generalize itr (dyD l S C) (0, m) k = x at *
    rw [b20_23]
    rw [if_neg (by rw [ii_le (by omega) (by omega) (by omega) (by omega)]; omega)]
    refine Go_loop (fun j L' h' => FrT (rM r) h h' ∧ MoR h' 106 (itr (dyP l S C) x j).2 ∧ ∃ l8, L' = [some (.ref 136), some (.ref r), some (.int (ii n)), some (.ref 106), some (.ref la), some (.int (ii ((itr (dyP l S C) x j).1 : Nat))), some (.int (ii k)), some (.int (ii j)), l8]) (ld_q l).length ?_ ?_ 0 _ _ (Nat.zero_le _) ⟨F, M, l8, rfl⟩
    · rintro j L' h' hj ⟨F, M, l8, rfl⟩ next2
      have ej : ii (j : Int) + ii 1 = ii ((j + 1 : Nat) : Int) := by rw [ii_add]; rfl
      have fj := dyI_f (l := l) (S := S) (C := C) (x := x) j
      have hs2 : itr (dyP l S C) x (j + 1) = dyP l S C (itr (dyP l S C) x j) j := rfl
      generalize itr (dyP l S C) x j = y at *
      obtain ⟨D, S', R, St'⟩ := ctx h' F
      have L := D.2.2.2.2.1
      have no : ∀ h2 l8, FrT (rM r) h' h2 → MoR h2 106 y.2 → (mo_l y.2 j = true ∨ chA l y.2 S C j = -1) → Go (d + 5) 20 62 [some (.ref 136), some (.ref r), some (.int (ii n)), some (.ref 106), some (.ref la), some (.int (ii (y.1 : Nat))), some (.int (ii k)), some (.int (ii j)), l8] [.int (ii (-1))] h2 (rI K) := fun h2 l8 F2 M2 c => by
        rw [b20_62, if_pos rfl, b20_101, ej]
        refine next2 _ _ ⟨F.tr F2, ?_, some (.int (ii (-1))), ?_⟩
        · rw [hs2]
          unfold dyP
          rw [if_pos c]
          exact M2
        · rw [hs2]
          unfold dyP
          rw [if_pos c]
      rw [b20_32]
      simp only [LaS_ok L.1, L.2.2.2.1, true_and]
      rw [if_neg (by rw [ii_le (by omega) (by omega) (by omega) (by omega)]; omega)]
      refine ⟨(MoS_okF M.1).2.2.2.2.2.2.2.2, ?_⟩
      rw [c49 M (show j < 6 by omega)]
      by_cases c : mo_l y.2 j = true
      · rw [if_pos c, if_neg (by decide)]
        exact no h' _ FrT.rf M (Or.inl c)
      rw [if_neg c, if_pos rfl]
      refine ⟨(DyQ_ok D).2.2.2.2.2.2.2.2.2.2.2, ?_⟩
      refine c21 D M S' R hr (by omega) hj (fun h3 F3 => ?_)
      have F3' : FrT (rM r) h' h3 := F3.wide (fun a t => Or.inr t)
      have M3 := M.frT F3 (fun a g1 g2 t => by rcases t with t | t <;> omega)
      have cb := chF_b (l := l) (m := y.2) (S := S) (C := C) (q := j) S.length
      have cA : chA l y.2 S C j = -1 ∨ 0 ≤ chA l y.2 S C j ∧ chA l y.2 S C j < S.length := cb
      by_cases c1 : chA l y.2 S C j = -1
      · rw [c1]
        exact no h3 _ F3' M3 (Or.inr c1)
      have cz : chA l y.2 S C j = ((chA l y.2 S C j).toNat : Nat) := by omega
      have cl : (chA l y.2 S C j).toNat < S.length := by omega
      obtain ⟨D3, S3, R3, St3⟩ := ctx h3 (F.tr F3')
      have L3 := D3.2.2.2.2.1
      have r5 := row_ok L3.1.2.2.2.1 (show j < 6 by omega) (by omega)
      have v5 := (L3.2.2.2.2.2.2.2.2.1 j hj).2.1
      have vq := (ok.2.2.2.2.2.2.1 _ (la_q_mem hj)).2.1.2
      have vq' : (la_q l j).2.1 ≤ 128 := vq
      have rr := SyS_row S3.1 (show (chA l y.2 S C j).toNat < 24 by omega)
      have wr := S3.1.2.2.2.1 (chA l y.2 S C j).toNat (by omega)
      have es : ii (chA l y.2 S C j) = ii (((chA l y.2 S C j).toNat : Nat) : Int) := by rw [← cz]
      have dst : dyP l S C y j = (if (cro y.2 j (la_q l j).2.1 (sy S (chA l y.2 S C j).toNat)).1 = 3 then y.1 + 1 else y.1, (cro y.2 j (la_q l j).2.1 (sy S (chA l y.2 S C j).toNat)).2) := by
        unfold dyP
        rw [if_neg (by rintro (g | g); exact c g; exact c1 g)]
      rw [es]
      generalize (chA l y.2 S C j).toNat = sN at *
      rw [b20_62]
      rw [if_neg (by rw [ii_eq (by omega) (by omega) (by omega) (by omega)]; omega)]
      simp only [LaS_ok L3.1, LaS_fR L3.1, DyQ_ok D3, SyS_ok S3.1, MoS_okF M3.1, true_and, r5, v5, rr]
      refine c50 M3 (by omega) (show j < 6 by omega) (by omega) wr (Or.inl (by omega)) (fun h4 F4 M4 => ?_)
      rw [S3.2.2.2 sN cl] at M4 ⊢
      have ca := cro_f (m := y.2) (q := j) (wt := (la_q l j).2.1) (w := sy S sN)
      by_cases c3 : (cro y.2 j (la_q l j).2.1 (sy S sN)).1 = 3
      · rw [if_neg (by rw [c3]; exact fun g => g rfl), b20_101, ej, ii_add]
        refine next2 _ _ ⟨F.tr (F3'.tr (fM F4)), ?_, some (.int (ii sN)), ?_⟩
        · rw [hs2, dst]
          exact M4
        · rw [hs2, dst]
          rw [if_pos c3]
          rfl
      · rw [if_pos (by rw [show ii 3 = ii ((3 : Nat) : Int) from rfl, ii_eq (by omega) (by omega) (by omega) (by omega)]; omega), b20_101, ej]
        refine next2 _ _ ⟨F.tr (F3'.tr (fM F4)), ?_, some (.int (ii sN)), ?_⟩
        · rw [hs2, dst]
          exact M4
        · rw [hs2, dst]
          rw [if_neg c3]
    · rintro L' h' ⟨F, M, l8, rfl⟩
      obtain ⟨D, S', R, St'⟩ := ctx h' F
      have L := D.2.2.2.2.1
      have fj := dyI_f (l := l) (S := S) (C := C) (x := x) (ld_q l).length
      rw [b20_32]
      simp only [LaS_ok L.1, L.2.2.2.1, true_and]
      rw [if_pos (by rw [ii_le (by omega) (by omega) (by omega) (by omega)]; omega)]
      refine ⟨(MoS_okF M.1).2.2.2.2.2.2.2.2, ?_⟩
      refine c51 (d := d + 1) St' M L ok (by omega) (MoS_LaS M.1 L.1) (fun h2 F2 M2 => ?_)
      rw [ek]
      refine next _ _ ⟨F.tr (fM F2), ?_, some (.int (ii (ld_q l).length)), l8, ?_⟩
      · rw [hs]
        exact M2
      · rw [hs]
        rfl
  · rintro L' h' ⟨F, M, l7, l8, rfl⟩
    rw [b20_23]
    rw [if_pos (by rw [ii_le (by omega) (by omega) (by omega) (by omega)]; omega), rI_s]
    exact hK h' F M
end Dy2
