/-! PLANS: the best from here, kept together -/
section Pl1
variable {d : Nat} {h h1 : mHeap} {S : List Wd} {P : Pg} {l : List Nat} {v0 : Wd}
theorem c10 {K : Int32 → mHeap → Prop} {ov t : Nat} (ht : t < 64) : GoCi (d + 1) 10 [.int (ii ov), .int (ii t)] h K ↔ K (ii ((ov ||| 2 ^ (t / 8) : Nat) : Int)) h := by
  rw [e10, b10_0, dv8 (by omega), shl1 (by omega), or_ii, rI_s]
  exact and_iff_right (by decide)
theorem c11 {K : Int32 → mHeap → Prop} {ov t : Nat} (ht : t < 64) : GoCi (d + 1) 11 [.int (ii ov), .int (ii t)] h K ↔ K (ii ((ov ||| 2 ^ (t % 8) : Nat) : Int)) h := by
  rw [e11, b11_0, rm8 (by omega), shl1 (by omega), or_ii, rI_s]
  exact and_iff_right (by decide)
theorem AdP_row (hAP : AdP h) {i : Nat} (hi : i < 5) : okR h 127 (ii i) ∧ eR h 127 (ii i) = 131 + i := by
  refine ⟨?_, ?_⟩
  · rw [okR_kd, hAP.1]
    refine ⟨⟨rfl, rfl⟩, ?_, ?_⟩
    · rw [ii_lt0 (by omega) (by omega)]; omega
    · rw [ix_ii (by omega) (by omega), Int.toNat_natCast, hAP.2.1 i hi]; show 64 ≤ 131 + i; omega
  · rw [eR_xR, ix_ii (by omega) (by omega), Int.toNat_natCast, hAP.2.1 i hi]; rfl
theorem wo_cp {a b : Nat} (hA : WS h a) : wo (pW h a (wo h b)) a = wo h b := by
  funext i
  rw [wo_pW hA i]
  by_cases c : i < 256
  · simp [c]
  · rw [wo_big (by omega)]; simp
theorem wo_and {a b : Nat} (hA : WS h a) : wo (pW h a (fun i => wo h a i && wo h b i)) a = capW (wo h a) (wo h b) := by
  funext i
  rw [wo_pW hA i]; rfl
theorem idx_ii {o t : Nat} : ii (o : Int) * ii 256 + ii (t : Int) = ii ((o * 256 + t : Nat) : Int) := by
  rw [ii_mul, ii_add]; rfl
/-- what is written is right, and what was there stays -/
theorem Mem_put {X : Nat → Int32} {ov told B : Nat} (hM : Mem S P l v0 X) (hB : B < 1000) (ht : told < 256) (hX : X (ov * 256 + told) = ii (-1) ∨ X (ov * 256 + told) = ii (B : Int)) (eB : B = plF S P l (l.length - bc4 ov) (vtW S v0 told) ov) (cl : 32 ≤ B → bc4 ov + 1 < l.length → ¬ X ((ov ||| 2 ^ (B % 32 / 8)) * 256 + (told ||| 2 ^ (B % 32 % 8))) = ii (-1)) : Mem S P l v0 (upf X (ov * 256 + told) (ii (B : Int))) := by
  have hY : ∀ i, ¬ X i = ii (-1) → ¬ upf X (ov * 256 + told) (ii (B : Int)) i = ii (-1) := fun i hi => by
    unfold upf
    by_cases c : i = ov * 256 + told
    · rw [if_pos c]; exact ii_n1 (by omega)
    · rw [if_neg c]; exact hi
  intro o t ho htt
  by_cases c : o * 256 + t = ov * 256 + told
  · have e1 : o = ov := by omega
    have e2 : t = told := by omega
    subst e1 e2
    refine Or.inr ⟨?_, ?_⟩
    · unfold upf
      rw [if_pos rfl, eB]
    · rw [← eB]
      exact fun a b => hY _ (cl a b)
  · rcases hM o t ho htt with a | ⟨a, b⟩
    · refine Or.inl ?_
      unfold upf
      rw [if_neg c]; exact a
    · refine Or.inr ⟨?_, fun a2 b2 => hY _ (b a2 b2)⟩
      unfold upf
      rw [if_neg c]; exact a
/-- bestFrom -/
theorem c9 (hm : mo_f (pg_m P) < 256) (hw : ∀ o, o < (ld_q (pg_l P)).length → (la_q (pg_l P) o).2.1 ≤ 128) (hl : ∀ i, i < l.length → l.getD i 0 < (ld_q (pg_l P)).length) : ∀ (k : Nat) {h : mHeap} {K : Int32 → mHeap → Prop} {dep ov told : Nat}, AdO h → AdP h → SyR h S → PgR h 97 P → CrS h S P l → wo h (131 + dep) = vtW S v0 told → Mem S P l v0 (xA h 130) → dep + k = l.length → ov < 16 → told < 256 → bc4 ov = dep → (∀ h1, Fr 130 6 h h1 → (∀ j, j ≤ dep → h1[131 + j]? = h[131 + j]?) → Mem S P l v0 (xA h1 130) → Mon (xA h 130) (xA h1 130) → (0 < k → ¬ xA h1 130 (ov * 256 + told) = ii (-1)) → K (ii (plF S P l k (vtW S v0 told) ov : Nat)) h1) → GoCi (k + d + 6) 9 [.ref 125, .int (ii dep), .int (ii ov), .int (ii told)] h K := by
  intro k
  induction k with
  | zero =>
    intro h K dep ov told hA hAP hS hP hC hv hM hk ho ht hb hK
    rw [show 0 + d + 6 = (0 + d + 5) + 1 by omega]
    have h4 := hC.2.1
    rw [e9, b9_0]
    simp only [AdS_ok2 hA.1, true_and, hC.1]
    rw [if_neg (by rw [ii_lt (by omega) (by omega) (by omega) (by omega)]; omega), rI_s]
    exact hK h Fr.rf (fun _ _ => rfl) hM Mon.rf (fun g => absurd g (by decide))
  | succ k ih =>
    intro h K dep ov told hA hAP hS hP hC hv hM hk ho ht hb hK
    have h4 := hC.2.1
    have ri := row_ok hAP.2.2.2.2.1 (show ov * 256 + told < 4096 by omega) (by omega)
    rw [show k + 1 + d + 6 = (k + d + 6) + 1 by omega]
    rw [e9, b9_0]
    simp only [AdS_ok2 hA.1, true_and, hC.1, idx_ii, ri]
    rw [if_pos (by rw [ii_lt (by omega) (by omega) (by omega) (by omega)]; omega)]
    have ek1 : l.length - bc4 ov = k + 1 := by omega
    by_cases c0 : xA h 130 (ov * 256 + told) = ii (-1)
    rotate_left
    · rw [if_neg c0, rI_s]
      rcases hM ov told ho ht with a | ⟨a, b⟩
      · exact absurd a c0
      · rw [a, ek1]
        exact hK h Fr.rf (fun _ _ => rfl) hM Mon.rf (fun _ => c0)
    rw [if_pos c0]
    refine Go_loop (fun t L' h' => Fr 130 6 h h' ∧ (∀ j, j ≤ dep → h'[131 + j]? = h[131 + j]?) ∧ Mem S P l v0 (xA h' 130) ∧ Mon (xA h 130) (xA h' 130) ∧ (32 ≤ itr (plG S P l (vtW S v0 told) ov (plF S P l k)) 0 t → dep + 1 < l.length → ¬ xA h' 130 ((ov ||| 2 ^ (itr (plG S P l (vtW S v0 told) ov (plF S P l k)) 0 t % 32 / 8)) * 256 + (told ||| 2 ^ (itr (plG S P l (vtW S v0 told) ov (plF S P l k)) 0 t % 32 % 8))) = ii (-1)) ∧ ∃ l7 l8, L' = [some (.ref 125), some (.int (ii dep)), some (.int (ii ov)), some (.int (ii told)), some (.int (ii ((ov * 256 + told : Nat) : Int))), some (.int (ii (itr (plG S P l (vtW S v0 told) ov (plF S P l k)) 0 t : Nat))), some (.int (ii t)), l7, l8]) (8 * l.length) ?_ ?_ 0 _ _ (Nat.zero_le _) ⟨Fr.rf, fun _ _ => rfl, hM, Mon.rf, fun g => absurd (show 32 ≤ 0 from g) (by decide), none, none, rfl⟩
    · rintro t L' h' htt ⟨F, fs, M', mo, cl, l7, l8, rfl⟩ next
      have ek : ii (t : Int) + ii 1 = ii ((t + 1 : Nat) : Int) := by rw [ii_add]; rfl
      have e1d : ii (dep : Int) + ii 1 = ii ((dep + 1 : Nat) : Int) := by rw [ii_add]; rfl
      have A := hA.fr F.1
      have AP := hAP.fr F.1
      have P' := PgR_adv hA hP F (by decide) (by decide)
      have S' := hS.fr F (by omega)
      have C := hC.fr F (by omega)
      have v' : wo h' (131 + dep) = vtW S v0 told := by rw [same_wo (fs dep (Nat.le_refl _))]; exact hv
      rw [b9_44]
      simp only [AdS_ok2 A.1, AdS_ok A.1, true_and, C.1]
      rw [if_neg (by rw [show ii 8 = ii ((8 : Nat) : Int) from rfl, ii_mul, ii_le (by omega) (by omega) (by omega) (by omega)]; omega)]
      refine c8 A AP S' P' C hm hw hl (show dep < 5 by omega) htt ho ?_
      rw [v']
      by_cases st : stp S P l (vtW S v0 told) ov t = true
      rotate_left
      · rw [if_neg st, if_pos rfl, b9_158, ek]
        refine next _ _ ⟨F, fs, M', mo, ?_, l7, l8, ?_⟩
        · rw [itr_s, plG_n st]; exact cl
        · rw [itr_s, plG_n st]
      rw [if_pos st, if_neg (by decide)]
      have w1 := AP.2.2.2.2.2.2 (dep + 1) (by omega)
      have w0 := AP.2.2.2.2.2.2 dep (by omega)
      simp only [AdS_ok2 A.1, true_and, e1d, AdP_row AP (show dep + 1 < 5 by omega), AdP_row AP (show dep < 5 by omega), W_ok w1]
      rw [c117 w1 w0]
      have F1 := Fr.pW (w := wo h' (131 + dep)) w1
      have x1 := wo_cp (b := 131 + dep) w1
      generalize pW h' (131 + (dep + 1)) (wo h' (131 + dep)) = H1 at *
      have A1 := A.fr F1.1
      have AP1 := AP.fr F1.1
      have S1 := S'.fr F1 (by omega)
      have w11 := AP1.2.2.2.2.2.2 (dep + 1) (by omega)
      have s8 : t % 8 < S.length := by
        unfold stp at st
        simp only [Bool.and_eq_true] at st
        have b2 := st.2.1
        unfold knw at b2
        rw [btO_bit] at b2
        simp only [Bool.and_eq_true, decide_eq_true_eq] at b2
        exact b2.1
      have o8 : ov.testBit (t / 8) = false := by
        unfold stp at st
        simp only [Bool.and_eq_true, Bool.not_eq_true'] at st
        exact st.1
      have r := SyS_row S1.1 (show t % 8 < 24 by omega)
      have wr := S1.1.2.2.2.1 (t % 8) (by omega)
      simp only [AdS_ok2 A1.1, AdS_ok A1.1, true_and, AdP_row AP1 (show dep + 1 < 5 by omega), SyS_ok S1.1, rm8 (show t < 2147483648 by omega), r, W_ok w11]
      refine ⟨by decide, ?_⟩
      rw [c121 w11 wr]
      have F2 := Fr.pW (w := fun i => wo H1 (131 + (dep + 1)) i && wo H1 (73 + t % 8) i) w11
      have x2 := wo_and (b := 73 + t % 8) w11
      rw [x1, v', S1.2.2.2 (t % 8) s8, vtW_s (by omega)] at x2
      rw [x1, v', S1.2.2.2 (t % 8) s8] at F2
      rw [x1, v', S1.2.2.2 (t % 8) s8]
      generalize pW H1 (131 + (dep + 1)) (fun i => vtW S v0 told i && sy S (t % 8) i) = H2 at *
      have F3 : Fr (131 + (dep + 1)) 1 h' H2 := F1.tr F2
      have A2 := A1.fr F2.1
      have AP2 := AP1.fr F2.1
      have S2 := S1.fr F2 (by omega)
      have P2 := PgR_adv A P' F3 (by omega) (by omega)
      have C2 := C.fr F3 (by omega)
      have X2 : xA H2 130 = xA h' 130 := same_xA (F3.2.2.2 130 (by omega))
      rw [c10 (by omega), c11 (by omega)]
      simp only [AdS_ok A2.1, true_and, e1d]
      have b4 := bc4_s ov ho (t / 8) (by omega) o8
      refine ih A2 AP2 S2 P2 C2 x2 (by rw [X2]; exact M') (by omega) b4.2 (or_256 ht (by omega)) (by rw [b4.1, hb]) (fun h6 F6 fs6 M6 mo6 nz6 => ?_)
      rw [X2] at mo6
      have tl := plF_lt (S := S) (P := P) h4 k (vtW S v0 (told ||| 2 ^ (t % 8))) (ov ||| 2 ^ (t / 8))
      have bl := plF_lt (S := S) (P := P) h4 (k + 1) (vtW S v0 told) ov
      have eG : capW (vtW S v0 told) (sy S (t % 8)) = vtW S v0 (told ||| 2 ^ (t % 8)) := vtW_s (by omega)
      have Bl : itr (plG S P l (vtW S v0 told) ov (plF S P l k)) 0 t < 1000 := by
        rcases plG_is (S := S) (P := P) (l := l) (v := vtW S v0 told) (ov := ov) (f := plF S P l k) t (by omega) with a | ⟨a, b, c2, e⟩
        · rw [a]; decide
        · have ih := plF_lt (S := S) (P := P) h4 k (capW (vtW S v0 told) (sy S (itr (plG S P l (vtW S v0 told) ov (plF S P l k)) 0 t % 32 % 8))) (ov ||| 2 ^ (itr (plG S P l (vtW S v0 told) ov (plF S P l k)) 0 t % 32 / 8))
          generalize plF S P l k (capW (vtW S v0 told) (sy S (itr (plG S P l (vtW S v0 told) ov (plF S P l k)) 0 t % 32 % 8))) (ov ||| 2 ^ (itr (plG S P l (vtW S v0 told) ov (plF S P l k)) 0 t % 32 / 8)) = G at *
          generalize itr (plG S P l (vtW S v0 told) ov (plF S P l k)) 0 t = B at *
          omega
      rw [dv32 (by omega), dv32 (by omega)]
      refine ⟨by decide, by decide, ?_⟩
      have FF : Fr 130 6 h h6 := F.tr ((F3.wide (by omega) (by omega)).tr F6)
      have fsf : ∀ j, j ≤ dep → h6[131 + j]? = h[131 + j]? := fun j hj => by
        rw [fs6 j (by omega), F3.2.2.2 (131 + j) (by omega), fs j hj]
      have mof := mo.tr mo6
      rw [ii_add]
      by_cases g : itr (plG S P l (vtW S v0 told) ov (plF S P l k)) 0 t / 32 < 1 + plF S P l k (vtW S v0 (told ||| 2 ^ (t % 8))) (ov ||| 2 ^ (t / 8)) / 32
      · have gi : itr (plG S P l (vtW S v0 told) ov (plF S P l k)) 0 (t + 1) = (1 + plF S P l k (vtW S v0 (told ||| 2 ^ (t % 8))) (ov ||| 2 ^ (t / 8)) / 32) * 32 + t := by
          rw [itr_s, plG_y st (by rw [eG]; exact g), eG]
        generalize plF S P l k (vtW S v0 (told ||| 2 ^ (t % 8))) (ov ||| 2 ^ (t / 8)) = T at *
        rw [if_neg (by rw [ii_le (by omega) (by omega) (by omega) (by omega)]; omega), b9_158, ek]
        refine next _ _ ⟨FF, fsf, M6, mof, ?_, some (.int (ii (T : Nat))), some (.int (ii (1 + ((T / 32 : Nat) : Int)))), ?_⟩
        · rw [gi]
          have e1 : ((1 + T / 32) * 32 + t) % 32 = t := by omega
          rw [e1]
          exact fun _ q => nz6 (by omega)
        · rw [gi, show ii 32 = ii ((32 : Nat) : Int) from rfl, ii_mul, ii_add]
          rfl
      · have gi : itr (plG S P l (vtW S v0 told) ov (plF S P l k)) 0 (t + 1) = itr (plG S P l (vtW S v0 told) ov (plF S P l k)) 0 t := by
          rw [itr_s, plG_o (by rw [eG]; exact g)]
        generalize plF S P l k (vtW S v0 (told ||| 2 ^ (t % 8))) (ov ||| 2 ^ (t / 8)) = T at *
        rw [if_pos (by rw [ii_le (by omega) (by omega) (by omega) (by omega)]; omega), b9_158, ek]
        refine next _ _ ⟨FF, fsf, M6, mof, ?_, some (.int (ii (T : Nat))), some (.int (ii (1 + ((T / 32 : Nat) : Int)))), ?_⟩
        · rw [gi]
          intro a b q
          have := cl a b
          exact this (by rw [← mo6 _ this]; exact q)
        · rw [gi]
    · rintro L' h' ⟨F, fs, M', mo, cl, l7, l8, rfl⟩
      have A := hA.fr F.1
      have AP := hAP.fr F.1
      have C := hC.fr F (by omega)
      rw [b9_44]
      simp only [AdS_ok2 A.1, AdS_ok A.1, true_and, C.1]
      rw [if_pos (by rw [show ii 8 = ii ((8 : Nat) : Int) from rfl, ii_mul, ii_le (by omega) (by omega) (by omega) (by omega)]; omega)]
      have r2 := row_ok AP.2.2.2.2.1 (show ov * 256 + told < 4096 by omega) (by omega)
      refine ⟨⟨by decide, r2.1⟩, ?_⟩
      rw [rI_s]
      have eF : itr (plG S P l (vtW S v0 told) ov (plF S P l k)) 0 (8 * l.length) = plF S P l (k + 1) (vtW S v0 told) ov := plF_s.symm
      rw [eF] at cl ⊢
      have w2 := fun b => sI_row (b := b) (v := ii (plF S P l (k + 1) (vtW S v0 told) ov : Nat)) AP.2.2.2.2.1 (show ov * 256 + told < 4096 by omega) (by omega)
      have F2 : Fr 130 1 h' (sI h' 130 (ii ((ov * 256 + told : Nat) : Int)) (ii (plF S P l (k + 1) (vtW S v0 told) ov : Nat))) := Fr.sI
      generalize sI h' 130 (ii ((ov * 256 + told : Nat) : Int)) (ii (plF S P l (k + 1) (vtW S v0 told) ov : Nat)) = H2 at *
      have X2 : xA H2 130 = upf (xA h' 130) (ov * 256 + told) (ii (plF S P l (k + 1) (vtW S v0 told) ov : Nat)) := by rw [w2 130, if_pos rfl]
      have bl := plF_lt (S := S) (P := P) h4 (k + 1) (vtW S v0 told) ov
      refine hK H2 (F.tr (F2.wide (by decide) (by decide))) (fun j hj => by rw [F2.2.2.2 (131 + j) (by omega), fs j hj]) ?_ ?_ ?_
      · rw [X2]
        refine Mem_put M' (by omega) ht ?_ (by rw [ek1]) (fun a b => cl a (by omega))
        rcases M' ov told ho ht with a | ⟨a, b⟩
        · exact Or.inl a
        · exact Or.inr (by rw [a, ek1])
      · rw [X2]
        intro i hi
        unfold upf
        by_cases c : i = ov * 256 + told
        · rw [c] at hi
          exact absurd c0 hi
        · rw [if_neg c]
          exact mo i hi
      · rw [X2]
        intro _
        unfold upf
        rw [if_pos rfl]
        exact ii_n1 (by omega)
end Pl1
