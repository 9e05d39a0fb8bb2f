/-! PLANS: the steps of the plan -/
noncomputable def plT (S : List Wd) (P : Pg) (l : List Nat) (v0 : Wd) : Nat → Nat × Nat
  | 0 => (0, 0)
  | i + 1 => ((plT S P l v0 i).1 ||| 2 ^ (plF S P l (l.length - i) (vtW S v0 (plT S P l v0 i).2) (plT S P l v0 i).1 % 32 / 8), (plT S P l v0 i).2 ||| 2 ^ (plF S P l (l.length - i) (vtW S v0 (plT S P l v0 i).2) (plT S P l v0 i).1 % 32 % 8))
noncomputable def plV (S : List Wd) (P : Pg) (l : List Nat) (v0 : Wd) (i : Nat) : Nat := plF S P l (l.length - i) (vtW S v0 (plT S P l v0 i).2) (plT S P l v0 i).1
noncomputable def plM (S : List Wd) (P : Pg) (l : List Nat) (v0 : Wd) : Nat := plF S P l l.length (vtW S v0 0) 0 / 32
/-- the answer of PLAN -/
noncomputable def plL (S : List Wd) (P : Pg) (l : List Nat) (v0 : Wd) (what : Nat) : Int := if what = 0 then (plM S P l v0 : Int) else if (what - 1) / 2 < plM S P l v0 then (if what % 2 = 1 then (l.getD (plV S P l v0 ((what - 1) / 2) % 32 / 8) 0 : Nat) else (plV S P l v0 ((what - 1) / 2) % 32 % 8 : Nat)) else -2
noncomputable def plA (S : List Wd) (P : Pg) (sd : Bool) (what : Nat) : Int := if (thK P sd (ld_q (pg_l P)).length).length ≤ 4 then plL S P (thK P sd (ld_q (pg_l P)).length) (mo_w (pg_m P) 0) what else -3
section Pl2
variable {d : Nat} {h h1 : mHeap} {S : List Wd} {P : Pg} {l : List Nat} {v0 : Wd}
theorem plT_s {i : Nat} : plT S P l v0 (i + 1) = ((plT S P l v0 i).1 ||| 2 ^ (plV S P l v0 i % 32 / 8), (plT S P l v0 i).2 ||| 2 ^ (plV S P l v0 i % 32 % 8)) := rfl
theorem plM_le (h4 : l.length ≤ 4) : plM S P l v0 ≤ l.length := by
  have := plF_lt (S := S) (P := P) h4 l.length (vtW S v0 0) 0
  unfold plM
  omega
/-- a step of the plan leads on -/
theorem plV_s (h4 : l.length ≤ 4) {i : Nat} (ho : (plT S P l v0 i).1 < 16) (ht : (plT S P l v0 i).2 < 256) (hv : 32 ≤ plV S P l v0 i) : i < l.length ∧ plV S P l v0 i % 32 < 8 * l.length ∧ stp S P l (vtW S v0 (plT S P l v0 i).2) (plT S P l v0 i).1 (plV S P l v0 i % 32) = true ∧ plV S P l v0 i / 32 = 1 + plV S P l v0 (i + 1) / 32 ∧ bc4 (plT S P l v0 (i + 1)).1 = bc4 (plT S P l v0 i).1 + 1 ∧ (plT S P l v0 (i + 1)).1 < 16 ∧ (plT S P l v0 (i + 1)).2 < 256 := by
  have hi : i < l.length := by
    by_cases c : i < l.length
    · exact c
    · unfold plV at hv
      rw [show l.length - i = 0 by omega] at hv
      exact absurd hv (by show ¬ 32 ≤ 0; decide)
  have e : l.length - i = (l.length - (i + 1)) + 1 := by omega
  have := plF_is (S := S) (P := P) (l := l) (v := vtW S v0 (plT S P l v0 i).2) (ov := (plT S P l v0 i).1) h4 (k := l.length - (i + 1)) (by rw [← e]; exact hv)
  rw [← e] at this
  have a : plV S P l v0 i % 32 < 8 * l.length := this.1
  have b : stp S P l (vtW S v0 (plT S P l v0 i).2) (plT S P l v0 i).1 (plV S P l v0 i % 32) = true := this.2.1
  have c := this.2.2
  rw [vtW_s (Nat.mod_lt _ (by decide))] at c
  have o8 : (plT S P l v0 i).1.testBit (plV S P l v0 i % 32 / 8) = false := by
    unfold stp at b
    simp only [Bool.and_eq_true, Bool.not_eq_true'] at b
    exact b.1
  have b4 := bc4_s (plT S P l v0 i).1 ho (plV S P l v0 i % 32 / 8) (by omega) o8
  refine ⟨hi, a, b, ?_, ?_, ?_, ?_⟩
  · rw [show plV S P l v0 (i + 1) = plF S P l (l.length - (i + 1)) (vtW S v0 (plT S P l v0 (i + 1)).2) (plT S P l v0 (i + 1)).1 from rfl, plT_s]
    exact c
  · rw [plT_s]; exact b4.1
  · rw [plT_s]; exact b4.2
  · rw [plT_s]; exact or_256 ht (Nat.mod_lt _ (by decide))
/-- what is kept along the plan -/
theorem plT_ok (h4 : l.length ≤ 4) {X : Nat → Int32} (hM : Mem S P l v0 X) (h0 : ¬ X 0 = ii (-1)) : ∀ i, i < plM S P l v0 → bc4 (plT S P l v0 i).1 = i ∧ (plT S P l v0 i).1 < 16 ∧ (plT S P l v0 i).2 < 256 ∧ plV S P l v0 i / 32 + i = plM S P l v0 ∧ X ((plT S P l v0 i).1 * 256 + (plT S P l v0 i).2) = ii (plV S P l v0 i : Nat)
  | 0, hi => by
    refine ⟨(show bc4 0 = 0 by decide), (show (0 : Nat) < 16 by decide), (show (0 : Nat) < 256 by decide), rfl, ?_⟩
    rcases hM 0 0 (by decide) (by decide) with a | ⟨a, b⟩
    · exact absurd a h0
    · exact a
  | i + 1, hi => by
    obtain ⟨e1, e2, e3, e4, e5⟩ := plT_ok h4 hM h0 i (by omega)
    have hv : 32 ≤ plV S P l v0 i := by omega
    have s := plV_s h4 e2 e3 hv
    have ml := plM_le (S := S) (P := P) (v0 := v0) h4
    have b1 : bc4 (plT S P l v0 (i + 1)).1 = i + 1 := by rw [s.2.2.2.2.1, e1]
    refine ⟨b1, s.2.2.2.2.2.1, s.2.2.2.2.2.2, by have := s.2.2.2.1; omega, ?_⟩
    have nz : ¬ X ((plT S P l v0 (i + 1)).1 * 256 + (plT S P l v0 (i + 1)).2) = ii (-1) := by
      rcases hM _ _ e2 e3 with a | ⟨a, b⟩
      · rw [a] at e5
        exact absurd e5.symm (ii_n1 (by
          have := plF_lt (S := S) (P := P) h4 (l.length - i) (vtW S v0 (plT S P l v0 i).2) (plT S P l v0 i).1
          have z : plV S P l v0 i < 32 * (l.length - i + 1) := this
          omega))
      · rw [e1] at b
        rw [plT_s]
        exact b hv (by omega)
    rcases hM _ _ s.2.2.2.2.2.1 s.2.2.2.2.2.2 with a | ⟨a, b⟩
    · exact absurd a nz
    · rw [b1] at a
      exact a
/-- stepOfPlan -/
theorem c12 {K : Int32 → mHeap → Prop} (hA : AdO h) (hAP : AdP h) (h4 : l.length ≤ 4) (hM : Mem S P l v0 (xA h 130)) (h0 : ¬ xA h 130 0 = ii (-1)) {nth : Nat} (hn : nth < plM S P l v0) (hK : K (ii (plV S P l v0 nth % 32 : Nat)) h) : GoCi (d + 2) 12 [.ref 125, .int (ii nth)] h K := by
  have ml := plM_le (S := S) (P := P) (v0 := v0) h4
  have vl : ∀ i, i < plM S P l v0 → plV S P l v0 i < 160 := fun i hi => by
    have := plF_lt (S := S) (P := P) h4 (l.length - i) (vtW S v0 (plT S P l v0 i).2) (plT S P l v0 i).1
    have z : plV S P l v0 i < 32 * (l.length - i + 1) := this
    omega
  rw [e12, b12_0]
  refine Go_loop (fun i L' h' => h' = h ∧ ∃ l5, L' = [some (.ref 125), some (.int (ii nth)), some (.int (ii (plT S P l v0 i).1)), some (.int (ii (plT S P l v0 i).2)), some (.int (ii i)), l5]) nth ?_ ?_ 0 _ _ (Nat.zero_le _) ⟨rfl, none, rfl⟩
  · rintro k L' h' hk ⟨rfl, l5, rfl⟩ next
    have ek : ii (k : Int) + ii 1 = ii ((k + 1 : Nat) : Int) := by rw [ii_add]; rfl
    obtain ⟨e1, e2, e3, e4, e5⟩ := plT_ok h4 hM h0 k (by omega)
    have v := vl k (by omega)
    have ri := row_ok hAP.2.2.2.2.1 (show (plT S P l v0 k).1 * 256 + (plT S P l v0 k).2 < 4096 by omega) (by omega)
    rw [b12_7]
    rw [if_neg (by rw [ii_le (by omega) (by omega) (by omega) (by omega)]; omega)]
    simp only [AdS_ok2 hA.1, true_and, idx_ii, ri, e5, rm32 (show plV S P l v0 k < 2147483648 by omega)]
    refine ⟨by decide, ?_⟩
    rw [c10 (by omega), c11 (by omega), ek]
    exact next _ _ ⟨rfl, _, rfl⟩
  · rintro L' h' ⟨rfl, l5, rfl⟩
    obtain ⟨e1, e2, e3, e4, e5⟩ := plT_ok h4 hM h0 nth hn
    have v := vl nth hn
    have ri := row_ok hAP.2.2.2.2.1 (show (plT S P l v0 nth).1 * 256 + (plT S P l v0 nth).2 < 4096 by omega) (by omega)
    rw [b12_7]
    rw [if_pos (by rw [ii_le (by omega) (by omega) (by omega) (by omega)]; omega)]
    simp only [AdS_ok2 hA.1, true_and, idx_ii, ri, e5, rm32 (show plV S P l v0 nth < 2147483648 by omega)]
    refine ⟨by decide, ?_⟩
    rw [rI_s]
    exact hK
theorem c9D (hm : mo_f (pg_m P) < 256) (hw : ∀ o, o < (ld_q (pg_l P)).length → (la_q (pg_l P) o).2.1 ≤ 128) (hl : ∀ i, i < l.length → l.getD i 0 < (ld_q (pg_l P)).length) {k D : Nat} (hD : k + 6 ≤ D) {K : Int32 → mHeap → Prop} {dep ov told : Nat} (hA : AdO h) (hAP : AdP h) (hS : SyR h S) (hP : PgR h 97 P) (hC : CrS h S P l) (hv : wo h (131 + dep) = vtW S v0 told) (hM : Mem S P l v0 (xA h 130)) (hk : dep + k = l.length) (ho : ov < 16) (ht : told < 256) (hb : bc4 ov = dep) (hK : ∀ h1, Fr 130 6 h h1 → (∀ j, j ≤ dep → h1[131 + j]? = h[131 + j]?) → Mem S P l v0 (xA h1 130) → Mon (xA h 130) (xA h1 130) → (0 < k → ¬ xA h1 130 (ov * 256 + told) = ii (-1)) → K (ii (plF S P l k (vtW S v0 told) ov : Nat)) h1) : GoCi D 9 [.ref 125, .int (ii dep), .int (ii ov), .int (ii told)] h K := by
  obtain ⟨d, rfl⟩ : ∃ d, D = k + d + 6 := ⟨D - k - 6, by omega⟩
  exact c9 hm hw hl k hA hAP hS hP hC hv hM hk ho ht hb hK
/-- planFor -/
theorem c6 {K : Int32 → mHeap → Prop} {sd : Bool} (hA : AdO h) (hAP : AdP h) (hS : SyR h S) (hP : PgR h 97 P) (hm : mo_f (pg_m P) < 256) (hw : ∀ o, o < (ld_q (pg_l P)).length → (la_q (pg_l P) o).2.1 ≤ 128) {what : Nat} (hwh : what ≤ 8) (hK : ∀ h1, Fr 125 11 h h1 → K (ii (plA S P sd what)) h1) : GoCi (d + 11) 6 [.ref 125, .int (ii (if sd = true then 1 else 0)), .int (ii what)] h K := by
  have e0 : ii 0 = ii ((0 : Nat) : Int) := rfl
  rw [e6, b6_0]
  simp only [AdS_ok hA.1, true_and]
  refine c7 hA hAP hS hP (fun h1 F1 C1 => ?_)
  unfold plA at hK
  have hl : ∀ i, i < (thK P sd (ld_q (pg_l P)).length).length → (thK P sd (ld_q (pg_l P)).length).getD i 0 < (ld_q (pg_l P)).length := fun i hi => thK_lt hi
  generalize thK P sd (ld_q (pg_l P)).length = l at *
  by_cases c4 : l.length ≤ 4
  rotate_left
  · rw [if_neg c4, if_neg (by simp), rI_s]
    have := hK h1 (F1.wide (by decide) (by decide))
    rw [if_neg c4] at this
    exact this
  rw [if_pos c4, if_pos (by decide)]
  simp only [if_pos c4] at hK
  have A1 := hA.fr F1.1
  have AP1 := hAP.fr F1.1
  have S1 := hS.fr F1 (by omega)
  have P1 := PgR_adv hA hP F1 (by decide) (by decide)
  simp only [AdS_ok2 A1.1, true_and]
  refine c325 (by decide) AP1.2.2.2.2.1 (by decide) (fun h2 F2 x2 => ?_)
  have A2 := A1.fr F2.1
  have AP2 := AP1.fr F2.1
  have S2 := S1.fr F2 (by omega)
  have P2 := PgR_adv A1 P1 F2 (by decide) (by decide)
  have C2 := (C1 c4).fr F2 (by omega)
  have f1 : fR h2 97 1 = 106 := (PgS_okF P2.1).2.2.2.2.2.2.2.2.1
  have M2 : MoR h2 106 (pg_m P) := P2.2.2.2.1
  have w109 : WS h2 109 := M2.1.2.2.2.2.2 0 (by decide)
  have m109 : wo h2 109 = mo_w (pg_m P) 0 := M2.2.2.2.2.2.2 0 (by decide)
  have w0 := AP2.2.2.2.2.2.2 0 (by decide)
  have r0 : okR h2 127 (ii 0) ∧ eR h2 127 (ii 0) = 131 := AdP_row AP2 (i := 0) (by decide)
  simp only [AdS_ok2 A2.1, AdS_ok A2.1, true_and, r0, PgS_okF P2.1, f1, MoS_okF M2.1]
  rw [c46 M2.1 (i := 0) (by decide) (by decide)]
  refine ⟨(W_ok w0).2.2.2.2, ?_⟩
  rw [show (106 + 3 + 0 : Nat) = 109 from rfl, c117 (a := 131) w0 w109]
  have F3 := Fr.pW (w := wo h2 109) (a := 131) w0
  have x3 : wo (pW h2 131 (wo h2 109)) 131 = wo h2 109 := wo_cp w0
  generalize pW h2 131 (wo h2 109) = H3 at *
  have A3 := A2.fr F3.1
  have AP3 := AP2.fr F3.1
  have S3 := S2.fr F3 (by omega)
  have P3 := PgR_adv A2 P2 F3 (by decide) (by decide)
  have C3 := C2.fr F3 (by omega)
  have v3 : wo H3 (131 + 0) = vtW S (mo_w (pg_m P) 0) 0 := by
    rw [show 131 + 0 = 131 from rfl, x3, ← m109, vtW_0]
    funext w
    by_cases c : w < 256
    · simp [c]
    · rw [wo_big (by omega)]; simp
  have M3 : Mem S P l (mo_w (pg_m P) 0) (xA H3 130) := fun o t ho ht => by
    rw [same_xA (F3.2.2.2 130 (by omega))]
    exact Or.inl (x2 _ (by omega))
  simp only [AdS_ok A3.1, true_and]
  refine c9D (dep := 0) (ov := 0) (told := 0) (v0 := mo_w (pg_m P) 0) hm hw hl (k := l.length) (by omega) A3 AP3 S3 P3 C3 v3 M3 (Nat.zero_add _) (by decide) (by decide) (by decide) (fun h5 F5 _ M5 _ nz => ?_)
  have FF : Fr 125 11 h h5 := (F1.wide (by decide) (by decide)).tr ((F2.wide (by decide) (by decide)).tr ((F3.wide (by decide) (by decide)).tr (F5.wide (by decide) (by decide))))
  have A5 := A3.fr F5.1
  have AP5 := AP3.fr F5.1
  have C5 := C3.fr F5 (by omega)
  have tl := plF_lt (S := S) (P := P) c4 l.length (vtW S (mo_w (pg_m P) 0) 0) 0
  have ml := plM_le (S := S) (P := P) (v0 := mo_w (pg_m P) 0) c4
  refine ⟨by decide, ?_⟩
  rw [dv32 (by omega)]
  have K5 := hK h5 FF
  unfold plL at K5
  show (if ¬ ii (what : Int) = ii 0 then _ else rI K (some (.int (ii (plM S P l (mo_w (pg_m P) 0) : Nat)))) h5)
  by_cases cw : what = 0
  · rw [if_neg (by rw [cw]; exact fun g => g rfl), rI_s]
    rw [if_pos cw] at K5
    exact K5
  rw [if_pos (by rw [e0, ii_eq (by omega) (by omega) (by omega) (by omega)]; omega)]
  rw [if_neg cw] at K5
  have ew : ii (what : Int) - ii 1 = ii ((what - 1 : Nat) : Int) := by
    rw [ii_sub]
    congr 1
    omega
  rw [ew, dv2 (by omega)]
  refine ⟨by decide, ?_⟩
  show (if ii (((what - 1) / 2 : Nat) : Int) < ii (plM S P l (mo_w (pg_m P) 0) : Nat) then _ else _)
  by_cases cn : (what - 1) / 2 < plM S P l (mo_w (pg_m P) 0)
  rotate_left
  · rw [if_neg (by rw [ii_lt (by omega) (by omega) (by omega) (by omega)]; omega), rI_s]
    rw [if_neg cn] at K5
    exact K5
  rw [if_pos (by rw [ii_lt (by omega) (by omega) (by omega) (by omega)]; omega)]
  rw [if_pos cn] at K5
  simp only [AdS_ok A5.1, true_and]
  have z0 := nz (by omega)
  refine c12 A5 AP5 c4 M5 z0 cn ?_
  refine ⟨by decide, ?_⟩
  rw [rm2 (by omega)]
  obtain ⟨e1, e2, e3, e4, e5⟩ := plT_ok c4 M5 z0 _ cn
  have s := plV_s c4 e2 e3 (by omega)
  by_cases c2 : what % 2 = 1
  · rw [if_neg (by rw [c2]; exact fun g => g rfl)]
    rw [if_pos c2] at K5
    have r5 := row_ok AP5.2.2.1 (show plV S P l (mo_w (pg_m P) 0) ((what - 1) / 2) % 32 / 8 < 4 by omega) (by omega)
    simp only [AdS_ok2 A5.1, true_and, dv8 (show plV S P l (mo_w (pg_m P) 0) ((what - 1) / 2) % 32 < 2147483648 by omega), r5]
    refine ⟨by decide, ?_⟩
    rw [rI_s, (C5.2.2 _ (show plV S P l (mo_w (pg_m P) 0) ((what - 1) / 2) % 32 / 8 < l.length by omega)).1]
    exact K5
  · rw [if_pos (by rw [show ii 1 = ii ((1 : Nat) : Int) from rfl, ii_eq (by omega) (by omega) (by omega) (by omega)]; omega)]
    rw [if_neg c2] at K5
    rw [rm8 (by omega)]
    refine ⟨by decide, ?_⟩
    rw [rI_s]
    exact K5
end Pl2
