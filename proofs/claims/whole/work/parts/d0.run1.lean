/-! WHAT ONE CALLS: days run -/
section Rn1
variable {d : Nat} {h h1 h2 : mHeap} {s s1 s2 : Cs} {T : Nat → Prop} {P : Pg} {m m' : Mo} {p : Nat} {l : Ld} {S : List Wd} {C : Ru} {x y : Int}
/-- days run: the moment and work cells change -/
theorem CI.rn (hC : CI h s) (x : FrT T h h1) (e : ∀ a, T a → (106 ≤ a ∧ a < 116) ∨ tmC h a) (hS : SyR h1 (cs_S s)) (hX : MoX h1 138) (hM : MoR h1 106 m') (hI : MoI (pg_l (cs_P s)) m') : CI h1 (sPg s (pg_l (cs_P s), m', pg_u (cs_P s), pg_t (cs_P s), pg_x (cs_P s))) := by
  obtain ⟨⟨a1, a2, a3, a4, a5, a6, a7⟩, ⟨b1, b2⟩, ⟨c1, c2, c3⟩, ⟨d1, d2, d3, d4, d5⟩, ⟨f1, f2, f3, f4⟩, g1⟩ := hC
  have kn : ∀ a, a < 69 ∨ (73 ≤ a ∧ a < 106) ∨ (116 ≤ a ∧ a < 125) → ¬ kd h a = (2, 0, [26]) → h1[a]? = h[a]? := fun a ha k => x.2.2.2 a (fun t => by
    rcases e a t with g | g | g | g
    · omega
    · omega
    · omega
    · exact k g)
  have s65 : h1[65]? = h[65]? := kn 65 (by omega) (fun k => by rw [a3.1] at k; cases k)
  have s66 : h1[66]? = h[66]? := kn 66 (by omega) (fun k => by rw [a3.2.1] at k; cases k)
  have s64 : h1[64]? = h[64]? := kn 64 (by omega) (fun k => by unfold TbS at a2; rw [a2] at k; cases k)
  have s121 : h1[121]? = h[121]? := kn 121 (by omega) (fun k => by rw [a6.2.2.1] at k; cases k)
  refine ⟨⟨St_get a1 (fun b hb => kn b (by omega) (fun k => ?_)), by unfold TbS; rw [x.1.1]; exact a2, a3.sk x.1, ⟨by rw [same_fI s65]; exact a4.1, a4.2.1, fun i hi => by rw [same_xA s66]; exact a4.2.2 i hi⟩, by rw [x.1.1]; exact a5, a6.sk x.1, by rw [same_xA s121]; exact a7⟩, ⟨hS, by rw [x.1.1]; exact b2.1, by rw [same_fI s64]; exact b2.2.1, b2.2.2.1, fun k hk => ?_⟩, ⟨PgR_mo2 c1 c3 x e hM, ⟨hI, c2.2⟩, c3.sk x.1⟩, ⟨d1.fr x.1, d2.fr x.1, by rw [x.1.1]; exact d3, by rw [x.1.1]; exact d4, hX⟩, ⟨by rw [x.1.1]; exact f1, fun k hk hn => by rw [x.1.2]; exact f2 k hk hn, fun k Q hk hQ => ?_, fun j k q q' hj hk ne e1 e2 => ?_⟩, by rw [x.2.1]; exact g1⟩
  · -- the cells of the constants
    obtain ⟨X, hX2⟩ := a1
    have e0 := hX2 b hb
    have i0 : b = 0 ∨ b = 1 ∨ (∃ i, i < 28 ∧ b = 2 + i) ∨ (∃ i, i < 28 ∧ b = 30 + i) ∨ 58 ≤ b := by
      by_cases q0 : b = 0
      · exact Or.inl q0
      by_cases q1 : b = 1
      · exact Or.inr (Or.inl q1)
      by_cases q2 : b < 30
      · exact Or.inr (Or.inr (Or.inl ⟨b - 2, by omega, by omega⟩))
      by_cases q3 : b < 58
      · exact Or.inr (Or.inr (Or.inr (Or.inl ⟨b - 30, by omega, by omega⟩)))
      · exact Or.inr (Or.inr (Or.inr (Or.inr (by omega))))
    have stt : St h := ⟨X, hX2⟩
    rcases i0 with q | q | ⟨i, hi, q⟩ | ⟨i, hi, q⟩ | q
    · subst q
      have : h[0]? = some (mI .int X) := by rw [e0]; rfl
      rw [kd_some this] at k
      cases k
    · subst q; rw [St_kd stt] at k; cases k
    · subst q; rw [(St_str stt hi).1] at k; cases k
    · subst q; rw [(St_str stt hi).2.1] at k; cases k
    · have : h[b]? = some (mO 99 []) := by
        rw [e0]
        unfold mS0
        rw [show b = (56 + (b - 58)) + 1 + 1 by omega, List.getElem?_cons_succ, List.getElem?_cons_succ, List.getElem?_append_right (by rw [List.length_map, List.length_range]; omega), List.length_map, List.length_range, List.getElem?_append_right (by rw [List.length_map, List.length_range]; omega), List.length_map, List.length_range, List.getElem?_replicate, if_pos (by omega)]
      rw [kd_some this] at k
      cases k
  · obtain ⟨r, r1, r2, r3⟩ := b2.2.2.2 k hk
    refine ⟨r, by rw [x.1.2]; exact r1, r2, r3.frT x (fun a h1 h2 t => ?_)⟩
    obtain ⟨n, sr, _⟩ := r3
    rcases e a t with g | g | g | g
    · omega
    · omega
    · omega
    · have : a = r ∨ a = r + 1 ∨ a = r + 2 ∨ a = r + 3 := by omega
      rcases this with q | q | q | q
      · rw [q, sr.2.1] at g; cases g
      · rw [q, sr.2.2.1] at g; cases g
      · rw [q, sr.2.2.2.1] at g; cases g
      · rw [q, sr.2.2.2.2.1] at g; cases g
  · obtain ⟨q, q1, q2, q3, q4, q5, q6⟩ := f3 k Q hk hQ
    exact ⟨q, by rw [x.1.2]; exact q1, q2, PgR_keep2 q3 x e q2 q6, q4, q5.sk x.1, q6.sk x.1⟩
  · rw [x.1.2] at e1 e2
    exact (f4 j k q q' hj hk ne e1 e2).sk x.1
theorem itr_inv {α : Type} {f : α → Nat → α} {a : α} {Q : α → Prop} (h0 : Q a) : ∀ k, (∀ b i, i < k → Q b → Q (f b i)) → Q (itr f a k) := by
  intro k
  induction k with
  | zero => intro _; exact h0
  | succ k ih => intro hs; rw [itr_s]; exact hs _ k (by omega) (ih (fun b i hi => hs b i (by omega)))
theorem chA_lt {q : Nat} : chA l m S C q = -1 ∨ (0 ≤ chA l m S C q ∧ chA l m S C q < S.length) := by
  unfold chA
  refine itr_inv (Q := fun (b : Int × Int64) => b.1 = -1 ∨ (0 ≤ b.1 ∧ b.1 < (S.length : Int))) (Or.inl rfl) S.length (fun b i hi hb => ?_)
  show (chF l m S C q b i).1 = -1 ∨ (0 ≤ (chF l m S C q b i).1 ∧ (chF l m S C q b i).1 < (S.length : Int))
  unfold chF
  split
  · exact hb
  · exact Or.inr ⟨by omega, by omega⟩
theorem cro_d {q wt : Nat} {w : Wd} : mo_d (cro m q wt w).2 = mo_d m := cro_f.2.1
theorem MoI_dyP (ok : LdOk l) (hn : 0 < ld_n l) {y : Nat × Mo} {q : Nat} (hI : MoI l y.2) : MoI l (dyP l S C y q).2 ∧ mo_d (dyP l S C y q).2 = mo_d y.2 := by
  unfold dyP
  split
  · exact ⟨hI, rfl⟩
  · exact ⟨MoI_cro ok hI hn, cro_d⟩
theorem MoI_dyD (ok : LdOk l) (hn : 0 < ld_n l) {y : Nat × Mo} {i : Nat} (hI : MoI l y.2) (hd : mo_d y.2 < 9999) : MoI l (dyD l S C y i).2 ∧ mo_d (dyD l S C y i).2 = mo_d y.2 + 1 := by
  have h1 : MoI l (itr (dyP l S C) y (ld_q l).length).2 ∧ mo_d (itr (dyP l S C) y (ld_q l).length).2 = mo_d y.2 :=
    itr_inv (Q := fun (z : Nat × Mo) => MoI l z.2 ∧ mo_d z.2 = mo_d y.2) ⟨hI, rfl⟩ _ (fun z q _ hz => by
      have := MoI_dyP (S := S) (C := C) (q := q) ok hn hz.1
      exact ⟨this.1, this.2.trans hz.2⟩)
  unfold dyD
  refine ⟨MoI_mid ok h1.1 (by rw [h1.2]; exact hd), ?_⟩
  show mo_d (itr (dyP l S C) y (ld_q l).length).2 + 1 = mo_d y.2 + 1
  rw [h1.2]
theorem MoI_days (ok : LdOk l) (hn : 0 < ld_n l) (hI : MoI l m) : ∀ n, mo_d m + n ≤ 9999 → MoI l (itr (dyD l S C) (0, m) n).2 ∧ mo_d (itr (dyD l S C) (0, m) n).2 = mo_d m + n := by
  intro n
  induction n with
  | zero => intro _; exact ⟨hI, rfl⟩
  | succ n ih =>
    intro hd
    have := ih (by omega)
    rw [itr_s]
    have s := MoI_dyD (S := S) (C := C) (i := n) ok hn this.1 (by rw [this.2]; omega)
    exact ⟨s.1, by rw [s.2, this.2]; omega⟩
end Rn1
