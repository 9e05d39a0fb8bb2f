/-! A PAGE'S PAST -/
section Acts
variable {d b p : Nat} {h h1 : mHeap} {P : Pg}
theorem FrP.rf {T : Nat → Prop} {n s : Nat} : FrP T n s h h := ⟨Gr.rf, fun _ _ _ => rfl⟩
theorem FrP.tr {T T' : Nat → Prop} {n s n' s' : Nat} {h2 : mHeap} (x : FrP T n s h h1) (y : FrP T' n' s' h1 h2) (sub : ∀ a, a < h.length → T' a → T a) : FrP T (n + n') (s + s') h h2 := ⟨x.1.tr y.1, fun a ha hT => by
  have := x.1.1
  rw [y.2 a (by omega) (fun g => hT (sub a ha g)), x.2 a ha hT]⟩
theorem FrP.wide {T T' : Nat → Prop} {n s n' s' : Nat} (x : FrP T n s h h1) (sub : ∀ a, a < h.length → T a → T' a) (hn : n ≤ n') (hs : s ≤ s') : FrP T' n' s' h h1 := ⟨x.1.wide hn hs, fun a ha hT => x.2 a ha (fun g => hT (sub a ha g))⟩
theorem Fr.toP {lo n : Nat} (x : Fr lo n h h1) : FrP (fun a => lo ≤ a ∧ a < lo + n) 0 0 h h1 := ⟨x.gr, fun a _ hT => x.2.2.2 a (by omega)⟩
/-- keepPast -/
theorem c59 {K : mHeap → Prop} (hS : St h) (hP : PgS h p) {i bw : Nat} {mw : Mo} (hi : i < 20) (hw : MoR h bw mw) (hne : ∀ b, xR h (p + 19) i = some b → ¬ b = bw) (hK : ∀ h1 b, PgS h1 p → FrP (fun a => a = p + 19 ∨ ∃ b0, xR h (p + 19) i = some b0 ∧ b0 ≤ a ∧ a < b0 + 10) 10 47 h h1 → xR h1 (p + 19) = upf (xR h (p + 19)) i (some b) → MoR h1 b mw → (xR h (p + 19) i = some b ∨ (xR h (p + 19) i = none ∧ b = h.length)) → K h1) : GoCv (d + 4) 59 [.ref p, .int (ii i), .ref bw] h K := by
  have hx : (ii (i : Nat)).toNatClampNeg = i := ix_n (by omega)
  have hlen := St_len hS
  rw [e59, b59_0]
  simp only [PgS_okF hP, true_and]
  refine ⟨hw.1.1, ?_⟩
  cases hr : xR h (p + 19) i with
  | some b =>
    refine Or.inr ?_
    have r := PgS_past hP hi hr
    obtain ⟨hbX, hbn⟩ := hP.2.2.2.2.2.1 i b hi hr
    obtain ⟨m0, hbm⟩ := hbX
    refine ⟨r.1, by rw [r.2]; exact hbm.1.1, ?_⟩
    rw [r.2, b59_31]
    refine ⟨(MoS_okF hbm.1).2.2.2.2.2.2.2.2, ?_⟩
    have hd := MoS_dis hw.1 hbm.1 (fun g => hne b hr g.symm)
    refine c44 hbm hw (by omega) (fun h1 hf hm => ?_)
    rw [rV_s]
    have pd := PgS_dis hP hi hr
    have ep : h1[p]? = h[p]? := hf.2.2.2 p (by omega)
    have e19 : h1[p + 19]? = h[p + 19]? := hf.2.2.2 _ (by omega)
    have e20 : h1[p + 20]? = h[p + 20]? := hf.2.2.2 _ (by omega)
    have hx19 : xR h1 (p + 19) = upf (xR h (p + 19)) i (some b) := by
      rw [same_xR e19]
      funext j
      unfold upf
      by_cases q : j = i
      · rw [if_pos q, q, hr]
      · rw [if_neg q]
    refine hK h1 b ⟨hP.1, by rw [same_kd ep, fR_kd, same_kd ep, ← fR_kd]; exact hP.2.1, by rw [same_kd e19]; exact hP.2.2.1, by rw [same_kd e20]; exact hP.2.2.2.1, hf.1.MoS hP.2.2.2.2.1, fun j b2 hj hb2 => ?_, fun j j' b2 hj hj' g g' => ?_⟩ ?_ hx19 hm (Or.inl hr)
    · rw [same_xR e19] at hb2
      obtain ⟨⟨m2, hm2⟩, hn2⟩ := hP.2.2.2.2.2.1 j b2 hj hb2
      refine ⟨?_, hn2⟩
      by_cases q : b2 = b
      · rw [q]; exact ⟨mw, hm⟩
      · exact ⟨m2, hm2.fr hf (MoS_dis hm2.1 hbm.1 q).symm⟩
    · rw [same_xR e19] at g g'
      exact hP.2.2.2.2.2.2 j j' b2 hj hj' g g'
    · exact (hf.toP).wide (fun a _ g => Or.inr ⟨b, hr, g.1, g.2⟩) (by omega) (by omega)
  | none =>
    refine Or.inl ⟨?_, nO h 3, rfl, hlen, ?_⟩
    · rw [nuR_kd, hP.2.2.1, hx]
      refine ⟨⟨rfl, rfl⟩, ?_, hi, hr⟩
      rw [ii_lt0 (by omega) (by omega)]; omega
    refine new_Mo hlen (fun h2 l2 s2 g2 m2 => ?_)
    have h64 : 64 ≤ p := hP.1
    have hp20 : p + 20 < h.length := kd_lt (by rw [hP.2.2.2.1]; decide)
    have ep : h2[p]? = h[p]? := g2 p (by omega)
    have e19 : h2[p + 19]? = h[p + 19]? := g2 _ (by omega)
    have e20 : h2[p + 20]? = h[p + 20]? := g2 _ (by omega)
    have f2 : fR h2 p 2 = p + 19 := by rw [fR_kd, same_kd ep, ← fR_kd]; exact (PgS_okF hP).2.2.2.2.2.2.2.2.2.1
    have o2 : okF h2 p 4 2 2 := by rw [okF_kd, same_kd ep, ← okF_kd]; exact (PgS_okF hP).2.2.1
    have k19 : kd h2 (p + 19) = (3, 3, [20]) := by rw [same_kd e19]; exact hP.2.2.1
    refine ⟨o2, ?_, ?_⟩
    · rw [f2, okS_kd, k19, oC_kd m2.1.2.1, hx]
      refine ⟨by omega, hlen, rfl, rfl, rfl, ?_, hi⟩
      rw [ii_lt0 (by omega) (by omega)]; omega
    rw [f2, b59_31]
    have xr : ∀ c, xR (sR h2 (p + 19) (ii i) h.length) c = if p + 19 = c then upf (xR h (p + 19)) i (some h.length) else xR h2 c := fun c => by
      rw [xR_sR (by rw [k19]) (by rw [k19, hx]; exact hi), hx, same_xR e19]
    have gs : ∀ c, ¬ c = p + 19 → (sR h2 (p + 19) (ii i) h.length)[c]? = h2[c]? := fun c hc => by rw [sR_get, if_neg (fun g => hc g.symm)]
    have m3 : MoR (sR h2 (p + 19) (ii i) h.length) h.length mo0 := MoR_eq m2 (fun a h1 h2 => gs a (by omega))
    have hw3 : MoR (sR h2 (p + 19) (ii i) h.length) bw mw := by
      have hwl := MoS_lt hw.1
      refine MoR_eq hw (fun a h1 h2 => ?_)
      have hn : ¬ a = p + 19 := fun g => by
        have := hP.2.2.1
        rcases MoS_kd hw.1 h1 h2 with ⟨q, k⟩ | ⟨q, k⟩ | ⟨q, k⟩ | ⟨q, k⟩ <;> rw [g, this] at k <;> cases k
      rw [gs a hn, g2 a (by omega)]
    refine ⟨(MoS_okF m3.1).2.2.2.2.2.2.2.2, ?_⟩
    have hwl := MoS_lt hw.1
    refine c44 m3 hw3 (by omega) (fun h4 hf hm => ?_)
    rw [rV_s]
    have old : ∀ c, c < h.length → ¬ c = p + 19 → h4[c]? = h[c]? := fun c hc hn => by rw [hf.2.2.2 c (by omega), gs c hn, g2 c hc]
    have ep4 := old p (by omega) (by omega)
    have e194 : h4[p + 19]? = (sR h2 (p + 19) (ii i) h.length)[p + 19]? := hf.2.2.2 _ (by omega)
    have e204 := old (p + 20) (by omega) (by omega)
    have x4 : xR h4 (p + 19) = upf (xR h (p + 19)) i (some h.length) := by rw [same_xR e194, xr, if_pos rfl]
    have hm9 := MoS_lt hP.2.2.2.2.1
    refine hK h4 h.length ⟨hP.1, by rw [same_kd ep4, fR_kd, same_kd ep4, ← fR_kd]; exact hP.2.1, by rw [same_kd e194, kd_sR]; exact k19, by rw [same_kd e204]; exact hP.2.2.2.1, ?_, fun j b2 hj hb2 => ?_, fun j j' b2 hj hj' g g' => ?_⟩ ⟨⟨?_, ?_, ?_, ?_⟩, fun a ha hT => old a ha (fun g => hT (Or.inl g))⟩ x4 hm (Or.inr ⟨hr, rfl⟩)
    · -- the page's own moment
      have := hP.2.2.2.2.1
      have e : ∀ a, p + 9 ≤ a → a < p + 9 + 10 → h4[a]? = h[a]? := fun a h1 h2 => old a (by omega) (by omega)
      obtain ⟨q0, q1, q2, q3, q4, q5⟩ := this
      exact ⟨q0, by rw [same_kd (e _ (by omega) (by omega))]; exact q1, by rw [same_kd (e _ (by omega) (by omega))]; exact q2, by rw [same_kd (e _ (by omega) (by omega))]; exact q3, fun i hi => by rw [same_xR (e _ (by omega) (by omega))]; exact q4 i hi, fun i hi => ⟨(q5 i hi).1, by rw [same_kd (e _ (by omega) (by omega))]; exact (q5 i hi).2⟩⟩
    · rw [x4] at hb2
      unfold upf at hb2
      by_cases q : j = i
      · rw [if_pos q] at hb2
        cases hb2
        exact ⟨⟨mw, hm⟩, by omega⟩
      · rw [if_neg q] at hb2
        obtain ⟨⟨m2', hm2⟩, hn2⟩ := hP.2.2.2.2.2.1 j b2 hj hb2
        have hl2 := MoS_lt hm2.1
        have pd := PgS_dis hP hj hb2
        exact ⟨⟨m2', MoR_eq hm2 (fun a h1 h2 => old a (by omega) (by omega))⟩, hn2⟩
    · rw [x4] at g g'
      unfold upf at g g'
      by_cases q : j = i
      · by_cases q' : j' = i
        · omega
        · rw [if_pos q] at g
          rw [if_neg q'] at g'
          cases g
          have := MoS_lt (hP.2.2.2.2.2.1 j' _ hj' g').1.S
          omega
      · by_cases q' : j' = i
        · rw [if_neg q] at g
          rw [if_pos q'] at g'
          cases g'
          have := MoS_lt (hP.2.2.2.2.2.1 j _ hj g).1.S
          omega
        · rw [if_neg q] at g
          rw [if_neg q'] at g'
          exact hP.2.2.2.2.2.2 j j' b2 hj hj' g g'
    · rw [hf.2.1, len_sR, l2]; omega
    · rw [hf.2.1, len_sR, l2]; omega
    · rw [hf.2.2.1, sl_sR, s2]; omega
    · rw [hf.2.2.1, sl_sR, s2]; omega
end Acts
