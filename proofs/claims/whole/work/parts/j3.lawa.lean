/-! ONE CALL OF BOTH -/
def LW (X : List Int32) (n0 : Nat) (h : mHeap) (s : Cs) (i : Nat) : Prop := CI h s ∧ RI h s ∧ h[0]? = some (mI .int X) ∧ h.length ≤ 202 + 1000 * i ∧ mSlots h ≤ n0 + 12000 * i
section Lw
variable {h h1 h2 : mHeap} {s : Cs} {X : List Int32}
theorem CI.mv (hC : CI h s) (hSt : St h1) (hle : h.length ≤ h1.length) (e : ∀ a, 64 ≤ a → a < h.length → ¬ (148 ≤ a ∧ a < 202) → h1[a]? = h[a]?) : CI h1 s := by
  obtain ⟨⟨a1, a2, a3, a4, a5, a6, a7⟩, ⟨b1, b2⟩, ⟨c1, c2, c3⟩, ⟨d1, d2, d3, d4, d5⟩, f, g1⟩ := hC
  have e' : ∀ a, 64 ≤ a ∧ a < 148 → h1[a]? = h[a]? := fun a g => e a g.1 (by omega) (by omega)
  have eT : ∀ a, a < h.length → ¬ (a < 64 ∨ (148 ≤ a ∧ a < 202)) → h1[a]? = h[a]? := fun a g n => e a (by omega) g (by omega)
  have p : PgR h1 97 (cs_P s) := PgR_eq c1 (fun a ha => by
    have lt := PgR_lt c1 ha
    rcases ha with ha | ha
    · rcases hiP_T c3 ha with g | g | g
      · exact e a (by omega) lt (by omega)
      · exact e a (by omega) lt (by omega)
      · exact e a (by omega) lt (by omega)
    · rcases c3.1 with g | g
      · exact e a (by omega) lt (by omega)
      · exact e a (by omega) lt (by omega))
  have r : CiR h1 (cs_C s) := CiR_eq (T := fun a => a < 64 ∨ (148 ≤ a ∧ a < 202)) b2 g1 eT (fun a t => Or.inl ⟨by omega, by omega, by omega⟩)
  have hl : 202 ≤ h1.length := by omega
  have k' : ∀ a, 64 ≤ a ∧ a < 148 → kd h1 a = kd h a := fun a g => same_kd (e' a g)
  have x19 : xR h1 (97 + 19) = xR h (97 + 19) := same_xR (e' _ (by omega))
  have i : CiI h1 (cs_S s) (cs_I s) := CiI_eq (T := fun a => a < 64 ∨ (148 ≤ a ∧ a < 202)) f c1.1 g1 eT (fun a t => Or.inl ⟨by omega, by omega, by omega⟩) (PgN_of x19) (Nat.le_refl _)
  have f0 : fR h1 97 0 = fR h 97 0 := by rw [fR_kd, fR_kd, k' 97 (by omega)]
  refine ⟨⟨hSt, by unfold TbS; rw [k' 64 (by omega)]; exact a2, ⟨by rw [k' 65 (by omega)]; exact a3.1, by rw [k' 66 (by omega)]; exact a3.2.1, by rw [k' 67 (by omega)]; exact a3.2.2.1, by rw [k' 68 (by omega)]; exact a3.2.2.2⟩, ⟨by rw [same_fI (e' 65 (by omega))]; exact a4.1, a4.2.1, fun i hi => by rw [same_xA (e' 66 (by omega))]; exact a4.2.2 i hi⟩, by rw [k' 118 (by omega)]; exact a5, ⟨by rw [k' 119 (by omega)]; exact a6.1, by rw [k' 120 (by omega)]; exact a6.2.1, by rw [k' 121 (by omega)]; exact a6.2.2.1, by rw [k' 122 (by omega)]; exact a6.2.2.2⟩, by rw [same_xA (e' 121 (by omega))]; exact a7⟩, ⟨SyR_eq b1 (fun a g g' => e' a (by omega)), r⟩, ⟨p, c2, by rw [f0]; exact c3.1, fun i b hi hb => c3.2 i b hi (by rw [← x19]; exact hb)⟩, ⟨⟨by have := d1.1; unfold AdS at this ⊢; rw [k' 125 (by omega)]; exact this, fun c g g' => by rw [k' c (by omega)]; exact d1.2 c g g'⟩, ⟨by rw [k' 127 (by omega)]; exact d2.1, fun i hi => by rw [same_xR (e' 127 (by omega))]; exact d2.2.1 i hi, by rw [k' 128 (by omega)]; exact d2.2.2.1, by rw [k' 129 (by omega)]; exact d2.2.2.2.1, by rw [k' 130 (by omega)]; exact d2.2.2.2.2.1, ⟨d2.2.2.2.2.2.1.1, by rw [k' 126 (by omega)]; exact d2.2.2.2.2.2.1.2⟩, fun i hi => ⟨(d2.2.2.2.2.2.2 i hi).1, by rw [k' _ (by omega)]; exact (d2.2.2.2.2.2.2 i hi).2⟩⟩, by rw [k' 136 (by omega)]; exact d3, by rw [k' 137 (by omega)]; exact d4, ?_⟩, i, hl⟩
  obtain ⟨m, hm⟩ := d5
  exact ⟨m, MoR_eq hm (fun a g g' => e' a (by omega))⟩
theorem CsI_of (hC : CI h s) : CsI s := by
  obtain ⟨⟨a1, a2, a3, a4, a5, a6, a7⟩, ⟨b1, b2⟩, ⟨c1, c2, c3⟩, _, ⟨f1, f2, f3, f4⟩, g1⟩ := hC
  refine ⟨⟨(pg_106 c1).2.2.2, c2⟩, b1.2.2.1, fun C hCm => ?_, ⟨fun i hi => (a4.2.2 i hi).2, a4.2.1⟩, fun k Q hk hQ => ?_⟩
  · obtain ⟨k, hk, e⟩ := List.mem_iff_getElem.mp hCm
    obtain ⟨r, _, _, r3⟩ := b2.2.2.2 k hk
    obtain ⟨n, _, _, _, ok, _⟩ := r3
    rw [List.getD_eq_getElem?_getD, List.getElem?_eq_getElem hk, Option.getD_some, e] at ok
    exact ok
  · obtain ⟨q, _, _, q3, q4, _⟩ := f3 k Q hk hQ
    exact ⟨q3.2.2.1, q4⟩
theorem RI.same (hI : RI h s) (hC : CsI s) (hSt : St h1) (hl : 202 ≤ h1.length) (e : ∀ a, 148 ≤ a → a < 202 → h1[a]? = h[a]?) : RI h1 s := by
  obtain ⟨⟨a1, a2⟩, b, c, f, p, g⟩ := hI
  have e0 : ∀ k, fI h1 148 k = fI h 148 k := fun k => same_fI (e 148 (by decide) (by decide)) k
  have ea : ∀ a, 148 ≤ a → a < 202 → xA h1 a = xA h a := fun a g1 g2 => same_xA (e a g1 g2)
  refine ⟨⟨⟨hSt, hl, fun k hk => by rw [same_kd (e _ (by omega) (by omega))]; exact a1.2.2 k hk⟩, by rw [e0]; exact a2⟩, ⟨by rw [e0]; exact b.1, b.2.1, fun i hi => by rw [ea 175 (by decide) (by decide)]; exact b.2.2 i hi⟩, ⟨by rw [e0]; exact c.1, c.2.1, fun k hk => by rw [ea 183 (by decide) (by decide)]; exact c.2.2 k hk⟩, ⟨by rw [e0]; exact f.1, f.2.1, fun k hk => RRr_eq (f.2.2 k hk) (fun a g1 g2 => ea a (by omega) (by omega))⟩, RPg_cong p hC.1.1 (e0 59) (fun r i hr _ _ _ _ _ _ => ?_), fun k hk => ?_⟩
  · rw [lv_x (by omega), lv_x (by omega), ea r (by omega) (by omega)]
  · rw [ea 201 (by decide) (by decide)]
    rcases g k hk with q | ⟨q, Q, q1, q2⟩
    · exact Or.inl q
    · refine Or.inr ⟨q, Q, q1, RPg_cong q2 (hC.2.2.2.2 k Q hk q1).1 ?_ (fun r i h1 h2 h3 h4 h5 h6 h7 => ?_)⟩
      · rw [iv_at, iv_at, ea 200 (by decide) (by decide)]
      · rw [iv_at, iv_at, ea 200 (by decide) (by decide)]
theorem sX_all {x : mCell} : sX (fun a => 64 ≤ a) x := by
  match x with
  | .inl q => trivial
  | .inr (.inl q) => trivial
  | .inr (.inr (.inl (c, xs))) => exact fun a _ => (Nat.lt_or_ge a 64).symm
  | .inr (.inr (.inr (c, fs))) => exact fun v _ a _ => (Nat.lt_or_ge a 64).symm
theorem GoCi_low {d y : Nat} {as : List Value} {K : Int32 → mHeap → Prop} (h64 : 64 ≤ h.length) (g : GoCi d y as h K) : GoCi d y as h (fun v h1 => K v h1 ∧ ∀ a, a < 64 → h1[a]? = h[a]?) := by
  have g2 := GoC_safe (P := fun a => 64 ≤ a) (fun v _ a _ => (Nat.lt_or_ge a 64).symm) (fun a x _ _ => sX_all) (fun a ha => Nat.le_trans h64 ha) g
  exact GoC_mono (fun r h1 ⟨⟨v, e, k⟩, _, _, q⟩ => ⟨v, e, k, fun a ha => q a (Nat.not_le.mpr ha)⟩) g2
theorem lw_1 {a b i : Nat} (h1 : b ≤ a + 1000) (h2 : a ≤ 202 + 1000 * i) : b ≤ 202 + 1000 * (i + 1) := by
  rw [Nat.mul_add, Nat.mul_one, ← Nat.add_assoc]
  exact Nat.le_trans h1 (Nat.add_le_add_right h2 1000)
theorem lw_2 {a b n0 i : Nat} (h1 : b ≤ a + 12000) (h2 : a ≤ n0 + 12000 * i) : b ≤ n0 + 12000 * (i + 1) := by
  rw [Nat.mul_add, Nat.mul_one, ← Nat.add_assoc]
  exact Nat.le_trans h1 (Nat.add_le_add_right h2 12000)
theorem law_call {n0 i D y y2 : Nat} {as : List Value} {V : Int → Cs → Prop} (hL : LW X n0 h s i) (cls : ∀ K : Int32 → mHeap → Prop, (∀ h1 r s', Nx h h1 s' → V r s' → K (ii r) h1) → GoCi D y (.ref 64 :: as) h K) (ref : ∀ h1 r s', RI h1 s → CsI s → V r s' → ∀ K : Int32 → mHeap → Prop, (∀ h2, RI h2 s' → K (ii r) h2) → GoCi D y2 (.ref 148 :: as) h1 K) (hy : refM y2 = true) (ha : ∀ v ∈ as, ∃ x, v = .int x) : GoCi D y (.ref 64 :: as) h (fun v1 h1 => (h1[0]? = some (mI .int X) ∧ oC h1 148 = 12) ∧ GoCi D y2 (.ref 148 :: as) h1 (fun v2 h2 => v1 = v2 ∧ ∃ s', LW X n0 h2 s' (i + 1))) := by
  obtain ⟨hC, hI, h0, l1, l2⟩ := hL
  have cs := CsI_of hC
  have h202 := hC.2.2.2.2.2
  have g := cls (fun v h1 => ∃ r s', v = ii r ∧ Nx h h1 s' ∧ V r s') (fun h1 r s' n v => ⟨r, s', rfl, n, v⟩)
  refine GoCi_mono (GoCi_low (by omega) g) (fun v1 h1 ⟨⟨r, s', ev, nx, vv⟩, lo⟩ => ?_)
  subst ev
  obtain ⟨n1, ⟨m1, m2, m3, m4⟩, n3⟩ := nx
  have I1 : RI h1 s := hI.same cs n1.1.1 n1.2.2.2.2.2 n3
  refine ⟨⟨by rw [lo 0 (by decide)]; exact h0, (RS.ok I1.1.1).1⟩, ?_⟩
  have g2 := ref h1 r s' I1 cs vv (fun v2 h2 => v2 = ii r ∧ RI h2 s') (fun h2 hI2 => ⟨rfl, hI2⟩)
  have hS : sS rP (.ref 148 :: as) := fun v hv => by
    rcases List.mem_cons.mp hv with q | q
    · subst q
      exact sv_P ⟨by decide, by decide⟩
    · obtain ⟨x, rfl⟩ := ha v q
      exact sv_int
  have g3 := GoC_ref hy hS I1.1.1 g2
  refine GoC_mono (fun r' h2 ⟨⟨v2, e2, e3, hI2⟩, _, out⟩ => ⟨v2, e2, e3.symm, s', ?_⟩) g3
  refine ⟨n1.mv hI2.1.1.1 (by rw [out.1]; exact Nat.le_refl _) (fun a _ _ n => out.2.2 a n), hI2, ?_, by rw [out.1]; exact lw_1 m2 l1, by rw [out.2.1]; exact lw_2 m4 l2⟩
  rw [out.2.2 0 (fun q => by have := q.1; omega), lo 0 (by decide)]
  exact h0
end Lw
