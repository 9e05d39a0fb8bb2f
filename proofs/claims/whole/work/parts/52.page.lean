/-! A PAGE: what an image keeps -/
abbrev Pg : Type := Ld × Mo × List Mo × List (Nat × Bool) × Nat
def pg_l (p : Pg) : Ld := p.1
def pg_m (p : Pg) : Mo := p.2.1
def pg_u (p : Pg) : List Mo := p.2.2.1
def pg_t (p : Pg) : List (Nat × Bool) := p.2.2.2.1
def pg_x (p : Pg) : Nat := p.2.2.2.2
def pg0 : Pg := (ld0, mo0, [], [], 0)
def MoX (h : mHeap) (b : Nat) : Prop := ∃ m, MoR h b m
/-- the page's own cells, and the moments of its past, used or not -/
def PgS (h : mHeap) (p : Nat) : Prop := 64 ≤ p ∧ kd h p = (4, 4, [fR h p 0 + 3, p + 12, p + 22, 0, 0, p + 23, 0, 0]) ∧ kd h (p + 19) = (3, 3, [20]) ∧ kd h (p + 20) = (1, 1, [10]) ∧ MoS h (p + 9) ∧ (∀ i b, i < 20 → xR h (p + 19) i = some b → MoX h b ∧ ¬ b = p + 9) ∧ ∀ i j b, i < 20 → j < 20 → xR h (p + 19) i = some b → xR h (p + 19) j = some b → i = j
def PgC (h : mHeap) (p : Nat) (P : Pg) : Prop := LaR h (fR h p 0) (pg_l P) ∧ LdOk (pg_l P) ∧ MoR h (p + 9) (pg_m P) ∧ fI h p 3 = ii (pg_u P).length ∧ (pg_u P).length ≤ 20 ∧ (∀ i, i < (pg_u P).length → ∃ b, xR h (p + 19) i = some b ∧ MoR h b ((pg_u P).getD i mo0)) ∧ fI h p 4 = ii (pg_t P).length ∧ (pg_t P).length ≤ 10 ∧ (∀ t, t < (pg_t P).length → xA h (p + 20) t = ii ((pg_t P).getD t (0, false)).1) ∧ (∃ N : Nat, N < 1024 ∧ fI h p 6 = ii N ∧ ∀ t, t < (pg_t P).length → N.testBit t = ((pg_t P).getD t (0, false)).2) ∧ fI h p 7 = ii (pg_x P) ∧ pg_x P < 2147483648
def PgR (h : mHeap) (p : Nat) (P : Pg) : Prop := PgS h p ∧ PgC h p P
/-- the cells that a page's acts may change -/
def PgT (h : mHeap) (p : Nat) (a : Nat) : Prop := a = p ∨ (p + 9 ≤ a ∧ a < p + 21) ∨ ∃ i b, i < 20 ∧ xR h (p + 19) i = some b ∧ b ≤ a ∧ a < b + 10
/-- what an act on a page leaves: all else as it was -/
def FrP (T : Nat → Prop) (n s : Nat) (h h1 : mHeap) : Prop := Gr n s h h1 ∧ ∀ a, a < h.length → ¬ T a → h1[a]? = h[a]?
section Pg
variable {d b p : Nat} {h h1 : mHeap} {P : Pg}
theorem MoX.S (x : MoX h b) : MoS h b := by
  obtain ⟨m, hm⟩ := x
  exact hm.1
theorem PgS_okF (hP : PgS h p) : okF h p 4 0 2 ∧ okF h p 4 1 2 ∧ okF h p 4 2 2 ∧ okF h p 4 3 0 ∧ okF h p 4 4 0 ∧ okF h p 4 5 2 ∧ okF h p 4 6 0 ∧ okF h p 4 7 0 ∧ fR h p 1 = p + 9 ∧ fR h p 2 = p + 19 ∧ fR h p 5 = p + 20 ∧ oC h p = 4 := by
  have hk := hP.2.1
  refine ⟨?_, ?_, ?_, ?_, ?_, ?_, ?_, ?_, ?_, ?_, ?_, oC_kd hk⟩
  · rw [okF_kd, hk]; exact ⟨rfl, rfl, rfl⟩
  · rw [okF_kd, hk]; exact ⟨rfl, rfl, rfl⟩
  · rw [okF_kd, hk]; exact ⟨rfl, rfl, rfl⟩
  · rw [okF_kd, hk]; exact ⟨rfl, rfl, rfl⟩
  · rw [okF_kd, hk]; exact ⟨rfl, rfl, rfl⟩
  · rw [okF_kd, hk]; exact ⟨rfl, rfl, rfl⟩
  · rw [okF_kd, hk]; exact ⟨rfl, rfl, rfl⟩
  · rw [okF_kd, hk]; exact ⟨rfl, rfl, rfl⟩
  · rw [fR_kd, hk]; rfl
  · rw [fR_kd, hk]; rfl
  · rw [fR_kd, hk]; rfl
theorem PgS_okP (hP : PgS h p) {k : Nat} (hk : k < 8) : okP h p 4 k := by
  rw [okP_kd, hP.2.1]
  exact ⟨hP.1, rfl, rfl, hk⟩
theorem PgS_t (hP : PgS h p) {k : Nat} (hk : k = 3 ∨ k = 4 ∨ k = 6 ∨ k = 7) : tgK (kd h p) k = some 0 := by
  rw [hP.2.1]
  rcases hk with rfl | rfl | rfl | rfl <;> rfl
theorem PgS_past (hP : PgS h p) {i : Nat} (hi : i < 20) {b : Nat} (e : xR h (p + 19) i = some b) : okR h (p + 19) (ii i) ∧ eR h (p + 19) (ii i) = b := by
  have hx : (ii (i : Nat)).toNatClampNeg = i := ix_n (by omega)
  have hb := (hP.2.2.2.2.2.1 i b hi e).1.S.1
  have he : eR h (p + 19) (ii i) = b := by rw [eR_xR, hx, e]; rfl
  refine ⟨?_, he⟩
  rw [okR_kd, hP.2.2.1, hx, e]
  refine ⟨⟨rfl, rfl⟩, ?_, hb⟩
  rw [ii_lt0 (by omega) (by omega)]; omega
/-- the past's moments lie apart from the page's cells -/
theorem PgS_dis (hP : PgS h p) {i b : Nat} (hi : i < 20) (e : xR h (p + 19) i = some b) : (b + 10 ≤ p ∨ p < b) ∧ (b + 10 ≤ p + 9 ∨ p + 21 ≤ b) := by
  obtain ⟨hx, hn⟩ := hP.2.2.2.2.2.1 i b hi e
  have hM := hx.S
  have d1 := MoS_dis hM hP.2.2.2.2.1 hn
  have out : ∀ c, b ≤ c → c < b + 10 → ¬ kd h c = (3, 3, [20]) ∧ ¬ kd h c = (1, 1, [10]) ∧ ¬ ((kd h c).1 = 4 ∧ (kd h c).2.1 = 4) := by
    intro c c1 c2
    rcases MoS_kd hM c1 c2 with ⟨q, k⟩ | ⟨q, k⟩ | ⟨q, k⟩ | ⟨q, k⟩ <;> rw [k] <;> refine ⟨?_, ?_, ?_⟩ <;> first | (intro g; cases g; done) | (rintro ⟨g1, g2⟩; first | (cases g1; done) | (cases g2; done))
  have o1 : ¬ (b ≤ p + 19 ∧ p + 19 < b + 10) := fun g => (out (p + 19) g.1 g.2).1 hP.2.2.1
  have o2 : ¬ (b ≤ p + 20 ∧ p + 20 < b + 10) := fun g => (out (p + 20) g.1 g.2).2.1 hP.2.2.2.1
  have o3 : ¬ (b ≤ p ∧ p < b + 10) := fun g => (out p g.1 g.2).2.2 (by rw [hP.2.1]; exact ⟨rfl, rfl⟩)
  have b1 : ¬ b = p + 19 := fun g => by
    have := hM.2.1
    rw [g, hP.2.2.1] at this
    cases this
  have b2 : ¬ b = p + 20 := fun g => by
    have := hM.2.1
    rw [g, hP.2.2.2.1] at this
    cases this
  omega
theorem PgS_La (hP : PgS h p) {a : Nat} (hL : LaS h a) : (a + 8 ≤ p ∨ p < a) ∧ (a + 8 ≤ p + 9 ∨ p + 21 ≤ a) := by
  have d1 := MoS_LaS hP.2.2.2.2.1 hL
  have out : ∀ c, a ≤ c → c < a + 8 → ¬ kd h c = (3, 3, [20]) ∧ ¬ kd h c = (1, 1, [10]) ∧ ¬ ((kd h c).1 = 4 ∧ (kd h c).2.1 = 4) := by
    intro c c1 c2
    rcases LaS_kd hL c1 c2 with ⟨q, k1, k2⟩ | ⟨q, n, k, hn⟩
    · refine ⟨fun g => (by rw [g] at k1; cases k1), fun g => (by rw [g] at k1; cases k1), fun g => (by rw [k2] at g; cases g.2)⟩
    · rw [k]
      refine ⟨fun g => (by cases g), fun g => (by injection g with _ g; injection g with _ g; injection g with g; omega), fun g => (by cases g.1)⟩
  have o1 : ¬ (a ≤ p + 19 ∧ p + 19 < a + 8) := fun g => (out (p + 19) g.1 g.2).1 hP.2.2.1
  have o2 : ¬ (a ≤ p + 20 ∧ p + 20 < a + 8) := fun g => (out (p + 20) g.1 g.2).2.1 hP.2.2.2.1
  have o3 : ¬ (a ≤ p ∧ p < a + 8) := fun g => (out p g.1 g.2).2.2 (by rw [hP.2.1]; exact ⟨rfl, rfl⟩)
  have e := LaS_is hL
  have b1 : ¬ a = p + 19 := fun g => by rw [g, hP.2.2.1] at e; cases e.1
  have b2 : ¬ a = p + 20 := fun g => by rw [g, hP.2.2.2.1] at e; cases e.1
  omega
/-- a page whose cells all stay -/
theorem PgR_eq (hP : PgR h p P) (e : ∀ a, PgT h p a ∨ (fR h p 0 ≤ a ∧ a < fR h p 0 + 8) → h1[a]? = h[a]?) : PgR h1 p P := by
  obtain ⟨⟨s0, s1, s2, s3, s4, s5, s6⟩, l0, l1, l2, l3, l4, l5, l6, l7, l8, l9, l10, l11⟩ := hP
  have ep : h1[p]? = h[p]? := e p (Or.inl (Or.inl rfl))
  have e19 : h1[p + 19]? = h[p + 19]? := e _ (Or.inl (Or.inr (Or.inl ⟨by omega, by omega⟩)))
  have e20 : h1[p + 20]? = h[p + 20]? := e _ (Or.inl (Or.inr (Or.inl ⟨by omega, by omega⟩)))
  have em : ∀ a, p + 9 ≤ a → a < p + 9 + 10 → h1[a]? = h[a]? := fun a h1 h2 => e a (Or.inl (Or.inr (Or.inl ⟨h1, by omega⟩)))
  have eb : ∀ i b, i < 20 → xR h (p + 19) i = some b → ∀ a, b ≤ a → a < b + 10 → h1[a]? = h[a]? := fun i b hi hx a h1 h2 => e a (Or.inl (Or.inr (Or.inr ⟨i, b, hi, hx, h1, h2⟩)))
  have f0 : fR h1 p 0 = fR h p 0 := by rw [fR_kd, fR_kd, same_kd ep]
  have hm := MoR_eq l2 em
  refine ⟨⟨s0, by rw [same_kd ep, f0]; exact s1, by rw [same_kd e19]; exact s2, by rw [same_kd e20]; exact s3, hm.1, fun i b hi hx => ?_, fun i j b hi hj hx hy => ?_⟩, ?_⟩
  · rw [same_xR e19] at hx
    obtain ⟨⟨m, hm⟩, hn⟩ := s5 i b hi hx
    exact ⟨⟨m, MoR_eq hm (eb i b hi hx)⟩, hn⟩
  · rw [same_xR e19] at hx hy
    exact s6 i j b hi hj hx hy
  · refine ⟨by rw [f0]; exact LaR_eq l0 fun c h1 h2 => e c (Or.inr ⟨h1, h2⟩), l1, hm, by rw [same_fI ep]; exact l3, l4, fun i hi => ?_, by rw [same_fI ep]; exact l6, l7, fun t ht => by rw [same_xA e20]; exact l8 t ht, by rw [same_fI ep]; exact l9, by rw [same_fI ep]; exact l10, l11⟩
    obtain ⟨b, hb, hm⟩ := l5 i hi
    exact ⟨b, by rw [same_xR e19]; exact hb, MoR_eq hm (eb i b (by omega) hb)⟩
/-- hasLand -/
theorem c54 {K : Int32 → mHeap → Prop} (hP : PgR h p P) : GoCi (d + 1) 54 [.ref p] h K ↔ K (if 0 < ld_n (pg_l P) then ii 1 else ii 0) h := by
  have hL := hP.2.1
  have hn := hP.2.2.1.1
  rw [e54, b54_0]
  simp only [PgS_okF hP.1, LaS_ok hL.1, true_and, hL.2.1, rI_s]
  by_cases q : 0 < ld_n (pg_l P)
  · rw [if_neg (by rw [ii_le (by omega) (by omega) (by omega) (by omega)]; omega), if_pos q]
    simp
  · rw [if_pos (by rw [ii_le (by omega) (by omega) (by omega) (by omega)]; omega), if_neg q]
    simp
end Pg
