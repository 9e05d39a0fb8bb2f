/-! WHAT ONE CALLS: run -/
section Rn
variable {d : Nat} {h h1 h2 : mHeap} {s s1 s2 : Cs} {T : Nat → Prop} {P : Pg} {m m' : Mo} {p : Nat} {l : Ld} {S : List Wd} {C : Ru} {x y : Int}
theorem PgR_keep2 (hP : PgR h p P) (x : FrT T h h1) (e : ∀ a, T a → (106 ≤ a ∧ a < 116) ∨ tmC h a) (hp : 202 ≤ p) (hh : hiP h p) : PgR h1 p P := by
  refine PgR_eq hP (fun a c => x.2.2.2 a (fun t => ?_))
  have mo : ∀ b, MoS h b → b ≤ a → a < b + 10 → ¬ kd h a = (2, 0, [26]) := fun b hM h1 h2 k => by
    rcases MoS_kd hM h1 h2 with ⟨_, q⟩ | ⟨_, q⟩ | ⟨_, q⟩ | ⟨_, q⟩ <;> rw [k] at q <;> cases q
  have la : ∀ b, LaS h b → b ≤ a → a < b + 8 → ¬ kd h a = (2, 0, [26]) := fun b hL h1 h2 k => by
    rcases LaS_kd hL h1 h2 with ⟨_, q, _⟩ | ⟨_, n, q, _⟩ <;> rw [k] at q <;> cases q
  have k0 : ¬ kd h p = (2, 0, [26]) := fun k => by rw [hP.1.2.1] at k; cases k
  have k19 : ¬ kd h (p + 19) = (2, 0, [26]) := fun k => by rw [hP.1.2.2.1] at k; cases k
  have k20 : ¬ kd h (p + 20) = (2, 0, [26]) := fun k => by rw [hP.1.2.2.2.1] at k; cases k
  have M := hP.1.2.2.2.2.1
  have tm : a < 202 ∧ (a < 98 ∨ 106 ≤ a) ∨ kd h a = (2, 0, [26]) := by
    rcases e a t with g | g | g | g
    · exact Or.inl (by omega)
    · exact Or.inl (by omega)
    · exact Or.inl (by omega)
    · exact Or.inr g
  rcases c with (c | c | ⟨i, b, hi, hb, c⟩) | c
  · rw [c] at tm
    rcases tm with g | g
    · omega
    · exact k0 g
  · rcases tm with g | g
    · omega
    · by_cases c1 : a < p + 19
      · exact mo (p + 9) M (by omega) (by omega) g
      · have : a = p + 19 ∨ a = p + 20 := by omega
        rcases this with q | q
        · rw [q] at g; exact k19 g
        · rw [q] at g; exact k20 g
  · have b2 := hh.2 i b hi hb
    have MX := (hP.1.2.2.2.2.2.1 i b hi hb).1
    rcases tm with g | g
    · omega
    · exact mo b MX.S (by omega) (by omega) g
  · rcases tm with g | g
    · rcases hh.1 with q | q <;> omega
    · exact la _ hP.2.1.1 c.1 c.2 g
theorem PgR_mo2 (hP : PgR h 97 P) (hh : hiP h 97) (x : FrT T h h1) (e : ∀ a, T a → (106 ≤ a ∧ a < 116) ∨ tmC h a) (hM : MoR h1 106 m') : PgR h1 97 (pg_l P, m', pg_u P, pg_t P, pg_x P) := by
  obtain ⟨l0, l1, l2, l3, l4, l5, l6, l7, l8, l9, l10, l11⟩ := hP.2
  have nk : ∀ a, (∃ q, kd h a = q ∧ ¬ q = (2, 0, [26])) → (a < 69 ∨ (73 ≤ a ∧ a < 106) ∨ (116 ≤ a ∧ a < 125) ∨ 202 ≤ a) → h1[a]? = h[a]? := fun a ⟨q, k, nq⟩ ha => x.2.2.2 a (fun t => by
    rcases e a t with g | g | g | g
    · omega
    · omega
    · omega
    · exact nq (k.symm.trans g))
  have e97 : h1[97]? = h[97]? := nk 97 ⟨_, hP.1.2.1, fun g => by cases g⟩ (by omega)
  have e117 : h1[117]? = h[117]? := nk 117 ⟨_, hP.1.2.2.2.1, fun g => by cases g⟩ (by omega)
  have f0 : fR h1 97 0 = fR h 97 0 := by rw [fR_kd, fR_kd, same_kd e97]
  have x2 : ∀ c, xR h1 c = xR h c := x.1.2
  have keep : ∀ i b2 m3, i < 20 → xR h (97 + 19) i = some b2 → MoR h b2 m3 → MoR h1 b2 m3 := fun i b2 m3 hi hb2 hm3 => by
    have b3 := hh.2 i b2 hi hb2
    refine hm3.frT x (fun a g1 g2 t => ?_)
    have kk := MoS_kd hm3.1 g1 g2
    rcases e a t with g | g | g | g
    · omega
    · omega
    · omega
    · rcases kk with ⟨_, q⟩ | ⟨_, q⟩ | ⟨_, q⟩ | ⟨_, q⟩ <;> rw [g] at q <;> cases q
  have S2 : PgS h1 97 := by
    obtain ⟨t0, t1, t2, t3, t4, t5, t6⟩ := hP.1
    refine ⟨t0, by rw [x.1.1, f0]; exact t1, by rw [x.1.1]; exact t2, by rw [x.1.1]; exact t3, x.1.MoS t4, fun i b hi hb => ?_, fun i j b hi hj g g' => ?_⟩
    · rw [x2] at hb
      obtain ⟨⟨m3, hm3⟩, hn⟩ := t5 i b hi hb
      exact ⟨⟨m3, keep i b m3 hi hb hm3⟩, hn⟩
    · rw [x2] at g g'
      exact t6 i j b hi hj g g'
  refine PgR_up hP S2 f0 (fun c g g' => ?_) hM (by rw [same_fI e97]; exact l3) l4 (fun i hi => ?_) (same_fI e97 4) (same_fI e97 6) (same_fI e97 7) (same_xA e117)
  · refine nk c ⟨_, rfl, fun k => ?_⟩ (by rcases hh.1 with u | u <;> omega)
    rcases LaS_kd l0.1 g g' with ⟨_, q, _⟩ | ⟨_, n, q, _⟩ <;> rw [k] at q <;> cases q
  · obtain ⟨b2, hb2, hm2⟩ := l5 i hi
    exact ⟨b2, by rw [x2]; exact hb2, keep i b2 _ (by omega) hb2 hm2⟩
end Rn
