/-! WHAT HOLDS BETWEEN CALLS -/
abbrev Cs : Type := (Bt × Nat) × List Wd × List Ru × Pg × (Nat → Option Pg)
def cs_B (s : Cs) : Bt := s.1.1
def cs_n (s : Cs) : Nat := s.1.2
def cs_S (s : Cs) : List Wd := s.2.1
def cs_C (s : Cs) : List Ru := s.2.2.1
def cs_P (s : Cs) : Pg := s.2.2.2.1
def cs_I (s : Cs) : Nat → Option Pg := s.2.2.2.2
/-- what a moment always says -/
def MoI (l : Ld) (m : Mo) : Prop := mo_f m < 2 ^ ld_n l ∧ mo_d m ≤ 9999 ∧ (∀ q, mo_h m q ≤ 24) ∧ (∀ i w, i < 7 → mo_w m i w = true → w < 2 ^ ld_n l) ∧ ∀ i, i ≤ (ld_q l).length → 0 < ld_n l → mo_w m i (mo_f m) = true
/-- what a page always says -/
def PgI (S : List Wd) (P : Pg) : Prop := MoI (pg_l P) (pg_m P) ∧ (∀ t, t < (pg_t P).length → ((pg_t P).getD t (0, false)).1 < S.length) ∧ (∀ m ∈ pg_u P, MoI (pg_l P) m) ∧ (0 < ld_n (pg_l P) ∨ pg_l P = ld0)
/-- where a page's parts may lie -/
def hiP (h : mHeap) (p : Nat) : Prop := (fR h p 0 = 98 ∨ 202 ≤ fR h p 0) ∧ ∀ i b, i < 20 → xR h (p + 19) i = some b → 202 ≤ b
def CiR (h : mHeap) (C : List Ru) : Prop := kd h 123 = (3, 5, [6]) ∧ fI h 64 5 = ii C.length ∧ C.length ≤ 6 ∧ ∀ k, k < C.length → ∃ r, xR h 123 k = some r ∧ 202 ≤ r ∧ RuR h r (C.getD k [])
def CiI (h : mHeap) (S : List Wd) (I : Nat → Option Pg) : Prop := kd h 124 = (3, 4, [4]) ∧ (∀ k, k < 4 → I k = none → xR h 124 k = none) ∧ (∀ k Q, k < 4 → I k = some Q → ∃ q, xR h 124 k = some q ∧ 202 ≤ q ∧ PgR h q Q ∧ PgI S Q ∧ PgD h 97 q ∧ hiP h q) ∧ ∀ j k q q', j < 4 → k < 4 → ¬ j = k → xR h 124 j = some q → xR h 124 k = some q' → PgD h q q'
def CI (h : mHeap) (s : Cs) : Prop := (St h ∧ TbS h ∧ TxS h ∧ TxB h (cs_B s) (cs_n s) ∧ kd h 118 = (4, 7, [68, 0]) ∧ RrS h ∧ xA h 121 0 = ii ((0 : Nat) : Int)) ∧ (SyR h (cs_S s) ∧ CiR h (cs_C s)) ∧ (PgR h 97 (cs_P s) ∧ PgI (cs_S s) (cs_P s) ∧ hiP h 97) ∧ (AdO h ∧ AdP h ∧ kd h 136 = (4, 1, [100, 72, 140, 141, 0, 0, 0]) ∧ kd h 137 = (2, 0, [10]) ∧ MoX h 138) ∧ CiI h (cs_S s) (cs_I s) ∧ 202 ≤ h.length
def tmC (h : mHeap) (a : Nat) : Prop := (69 ≤ a ∧ a < 73) ∨ (125 ≤ a ∧ a < 148) ∨ kd h a = (2, 0, [26])
section Inv
variable {h h1 : mHeap} {s : Cs} {T : Nat → Prop} {P : Pg} {S : List Wd} {p : Nat}
theorem PgI.f8 (hI : PgI S P) (ok : LdOk (pg_l P)) : mo_f (pg_m P) < 256 := Nat.lt_of_lt_of_le hI.1.1 (pow_le ok.1)
theorem PgI.n0 (hI : PgI S P) (e : 0 < (ld_q (pg_l P)).length) : 0 < ld_n (pg_l P) := hI.2.2.2.elim id (fun g => by rw [g] at e; exact absurd e (Nat.lt_irrefl 0))
theorem PgI.w (ok : LdOk (pg_l P)) : ∀ o, o < (ld_q (pg_l P)).length → (la_q (pg_l P) o).2.1 ≤ 128 := fun o ho => (ok.2.2.2.2.2.2.1 _ (la_q_mem ho)).2.1.2
/-- a page that lies apart stays as it is -/
theorem PgR_keep (hP : PgR h p P) (x : FrT T h h1) (e : ∀ a, T a → tmC h a) (hp : p = 97 ∨ 202 ≤ p) (hh : hiP h p) : PgR h1 p P := by
  refine PgR_eq hP (fun a c => x.2.2.2 a (fun t => ?_))
  have tm := e a t
  have mo : ∀ b, MoS h b → b ≤ a → a < b + 10 → ¬ kd h a = (2, 0, [26]) := fun b hM h1 h2 k => by
    rcases MoS_kd hM h1 h2 with ⟨_, q⟩ | ⟨_, q⟩ | ⟨_, q⟩ | ⟨_, q⟩ <;> rw [k] at q <;> cases q
  have la : ∀ b, LaS h b → b ≤ a → a < b + 8 → ¬ kd h a = (2, 0, [26]) := fun b hL h1 h2 k => by
    rcases LaS_kd hL h1 h2 with ⟨_, q, _⟩ | ⟨_, n, q, _⟩ <;> rw [k] at q <;> cases q
  have k0 : ¬ kd h p = (2, 0, [26]) := fun k => by rw [hP.1.2.1] at k; cases k
  have k19 : ¬ kd h (p + 19) = (2, 0, [26]) := fun k => by rw [hP.1.2.2.1] at k; cases k
  have k20 : ¬ kd h (p + 20) = (2, 0, [26]) := fun k => by rw [hP.1.2.2.2.1] at k; cases k
  have M := hP.1.2.2.2.2.1
  rcases c with (c | c | ⟨i, b, hi, hb, c⟩) | c
  · rw [c] at tm
    rcases tm with g | g | g
    · omega
    · omega
    · exact k0 g
  · rcases tm with g | g | g
    · omega
    · omega
    · by_cases c1 : a < p + 19
      · exact mo (p + 9) M (by omega) (by omega) g
      · have : a = p + 19 ∨ a = p + 20 := by omega
        rcases this with q | q
        · rw [q] at g; exact k19 g
        · rw [q] at g; exact k20 g
  · have b2 := hh.2 i b hi hb
    have MX := (hP.1.2.2.2.2.2.1 i b hi hb).1
    rcases tm with g | g | g
    · omega
    · omega
    · exact mo b MX.S (by omega) (by omega) g
  · rcases tm with g | g | g
    · rcases hh.1 with q | q <;> omega
    · rcases hh.1 with q | q <;> omega
    · exact la _ hP.2.1.1 c.1 c.2 g
theorem fR_sk (x : Sk h h1) (a k : Nat) : fR h1 a k = fR h a k := by rw [fR_kd, fR_kd, x.1]
theorem hiP.sk (hh : hiP h p) (x : Sk h h1) : hiP h1 p := ⟨by rw [fR_sk x]; exact hh.1, fun i b hi hb => hh.2 i b hi (by rw [← x.2]; exact hb)⟩
theorem PgD.sk {q : Nat} (hD : PgD h p q) (x : Sk h h1) : PgD h1 p q := by
  unfold PgD
  rw [x.2 (p + 19), x.2 (q + 19)]
  exact hD
/-- what only works leaves all that holds -/
theorem CI.tm (hC : CI h s) (x : FrT T h h1) (e : ∀ a, T a → tmC h a) (hS : SyR h1 (cs_S s)) (hX : MoX h1 138) : CI h1 s := by
  obtain ⟨⟨a1, a2, a3, a4, a5, a6, a7⟩, ⟨b1, b2⟩, ⟨c1, c2, c3⟩, ⟨d1, d2, d3, d4, d5⟩, ⟨f1, f2, f3, f4⟩, g1⟩ := hC
  have kn : ∀ a, a < 69 ∨ (73 ≤ a ∧ a < 125) → ¬ kd h a = (2, 0, [26]) → h1[a]? = h[a]? := fun a ha k => x.2.2.2 a (fun t => by
    rcases e a t with g | g | g
    · omega
    · omega
    · exact k g)
  have s65 : h1[65]? = h[65]? := kn 65 (by omega) (fun k => by rw [a3.1] at k; cases k)
  have s66 : h1[66]? = h[66]? := kn 66 (by omega) (fun k => by rw [a3.2.1] at k; cases k)
  have s64 : h1[64]? = h[64]? := kn 64 (by omega) (fun k => by unfold TbS at a2; rw [a2] at k; cases k)
  have s121 : h1[121]? = h[121]? := kn 121 (by omega) (fun k => by rw [a6.2.2.1] at k; cases k)
  refine ⟨⟨St_get a1 (fun b hb => kn b (by omega) (fun k => ?_)), by unfold TbS; rw [x.1.1]; exact a2, a3.sk x.1, ⟨by rw [same_fI s65]; exact a4.1, a4.2.1, fun i hi => by rw [same_xA s66]; exact a4.2.2 i hi⟩, by rw [x.1.1]; exact a5, a6.sk x.1, by rw [same_xA s121]; exact a7⟩, ⟨hS, by rw [x.1.1]; exact b2.1, by rw [same_fI s64]; exact b2.2.1, b2.2.2.1, fun k hk => ?_⟩, ⟨PgR_keep c1 x e (Or.inl rfl) c3, c2, c3.sk x.1⟩, ⟨d1.fr x.1, d2.fr x.1, by rw [x.1.1]; exact d3, by rw [x.1.1]; exact d4, hX⟩, ⟨by rw [x.1.1]; exact f1, fun k hk hn => by rw [x.1.2]; exact f2 k hk hn, fun k Q hk hQ => ?_, fun j k q q' hj hk ne e1 e2 => ?_⟩, by rw [x.2.1]; exact g1⟩
  · -- the cells of the constants
    obtain ⟨X, hX2⟩ := a1
    have e0 := hX2 b hb
    have i0 : b = 0 ∨ b = 1 ∨ (∃ i, i < 28 ∧ b = 2 + i) ∨ (∃ i, i < 28 ∧ b = 30 + i) ∨ 58 ≤ b := by
      by_cases q0 : b = 0
      · exact Or.inl q0
      by_cases q1 : b = 1
      · exact Or.inr (Or.inl q1)
      by_cases q2 : b < 30
      · exact Or.inr (Or.inr (Or.inl ⟨b - 2, by omega, by omega⟩))
      by_cases q3 : b < 58
      · exact Or.inr (Or.inr (Or.inr (Or.inl ⟨b - 30, by omega, by omega⟩)))
      · exact Or.inr (Or.inr (Or.inr (Or.inr (by omega))))
    have stt : St h := ⟨X, hX2⟩
    rcases i0 with q | q | ⟨i, hi, q⟩ | ⟨i, hi, q⟩ | q
    · subst q
      have : h[0]? = some (mI .int X) := by rw [e0]; rfl
      rw [kd_some this] at k
      cases k
    · subst q; rw [St_kd stt] at k; cases k
    · subst q; rw [(St_str stt hi).1] at k; cases k
    · subst q; rw [(St_str stt hi).2.1] at k; cases k
    · have : h[b]? = some (mO 99 []) := by
        rw [e0]
        unfold mS0
        rw [show b = (56 + (b - 58)) + 1 + 1 by omega, List.getElem?_cons_succ, List.getElem?_cons_succ, List.getElem?_append_right (by rw [List.length_map, List.length_range]; omega), List.length_map, List.length_range, List.getElem?_append_right (by rw [List.length_map, List.length_range]; omega), List.length_map, List.length_range, List.getElem?_replicate, if_pos (by omega)]
      rw [kd_some this] at k
      cases k
  · obtain ⟨r, r1, r2, r3⟩ := b2.2.2.2 k hk
    refine ⟨r, by rw [x.1.2]; exact r1, r2, r3.frT x (fun a h1 h2 t => ?_)⟩
    obtain ⟨n, sr, _⟩ := r3
    rcases e a t with g | g | g
    · omega
    · omega
    · have : a = r ∨ a = r + 1 ∨ a = r + 2 ∨ a = r + 3 := by omega
      rcases this with q | q | q | q
      · rw [q, sr.2.1] at g; cases g
      · rw [q, sr.2.2.1] at g; cases g
      · rw [q, sr.2.2.2.1] at g; cases g
      · rw [q, sr.2.2.2.2.1] at g; cases g
  · obtain ⟨q, q1, q2, q3, q4, q5, q6⟩ := f3 k Q hk hQ
    exact ⟨q, by rw [x.1.2]; exact q1, q2, PgR_keep q3 x e (Or.inr q2) q6, q4, q5.sk x.1, q6.sk x.1⟩
  · rw [x.1.2] at e1 e2
    exact (f4 j k q q' hj hk ne e1 e2).sk x.1
end Inv
