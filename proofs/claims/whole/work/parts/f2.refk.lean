/-! WALKS: shortest ways are even and never longer than a way through another place -/
section Sc
variable {f g : Nat → Nat} {p b i j a c k n : Nat} {l : Ld}
def mn (f : Nat → Nat) (b a c : Nat) : Nat := if f (6 * a + b) + f (6 * b + c) < f (6 * a + c) then f (6 * a + b) + f (6 * b + c) else f (6 * a + c)
theorem wyO_at (hp : p ≤ 6) (hb : b < 6) (hi : i < 6) (h0 : f (6 * b + b) = 0) : ∀ k, k ≤ 6 → ∀ a c, a < 6 → c < 6 → (List.range k).foldl (fun f j => shorten f i j (f (6 * i + b) + f (6 * b + j))) f (6 * a + c) = if a = i ∧ c < k then mn f b i c else f (6 * a + c) := by
  intro k
  induction k with
  | zero => intro _ a c _ _; rw [if_neg (by omega)]; rfl
  | succ k ih =>
    intro hk a c ha hc
    rw [List.range_succ, List.foldl_append, List.foldl_cons, List.foldl_nil]
    have g := ih (by omega)
    generalize (List.range k).foldl (fun f j => shorten f i j (f (6 * i + b) + f (6 * b + j))) f = F at *
    have e1 : F (6 * i + b) = f (6 * i + b) := by
      rw [g i b hi hb]
      by_cases q : i = i ∧ b < k
      · rw [if_pos q]; unfold mn; rw [h0, Nat.add_zero, if_neg (Nat.lt_irrefl _)]
      · rw [if_neg q]
    have e2 : F (6 * b + k) = f (6 * b + k) := by rw [g b k hb (by omega), if_neg (by omega)]
    have e3 : F (6 * i + k) = f (6 * i + k) := by rw [g i k hi (by omega), if_neg (by omega)]
    rw [sh_at hi (by omega) ha hc, e1, e2, e3, g a c ha hc]
    by_cases q : a = i ∧ c = k
    · rw [if_pos q, if_pos (show a = i ∧ c < k + 1 by omega), q.2]
      rfl
    · rw [if_neg q]
      by_cases q2 : a = i ∧ c < k
      · rw [if_pos q2, if_pos (show a = i ∧ c < k + 1 by omega)]
      · rw [if_neg q2, if_neg (show ¬ (a = i ∧ c < k + 1) by omega)]
theorem wyI_at (hp : p ≤ 6) (hb : b < 6) (h0 : f (6 * b + b) = 0) : ∀ k, k ≤ 6 → ∀ a c, a < 6 → c < 6 → (List.range k).foldl (fun f i => wyO p b i f) f (6 * a + c) = if a < k ∧ c < p then mn f b a c else f (6 * a + c) := by
  intro k
  induction k with
  | zero => intro _ a c _ _; rw [if_neg (by omega)]; rfl
  | succ k ih =>
    intro hk a c ha hc
    rw [List.range_succ, List.foldl_append, List.foldl_cons, List.foldl_nil]
    have g := ih (by omega)
    generalize (List.range k).foldl (fun f i => wyO p b i f) f = F at *
    have hbb : F (6 * b + b) = 0 := by
      rw [g b b hb hb]
      by_cases q : b < k ∧ b < p
      · rw [if_pos q]; unfold mn; rw [h0, Nat.add_zero, if_neg (Nat.lt_irrefl _)]
      · rw [if_neg q]; exact h0
    have e := wyO_at (f := F) (i := k) hp hb (by omega) hbb p hp a c ha hc
    unfold wyO
    rw [e]
    by_cases q : a = k ∧ c < p
    · rw [if_pos q, if_pos (show a < k + 1 ∧ c < p by omega)]
      obtain ⟨q1, q2⟩ := q
      subst q1
      unfold mn
      have e1 : F (6 * a + b) = f (6 * a + b) := by rw [g a b ha hb, if_neg (by omega)]
      have e3 : F (6 * a + c) = f (6 * a + c) := by rw [g a c ha hc, if_neg (by omega)]
      have e2 : F (6 * b + c) = f (6 * b + c) := by
        rw [g b c hb hc]
        by_cases q : b < a ∧ c < p
        · rw [if_pos q]; unfold mn; rw [h0, Nat.zero_add, if_neg (Nat.lt_irrefl _)]
        · rw [if_neg q]
      rw [e1, e2, e3]
    · rw [if_neg q, g a c ha hc]
      by_cases q2 : a < k ∧ c < p
      · rw [if_pos q2, if_pos (show a < k + 1 ∧ c < p by omega)]
      · rw [if_neg q2, if_neg (show ¬ (a < k + 1 ∧ c < p) by omega)]
theorem wyI_mn (hp : p ≤ 6) (hb : b < p) (h0 : f (6 * b + b) = 0) (ha : a < p) (hc : c < p) : wyI p b f (6 * a + c) = mn f b a c := by
  have := wyI_at (f := f) hp (by omega) h0 p hp a c (by omega) (by omega)
  rw [if_pos ⟨ha, hc⟩] at this
  exact this
def Mtr (p k : Nat) (f : Nat → Nat) : Prop := (∀ i, i < p → f (6 * i + i) = 0) ∧ (∀ i j, i < p → j < p → f (6 * i + j) = f (6 * j + i)) ∧ ∀ m i j, m < k → i < p → j < p → f (6 * i + j) ≤ f (6 * i + m) + f (6 * m + j)
theorem Mtr_in (hp : p ≤ 6) (hb : b < p) (h : Mtr p b f) : Mtr p (b + 1) (wyI p b f) := by
  obtain ⟨d0, sy, tr⟩ := h
  have w : ∀ a c, a < p → c < p → wyI p b f (6 * a + c) = mn f b a c := fun a c ha hc => wyI_mn hp hb (d0 b hb) ha hc
  have mle : ∀ a c, mn f b a c ≤ f (6 * a + c) ∧ mn f b a c ≤ f (6 * a + b) + f (6 * b + c) ∧ (mn f b a c = f (6 * a + c) ∨ mn f b a c = f (6 * a + b) + f (6 * b + c)) := fun a c => by
    unfold mn
    split <;> omega
  have mb : ∀ a, a < p → mn f b a b = f (6 * a + b) ∧ mn f b b a = f (6 * b + a) := fun a ha => by
    have := d0 b hb
    unfold mn
    rw [this]
    constructor
    · rw [Nat.add_zero, if_neg (Nat.lt_irrefl _)]
    · rw [Nat.zero_add, if_neg (Nat.lt_irrefl _)]
  refine ⟨fun i hi => ?_, fun i j hi hj => ?_, fun m i j hm hi hj => ?_⟩
  · rw [w i i hi hi]
    have := (mle i i).1
    have := d0 i hi
    omega
  · rw [w i j hi hj, w j i hj hi]
    unfold mn
    rw [sy i j hi hj, sy i b hi hb, sy b j hb hj, Nat.add_comm]
  · rw [w i j hi hj, w i m hi (by omega), w m j (by omega) hj]
    by_cases q : m = b
    · subst q
      rw [(mb i hi).1, (mb j hj).2]
      exact (mle i j).2.1
    · have hm2 : m < b := by omega
      have t1 := tr m i j hm2 hi hj
      have t2 := tr m b j hm2 hb hj
      have t3 := tr m i b hm2 hi hb
      have a0 := mle i j
      have a1 := (mle i m).2.2
      have a2 := (mle m j).2.2
      omega
theorem Mtr_all (hp : p ≤ 6) (h : Mtr p 0 f) : Mtr p p (wyB p p f) := by
  have R : ∀ k, k ≤ p → Mtr p k ((List.range k).foldl (fun f b => wyI p b f) f) := by
    intro k
    induction k with
    | zero => intro _; exact h
    | succ k ih =>
      intro hk
      rw [List.range_succ, List.foldl_append, List.foldl_cons, List.foldl_nil]
      exact Mtr_in hp (by omega) (ih (by omega))
  exact R p (Nat.le_refl _)
theorem Rel_path2 (hp : p ≤ 6) : ∀ (ws : List (Nat × Nat × Nat)) (f g : Nat → Nat), (∀ w ∈ ws, w.1 < p ∧ w.2.1 < p ∧ ¬ w.1 = w.2.1 ∧ w.2.2 ≤ 9) → Rel p 9 f g → Sym p f → Rel p 9 (ws.foldl (fun f w => shorten (shorten f w.1 w.2.1 w.2.2) w.2.1 w.1 w.2.2) f) (ws.foldl (fun f w => rsh f w.1 w.2.1 w.2.2) g) ∧ Sym p (ws.foldl (fun f w => shorten (shorten f w.1 w.2.1 w.2.2) w.2.1 w.1 w.2.2) f) := by
  intro ws
  induction ws with
  | nil => intro f g _ h s; exact ⟨h, s⟩
  | cons w ws ih =>
    intro f g hw h s
    have a := hw w List.mem_cons_self
    have b := Rel_ps hp a.1 a.2.1 a.2.2.1 a.2.2.2 h s
    exact ih _ _ (fun x hx => hw x (List.mem_cons_of_mem _ hx)) b.1 b.2
theorem wy_met (ok : LdOk l) : Mtr (ld_p l).length (ld_p l).length (wy l) := by
  have p6 := ok.2.2.2.1
  have p0 := Rel_p0 p6
  have R := Rel_path2 p6 (ld_w l) wy0 ry0 (fun w hw => by
    have := ok.2.2.2.2.2.2.2.2.1 w hw
    exact ⟨this.1, this.2.1, this.2.2.1, by omega⟩) p0.1 p0.2
  exact Mtr_all p6 ⟨fun i hi => (R.1.2.2 i (by omega)).2 hi, R.2, fun m i j hm => absurd hm (Nat.not_lt_zero _)⟩
/-! the least over the bits of a set -/
def mnI (g : Nat → Bool) (f : Nat → Nat) (m0 n : Nat) : Nat := itr (fun m p => if g p = true then (if f p < m then f p else m) else m) m0 n
theorem mnI_s {g : Nat → Bool} {m0 : Nat} : mnI g f m0 (n + 1) = if g n = true then (if f n < mnI g f m0 n then f n else mnI g f m0 n) else mnI g f m0 n := rfl
theorem mnI_is {g : Nat → Bool} {m0 : Nat} : ∀ n, mnI g f m0 n ≤ m0 ∧ (∀ p, p < n → g p = true → mnI g f m0 n ≤ f p) ∧ (mnI g f m0 n = m0 ∨ ∃ p, p < n ∧ g p = true ∧ mnI g f m0 n = f p) := by
  intro n
  induction n with
  | zero => exact ⟨Nat.le_refl _, fun p hp => absurd hp (Nat.not_lt_zero _), Or.inl rfl⟩
  | succ n ih =>
    obtain ⟨a, b, c⟩ := ih
    rw [mnI_s]
    by_cases q : g n = true
    · rw [if_pos q]
      by_cases q2 : f n < mnI g f m0 n
      · rw [if_pos q2]
        refine ⟨by omega, fun p hp gp => ?_, Or.inr ⟨n, by omega, q, rfl⟩⟩
        by_cases e : p = n
        · rw [e]; exact Nat.le_refl _
        · have := b p (by omega) gp; omega
      · rw [if_neg q2]
        refine ⟨a, fun p hp gp => ?_, ?_⟩
        · by_cases e : p = n
          · rw [e]; omega
          · exact b p (by omega) gp
        · rcases c with c | ⟨p, c1, c2⟩
          · exact Or.inl c
          · exact Or.inr ⟨p, by omega, c2⟩
    · rw [if_neg q]
      refine ⟨a, fun p hp gp => ?_, ?_⟩
      · by_cases e : p = n
        · rw [e] at gp; exact absurd gp q
        · exact b p (by omega) gp
      · rcases c with c | ⟨p, c1, c2⟩
        · exact Or.inl c
        · exact Or.inr ⟨p, by omega, c2⟩
theorem bc_1 : ∀ p, p < 6 → ∀ N, N < 64 → N.testBit p = true → bc (N - 2 ^ p) + 1 = bc N ∧ N - 2 ^ p < N ∧ 2 ^ p ≤ N := by decide +kernel
theorem bc_00 : ∀ N, N < 64 → (bc N = 0 ↔ N = 0) := by decide +kernel
theorem hrT_m {X : Nat → Nat} {fr ot : Nat} : hrT X (k + 1) fr ot = if ot = 0 then X (6 * fr) else mnI (fun p => ot.testBit p) (fun p => X (6 * fr + p) + hrT X k p (ot - 2 ^ p)) 1000 6 := rfl
theorem mnI_cong {g : Nat → Bool} {m0 : Nat} {f' : Nat → Nat} : ∀ n, (∀ p, p < n → g p = true → f p = f' p) → mnI g f m0 n = mnI g f' m0 n := by
  intro n
  induction n with
  | zero => intro _; rfl
  | succ n ih =>
    intro h
    rw [mnI_s, mnI_s, ih (fun p hp => h p (by omega))]
    by_cases q : g n = true
    · rw [if_pos q, if_pos q, h n (by omega) q]
    · rw [if_neg q, if_neg q]
/-- fuel enough is enough -/
theorem hrT_fu {X : Nat → Nat} : ∀ k fr ot, ot < 64 → bc ot ≤ k → hrT X k fr ot = hrT X (bc ot) fr ot := by
  intro k
  induction k with
  | zero => intro fr ot _ h; rw [show bc ot = 0 by omega]
  | succ k ih =>
    intro fr ot h64 h
    by_cases c : ot = 0
    · subst c
      rw [hrT_m, if_pos rfl]
      rfl
    · have b0 : ¬ bc ot = 0 := fun e => c ((bc_00 ot h64).mp e)
      obtain ⟨b, hb⟩ : ∃ b, bc ot = b + 1 := ⟨bc ot - 1, by omega⟩
      rw [hb, hrT_m, hrT_m, if_neg c, if_neg c]
      refine mnI_cong 6 (fun p hp gp => ?_)
      have b1 := bc_1 p hp ot h64 gp
      rw [ih p (ot - 2 ^ p) (by omega) (by omega)]
      rw [show b = bc (ot - 2 ^ p) by omega]
def tw (X : Nat → Nat) (fr ot : Nat) : Nat := hrT X (bc ot) fr ot
theorem tw_0 {X : Nat → Nat} {fr : Nat} : tw X fr 0 = X (6 * fr) := rfl
theorem tw_s {X : Nat → Nat} {fr ot : Nat} (h64 : ot < 64) (c : ¬ ot = 0) : tw X fr ot = mnI (fun p => ot.testBit p) (fun p => X (6 * fr + p) + tw X p (ot - 2 ^ p)) 1000 6 := by
  have b0 : ¬ bc ot = 0 := fun e => c ((bc_00 ot h64).mp e)
  obtain ⟨b, hb⟩ : ∃ b, bc ot = b + 1 := ⟨bc ot - 1, by omega⟩
  unfold tw
  rw [hb, hrT_m, if_neg c]
  refine mnI_cong 6 (fun p hp gp => ?_)
  have b1 := bc_1 p hp ot h64 gp
  rw [show b = bc (ot - 2 ^ p) by omega]
def inP (p ot : Nat) : Prop := ∀ i, ot.testBit i = true → i < p
theorem sub_bit : ∀ p, p < 6 → ∀ N, N < 64 → N.testBit p = true → ∀ i, i < 6 → (N - 2 ^ p).testBit i = (N.testBit i && !decide (i = p)) := by decide +kernel
theorem bit_ge6 {N i : Nat} (h : N < 64) (hi : 6 ≤ i) : N.testBit i = false := by
  apply Nat.testBit_lt_two_pow
  have : 2 ^ 6 ≤ 2 ^ i := p2_6 hi
  omega
theorem inP_sub {ot q : Nat} (h64 : ot < 64) (hq : q < 6) (b : ot.testBit q = true) (h : inP p ot) : inP p (ot - 2 ^ q) := fun i hi => by
  by_cases c : i < 6
  · rw [sub_bit q hq ot h64 b i c, Bool.and_eq_true] at hi
    exact h i hi.1
  · have b1 := bc_1 q hq ot h64 b
    rw [bit_ge6 (by omega) (by omega)] at hi
    cases hi
/-- one more place on the way is never shorter -/
theorem tw_tri (hp : p ≤ 6) {X : Nat → Nat} (M : Mtr p p X) (X0 : ∀ i, X i ≤ 1000) (h0 : 0 < p) : ∀ ot, ot < 64 → inP p ot → ∀ a b, a < p → b < p → tw X a ot ≤ X (6 * a + b) + tw X b ot := by
  intro ot h64 hin a b ha hb
  by_cases c : ot = 0
  · subst c
    rw [tw_0, tw_0]
    have := M.2.2 b a 0 hb ha h0
    rw [Nat.add_zero, Nat.add_zero] at this
    exact this
  · rw [tw_s h64 c, tw_s h64 c]
    have A := mnI_is (g := fun p => ot.testBit p) (f := fun p => X (6 * a + p) + tw X p (ot - 2 ^ p)) (m0 := 1000) 6
    have B := mnI_is (g := fun p => ot.testBit p) (f := fun p => X (6 * b + p) + tw X p (ot - 2 ^ p)) (m0 := 1000) 6
    rcases B.2.2 with e | ⟨q, q1, q2, q3⟩
    · rw [e]; omega
    · have A2 : mnI (fun p => ot.testBit p) (fun p => X (6 * a + p) + tw X p (ot - 2 ^ p)) 1000 6 ≤ X (6 * a + q) + tw X q (ot - 2 ^ q) := A.2.1 q q1 q2
      have q3 : mnI (fun p => ot.testBit p) (fun p => X (6 * b + p) + tw X p (ot - 2 ^ p)) 1000 6 = X (6 * b + q) + tw X q (ot - 2 ^ q) := q3
      have := M.2.2 b a q hb ha (hin q q2)
      omega
/-- the place of the bridge itself costs nothing -/
theorem tw_zero (hp : p ≤ 6) {X : Nat → Nat} (M : Mtr p p X) (X0 : ∀ i, X i ≤ 1000) (h0 : 0 < p) : ∀ n ot, bc ot = n → ot < 64 → inP p ot → ot.testBit 0 = true → ∀ a, a < p → tw X a (ot - 1) ≤ tw X a ot := by
  intro n
  induction n with
  | zero =>
    intro ot hb h64 _ hbit
    have := (bc_00 ot h64).mp hb
    subst this
    rw [Nat.zero_testBit] at hbit
    cases hbit
  | succ n ih =>
    intro ot hb h64 hin hbit a ha
    have b10 := bc_1 0 (by decide) ot h64 hbit
    have e1 : ot - 2 ^ 0 = ot - 1 := rfl
    rw [e1] at b10
    have hin1 : inP p (ot - 1) := by
      have := inP_sub h64 (q := 0) (by decide) hbit hin
      rw [e1] at this
      exact this
    have c : ¬ ot = 0 := by omega
    have tl : ∀ q o, o < 64 → tw X q o ≤ 1000 := fun q o _ => hrT_le X0 _ _ _
    rw [tw_s (ot := ot) h64 c]
    have B := mnI_is (g := fun p => ot.testBit p) (f := fun p => X (6 * a + p) + tw X p (ot - 2 ^ p)) (m0 := 1000) 6
    rcases B.2.2 with e | ⟨q, q1, q2, q3⟩
    · rw [e]; exact tl _ _ (by omega)
    · have q3 : mnI (fun p => ot.testBit p) (fun p => X (6 * a + p) + tw X p (ot - 2 ^ p)) 1000 6 = X (6 * a + q) + tw X q (ot - 2 ^ q) := q3
      rw [q3]
      have hq := hin q q2
      by_cases c0 : q = 0
      · subst c0
        have := tw_tri hp M X0 h0 (ot - 1) (by omega) hin1 a 0 ha h0
        rw [e1]
        exact this
      · have bq := bc_1 q q1 ot h64 q2
        have bitq : (ot - 2 ^ q).testBit 0 = true := by
          rw [sub_bit q q1 ot h64 q2 0 (by decide), hbit, decide_eq_false (fun e => c0 e.symm)]
          rfl
        have r := ih (ot - 2 ^ q) (by omega) (by omega) (inP_sub h64 q1 q2 hin) bitq q hq
        have bit1 : (ot - 1).testBit q = true := by
          have := sub_bit 0 (by decide) ot h64 hbit q q1
          rw [e1] at this
          rw [this, q2, decide_eq_false c0]
          rfl
        have c1 : ¬ ot - 1 = 0 := fun e => by rw [e, Nat.zero_testBit] at bit1; cases bit1
        rw [tw_s (ot := ot - 1) (by omega) c1]
        have A := mnI_is (g := fun p => (ot - 1).testBit p) (f := fun p => X (6 * a + p) + tw X p (ot - 1 - 2 ^ p)) (m0 := 1000) 6
        have A2 : mnI (fun p => (ot - 1).testBit p) (fun p => X (6 * a + p) + tw X p (ot - 1 - 2 ^ p)) 1000 6 ≤ X (6 * a + q) + tw X q (ot - 1 - 2 ^ q) := A.2.1 q q1 bit1
        rw [show ot - 1 - 2 ^ q = ot - 2 ^ q - 1 by omega] at A2
        omega
theorem tw_z2 (hp : p ≤ 6) {X : Nat → Nat} (M : Mtr p p X) (X0 : ∀ i, X i ≤ 1000) (h0 : 0 < p) {ot : Nat} (h64 : ot < 64) (hin : inP p ot) (hbit : ot.testBit 0 = true) : tw X 0 ot = tw X 0 (ot - 1) := by
  have g := tw_zero hp M X0 h0 (bc ot) ot rfl h64 hin hbit 0 h0
  have c : ¬ ot = 0 := fun e => by rw [e, Nat.zero_testBit] at hbit; cases hbit
  rw [tw_s h64 c] at g ⊢
  have B := mnI_is (g := fun p => ot.testBit p) (f := fun p => X (6 * 0 + p) + tw X p (ot - 2 ^ p)) (m0 := 1000) 6
  have B2 : mnI (fun p => ot.testBit p) (fun p => X (6 * 0 + p) + tw X p (ot - 2 ^ p)) 1000 6 ≤ X (6 * 0 + 0) + tw X 0 (ot - 1) := B.2.1 0 (by decide) hbit
  have := M.1 0 h0
  omega
end Sc
