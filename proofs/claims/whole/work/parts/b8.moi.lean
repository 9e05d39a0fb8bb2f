/-! WHAT A MOMENT ALWAYS SAYS, kept -/
section Moi
variable {l : Ld} {m : Mo}
theorem tOn_mem (ok : LdOk l) {dd f : Nat} (hf : f ∈ tOn l dd) : f < ld_n l := by
  unfold tOn at hf
  rw [List.mem_map] at hf
  obtain ⟨t, ht, rfl⟩ := hf
  rw [List.mem_filter] at ht
  exact (ok.2.2.2.2.2.2.2.2.2 t ht.1).1
theorem xAll_ltN (n : Nat) : ∀ (fs : List Nat) (a : Nat), a < 2 ^ n → (∀ f ∈ fs, f < n) → fs.foldl (fun x f => x ^^^ 2 ^ f) a < 2 ^ n
  | [], a, ha, _ => ha
  | f :: fs, a, ha, hf => xAll_ltN n fs _ (Nat.xor_lt_two_pow ha (Nat.pow_lt_pow_right (by decide) (hf f (by simp)))) (fun g hg => hf g (by simp [hg]))
theorem xor_back (i f : Nat) : (i ^^^ 2 ^ f) ^^^ 2 ^ f = i := by rw [Nat.xor_assoc, Nat.xor_self, Nat.xor_zero]
theorem spr_W2 {n f : Nat} {w : Wd} (hf : f < n) (hw : ∀ x, w x = true → x < 2 ^ n) : ∀ x, spr f w x = true → x < 2 ^ n := by
  intro x hx
  unfold spr at hx
  simp only [Bool.and_eq_true, Bool.or_eq_true, decide_eq_true_eq] at hx
  rcases hx.2 with g | g
  · exact hw x g
  · have e := hw _ g
    have := Nat.xor_lt_two_pow e (Nat.pow_lt_pow_right (show 1 < 2 by decide) hf)
    rw [xor_back] at this
    exact this
theorem spr_W1 {n f : Nat} {w : Wd} {x : Nat} (hn : n ≤ 8) (hf : f < n) (hx : x < 2 ^ n) (hw : w x = true) : spr f w (x ^^^ 2 ^ f) = true := by
  have p := pow_le hn
  have := Nat.xor_lt_two_pow hx (Nat.pow_lt_pow_right (show 1 < 2 by decide) hf)
  unfold spr
  simp only [Bool.and_eq_true, Bool.or_eq_true, decide_eq_true_eq]
  refine ⟨by omega, Or.inr ?_⟩
  rw [xor_back]
  exact hw
theorem sprL_W2 {n : Nat} : ∀ (fs : List Nat) (w : Wd), (∀ f ∈ fs, f < n) → (∀ x, w x = true → x < 2 ^ n) → ∀ x, sprL fs w x = true → x < 2 ^ n
  | [], _, _, hw => hw
  | f :: fs, w, hf, hw => sprL_W2 fs (spr f w) (fun g hg => hf g (by simp [hg])) (spr_W2 (hf f (by simp)) hw)
theorem sprL_W1 {n : Nat} (hn : n ≤ 8) : ∀ (fs : List Nat) (w : Wd) (x : Nat), (∀ f ∈ fs, f < n) → x < 2 ^ n → w x = true → sprL fs w (fs.foldl (fun x f => x ^^^ 2 ^ f) x) = true
  | [], _, _, _, _, hw => hw
  | f :: fs, w, x, hf, hx, hw => sprL_W1 hn fs (spr f w) (x ^^^ 2 ^ f) (fun g hg => hf g (by simp [hg])) (Nat.xor_lt_two_pow hx (Nat.pow_lt_pow_right (by decide) (hf f (by simp)))) (spr_W1 hn (hf f (by simp)) hx hw)
theorem xfold (fs : List Nat) : ∀ (x y : Nat), fs.foldl (fun x f => x ^^^ 2 ^ f) (x ^^^ y) = x ^^^ fs.foldl (fun x f => x ^^^ 2 ^ f) y := by
  induction fs with
  | nil => intro x y; rfl
  | cons f fs ih =>
    intro x y
    rw [List.foldl_cons, List.foldl_cons, Nat.xor_assoc, ih]
theorem xAll_x (fs : List Nat) (x : Nat) : fs.foldl (fun x f => x ^^^ 2 ^ f) x = x ^^^ xAll fs := by
  have := xfold fs x 0
  rw [Nat.xor_zero] at this
  exact this
theorem MoI_sta (ok : LdOk l) : MoI l (sta l) := by
  have p := pow_le ok.1
  refine ⟨ok.2.1, Nat.zero_le _, fun q => Nat.zero_le _, fun i w _ hw => ?_, fun i _ _ => ?_⟩
  · have hw : (if 1 ≤ i ∧ i < (ld_q l).length + 1 then knK (ld_n l) (ld_so l) (la_q l (i - 1)).2.2.1 (ld_n l) else allW (ld_n l)) w = true := hw
    have g : allW (ld_n l) w = true := by
      by_cases c : 1 ≤ i ∧ i < (ld_q l).length + 1
      · rw [if_pos c] at hw
        unfold knK at hw
        rw [Bool.and_eq_true] at hw
        exact hw.1
      · rw [if_neg c] at hw
        exact hw
    unfold allW at g
    simp only [Bool.and_eq_true, decide_eq_true_eq] at g
    exact g.2
  · have a : allW (ld_n l) (ld_so l) = true := by
      unfold allW
      simp only [Bool.and_eq_true, decide_eq_true_eq]
      exact ⟨Nat.lt_of_lt_of_le ok.2.1 p, ok.2.1⟩
    show (if 1 ≤ i ∧ i < (ld_q l).length + 1 then knK (ld_n l) (ld_so l) (la_q l (i - 1)).2.2.1 (ld_n l) else allW (ld_n l)) (ld_so l) = true
    by_cases c : 1 ≤ i ∧ i < (ld_q l).length + 1
    · rw [if_pos c]
      unfold knK
      rw [a, Bool.true_and, List.all_eq_true]
      intro f _
      simp
    · rw [if_neg c]
      exact a
theorem MoI_mid (ok : LdOk l) (hI : MoI l m) (hd : mo_d m < 9999) : MoI l (mid l m) := by
  have q6 := ok.2.2.1
  refine ⟨?_, ?_, fun q => Nat.zero_le _, fun i w hi hw => ?_, fun i hi hn => ?_⟩
  · show mo_f m ^^^ xAll (tOn l (m.1 + 1)) < 2 ^ ld_n l
    exact Nat.xor_lt_two_pow hI.1 (xAll_ltN _ _ 0 (Nat.two_pow_pos _) (fun f hf => tOn_mem ok hf))
  · show m.1 + 1 ≤ 9999
    unfold mo_d at hd
    omega
  · have hw : (if i < (ld_q l).length + 1 then sprL (tOn l (m.1 + 1)) (mo_w m i) else mo_w m i) w = true := hw
    by_cases c : i < (ld_q l).length + 1
    · rw [if_pos c] at hw
      exact sprL_W2 _ _ (fun f hf => tOn_mem ok hf) (fun x hx => hI.2.2.2.1 i x hi hx) w hw
    · rw [if_neg c] at hw
      exact hI.2.2.2.1 i w hi hw
  · show (if i < (ld_q l).length + 1 then sprL (tOn l (m.1 + 1)) (mo_w m i) else mo_w m i) (mo_f m ^^^ xAll (tOn l (m.1 + 1))) = true
    rw [if_pos (by omega), ← xAll_x]
    exact sprL_W1 ok.1 _ _ _ (fun f hf => tOn_mem ok hf) hI.1 (hI.2.2.2.2 i hi hn)
theorem MoI_sw (hI : MoI l m) {i : Nat} {w : Wd} (h2 : ∀ x, w x = true → x < 2 ^ ld_n l) (h1 : w (mo_f m) = true) : MoI l (mo_sw m i w) := by
  refine ⟨hI.1, hI.2.1, hI.2.2.1, fun j x hj hx => ?_, fun j hj hn => ?_⟩
  · have hx : upf (mo_w m) i w j x = true := hx
    unfold upf at hx
    by_cases c : j = i
    · rw [if_pos c] at hx
      exact h2 x hx
    · rw [if_neg c] at hx
      exact hI.2.2.2.1 j x hj hx
  · show upf (mo_w m) i w j (mo_f m) = true
    unfold upf
    by_cases c : j = i
    · rw [if_pos c]; exact h1
    · rw [if_neg c]; exact hI.2.2.2.2 j hj hn
theorem MoI_h (hI : MoI l m) {g : Nat → Nat} (e : ∀ q, g q ≤ 24) : MoI l (m.1, m.2.1, m.2.2.1, m.2.2.2.1, g, m.2.2.2.2.2) := ⟨hI.1, hI.2.1, e, hI.2.2.2.1, hI.2.2.2.2⟩
theorem MoI_cro (ok : LdOk l) (hI : MoI l m) (hn : 0 < ld_n l) {q wt : Nat} {w : Wd} : MoI l (cro m q wt w).2 := by
  have p := pow_le ok.1
  unfold cro
  by_cases c : w (mo_f m) = false ∨ gainW (mo_w m 0) w = 0
  · rw [if_pos c]
    exact ⟨hI.1, hI.2.1, hI.2.2.1, hI.2.2.2.1, hI.2.2.2.2⟩
  rw [if_neg c]
  have k1 : ∀ x, capW (mo_w m 0) w x = true → x < 2 ^ ld_n l := fun x hx => by
    unfold capW at hx
    simp only [Bool.and_eq_true] at hx
    exact hI.2.2.2.1 0 x (by decide) (by simp_all)
  have k2 : capW (mo_w m 0) w (mo_f m) = true := by
    have a := hI.2.2.2.2 0 (Nat.zero_le _) hn
    have b : w (mo_f m) = true := by
      cases g : w (mo_f m) with
      | true => rfl
      | false => exact absurd (Or.inl g) c
    have : mo_f m < 256 := Nat.lt_of_lt_of_le hI.1 p
    unfold capW
    simp [a, b, this]
  have s := MoI_sw (i := 0) hI k1 k2
  by_cases c2 : gainW (mo_w m 0) w < wt
  · rw [if_pos c2]
    exact s
  · rw [if_neg c2]
    exact s
end Moi
