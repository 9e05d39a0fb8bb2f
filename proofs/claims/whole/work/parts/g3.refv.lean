/-! THE REFERENCE: its text, sign by sign, as tokens -/
def hd (B : Bt) (n p : Nat) : Nat × Nat := tk (lxA B n p) 0
def AtT (B : Bt) (n : Nat) (T : List (Nat × Nat)) (p i : Nat) : Prop := lxA B n p = T.drop i ∧ p ≤ n
/-- at the place q stands the token t (coded +1; 0 is the end) -/
def Pl (B : Bt) (n q t : Nat) : Prop := (q = n ∧ t = 0) ∨ (q < n ∧ ¬ B q = 32 ∧ t = (tok B n q).1 + 1)
def Byt (B : Bt) (n : Nat) : Prop := ∀ i, i < n → -128 ≤ B i ∧ B i ≤ 127
def sgn (B : Bt) (n p : Nat) : Int := if p < n then B p % 256 else -1
section Td
variable {B : Bt} {n p q t i k f : Nat} {T : List (Nat × Nat)}
theorem hd_end (h : n ≤ p) : hd B n p = (0, n) := by unfold hd; rw [lxA_end h]; rfl
theorem hd_blank (h : p < n) (c : B p = 32) : hd B n p = hd B n (p + 1) := by unfold hd; rw [lxA_blank h c]
theorem hd_tok (h : p < n) (c : ¬ B p = 32) : hd B n p = ((tok B n p).1 + 1, p) := by unfold hd; rw [lxA_tok h c]; rfl
theorem hd_pl : ∀ k p, p + k = n → (p ≤ (hd B n p).2 ∧ (hd B n p).2 ≤ n) ∧ Pl B n (hd B n p).2 (hd B n p).1 ∧ lxA B n (hd B n p).2 = lxA B n p
  | 0, p, h => by
    rw [hd_end (by omega), lxA_end (by omega : n ≤ p), lxA_end (Nat.le_refl n)]
    exact ⟨⟨by omega, Nat.le_refl n⟩, Or.inl ⟨rfl, rfl⟩, rfl⟩
  | k + 1, p, h => by
    by_cases c : B p = 32
    · have ih := hd_pl k (p + 1) (by omega)
      rw [hd_blank (by omega) c, lxA_blank (by omega) c]
      exact ⟨⟨by omega, ih.1.2⟩, ih.2⟩
    · rw [hd_tok (by omega) c]
      exact ⟨⟨Nat.le_refl p, (by omega : p ≤ n)⟩, Or.inr ⟨(by omega : p < n), c, rfl⟩, rfl⟩
theorem hd_le (h : p ≤ n) : p ≤ (hd B n p).2 ∧ (hd B n p).2 ≤ n := (hd_pl (n - p) p (by omega)).1
theorem hd_Pl (h : p ≤ n) : Pl B n (hd B n p).2 (hd B n p).1 := (hd_pl (n - p) p (by omega)).2.1
theorem lxA_pos (h : p ≤ n) : 0 < (lxA B n p).length := by
  rcases Nat.lt_or_ge p n with g | g
  · have e := (hd_pl (B := B) (n := n) (n - p) p (by omega)).2.2
    rw [← e]
    rcases hd_Pl (B := B) h with ⟨a, b⟩ | ⟨a, b, _⟩
    · rw [a, lxA_end (Nat.le_refl n)]; exact Nat.one_pos
    · rw [lxA_tok a b, List.length_cons]; omega
  · rw [lxA_end g]; exact Nat.one_pos
theorem AtT.lt (a : AtT B n T p i) : i < T.length := by
  have := lxA_pos (B := B) a.2
  rw [a.1, List.length_drop] at this
  omega
theorem AtT.eh (a : AtT B n T p i) : hd B n p = tk T i := by
  have l := a.lt
  unfold hd
  rw [a.1]
  unfold tk
  rw [List.drop_eq_getElem_cons l, List.getD_eq_getElem?_getD, List.getD_eq_getElem?_getD, List.getElem?_cons_zero, List.getElem?_eq_getElem l]
theorem AtT.bl (a : AtT B n T p i) : AtT B n T (tk T i).2 i ∧ Pl B n (tk T i).2 (tk T i).1 ∧ (tk T i).2 ≤ n := by
  have e := (hd_pl (B := B) (n := n) (n - p) p (by have := a.2; omega))
  rw [a.eh] at e
  exact ⟨⟨e.2.2.trans a.1, e.1.2⟩, e.2.1, e.1.2⟩
theorem AtT.nxt (a : AtT B n T p i) (c : ¬ (tk T i).1 = 0) : AtT B n T (tok B n (tk T i).2).2 (i + 1) ∧ (tk T i).2 < n := by
  obtain ⟨b, pl, le⟩ := a.bl
  rcases pl with ⟨_, g⟩ | ⟨g1, g2, g3⟩
  · exact absurd g c
  · refine ⟨⟨?_, (tok_le g1).2⟩, g1⟩
    have l := a.lt
    have := b.1
    rw [lxA_tok g1 g2, List.drop_eq_getElem_cons l] at this
    exact (List.cons.inj this).2
theorem AtT.st : AtT B n (lex B n) 0 0 := ⟨by unfold lxA lex; rw [List.drop_zero]; rfl, Nat.zero_le _⟩
/-- which of the signs it is -/
theorem isSm_i {c : Int} : isSm c = true ↔ 97 ≤ c ∧ c ≤ 122 := by unfold isSm; exact decide_eq_true_iff
theorem isDg_i {c : Int} : isDg c = true ↔ 48 ≤ c ∧ c ≤ 57 := by unfold isDg; exact decide_eq_true_iff
theorem wdT_sm {len : Nat} : wdT B q len wrds 300 = 258 ∨ (300 ≤ wdT B q len wrds 300 ∧ wdT B q len wrds 300 < 319) := by
  rcases wdT_is (B := B) (q := q) (len := len) wrds 300 with g | ⟨j, h1, h2, _⟩
  · exact Or.inl g
  · have : wrds.length = 19 := rfl
    omega
/-- the token, by the kind of its first sign -/
theorem tok_k (h : q < n) : (isSm (B q) = true ∧ (258 = (tok B n q).1 ∨ (260 ≤ (tok B n q).1 ∧ (tok B n q).1 < 268) ∨ (300 ≤ (tok B n q).1 ∧ (tok B n q).1 < 319)) ∧ (tok B n q).2 = rnE isSm B n (q + 1)) ∨ (¬ isSm (B q) = true ∧ isDg (B q) = true ∧ 1000 ≤ (tok B n q).1 ∧ (tok B n q).2 = rnE isDg B n q) ∨ (¬ isSm (B q) = true ∧ ¬ isDg (B q) = true ∧ ((q + 1 < n ∧ B (q + 1) = 61 ∧ ((B q = 60 ∧ (tok B n q).1 = 256) ∨ (B q = 62 ∧ (tok B n q).1 = 257)) ∧ (tok B n q).2 = q + 2) ∨ (¬ (q + 1 < n ∧ B (q + 1) = 61 ∧ (B q = 60 ∨ B q = 62)) ∧ (tok B n q).1 = (B q % 256).toNat ∧ (tok B n q).2 = q + 1))) := by
  unfold tok
  by_cases c1 : isSm (B q) = true
  · rw [if_pos c1]
    refine Or.inl ⟨c1, ?_, rfl⟩
    show 258 = (if 1 < rnE isSm B n (q + 1) - q then wdT B q (rnE isSm B n (q + 1) - q) wrds 300 else if B q - 97 < 8 then (260 + (B q - 97)).toNat else 258) ∨ _
    have sm := isSm_i.mp c1
    split
    · rcases wdT_sm (B := B) (q := q) (len := rnE isSm B n (q + 1) - q) with g | g
      · exact Or.inl g.symm
      · exact Or.inr (Or.inr g)
    · split
      · exact Or.inr (Or.inl ⟨by omega, by omega⟩)
      · exact Or.inl rfl
  rw [if_neg c1]
  by_cases c2 : isDg (B q) = true
  · rw [if_pos c2]
    refine Or.inr (Or.inl ⟨c1, c2, ?_, rfl⟩)
    show 1000 ≤ (if 5 < rnE isDg B n q - q then 101000 else 1000 + nuV B q (rnE isDg B n q - q))
    split
    · omega
    · omega
  rw [if_neg c2]
  refine Or.inr (Or.inr ⟨c1, c2, ?_⟩)
  by_cases c3 : q + 1 < n ∧ B (q + 1) = 61 ∧ (B q = 60 ∨ B q = 62)
  · rw [if_pos c3]
    refine Or.inl ⟨c3.1, c3.2.1, ?_, rfl⟩
    rcases c3.2.2 with g | g
    · rw [if_pos g]; exact Or.inl ⟨g, rfl⟩
    · rw [if_neg (by omega)]; exact Or.inr ⟨g, rfl⟩
  · rw [if_neg c3]
    exact Or.inr ⟨c3, rfl, rfl⟩
theorem pl_sg (hb : Byt B n) (h : Pl B n q t) {c : Int} (h0 : 0 ≤ c) (hc : c < 256) (h1 : ¬ (97 ≤ c ∧ c ≤ 122)) (h2 : ¬ (48 ≤ c ∧ c ≤ 57)) (h3 : ¬ c = 60) (h4 : ¬ c = 62) : sgn B n q = c ↔ (t : Int) = c + 1 := by
  unfold sgn
  rcases h with ⟨e, et⟩ | ⟨a, b, et⟩
  · rw [if_neg (by omega)]; omega
  · rw [if_pos a]
    have r := hb q a
    rcases tok_k (B := B) a with ⟨g, g2, _⟩ | ⟨_, g, g2, _⟩ | ⟨_, _, ⟨_, _, g, _⟩ | ⟨_, g, _⟩⟩
    · have := isSm_i.mp g; omega
    · have := isDg_i.mp g; omega
    · omega
    · omega
theorem pl_lt (hb : Byt B n) (h : Pl B n q t) : sgn B n q = 60 ↔ t = 61 ∨ t = 257 := by
  unfold sgn
  rcases h with ⟨e, et⟩ | ⟨a, b, et⟩
  · rw [if_neg (by omega)]; omega
  · rw [if_pos a]
    have r := hb q a
    rcases tok_k (B := B) a with ⟨g, g2, _⟩ | ⟨_, g, g2, _⟩ | ⟨_, _, ⟨_, _, g, _⟩ | ⟨_, g, _⟩⟩
    · have := isSm_i.mp g; omega
    · have := isDg_i.mp g; omega
    · omega
    · omega
theorem pl_gt (hb : Byt B n) (h : Pl B n q t) : sgn B n q = 62 ↔ t = 63 ∨ t = 258 := by
  unfold sgn
  rcases h with ⟨e, et⟩ | ⟨a, b, et⟩
  · rw [if_neg (by omega)]; omega
  · rw [if_pos a]
    have r := hb q a
    rcases tok_k (B := B) a with ⟨g, g2, _⟩ | ⟨_, g, g2, _⟩ | ⟨_, _, ⟨_, _, g, _⟩ | ⟨_, g, _⟩⟩
    · have := isSm_i.mp g; omega
    · have := isDg_i.mp g; omega
    · omega
    · omega
theorem pl_dg (hb : Byt B n) (h : Pl B n q t) : (48 ≤ sgn B n q ∧ sgn B n q ≤ 57) ↔ 1001 ≤ t := by
  unfold sgn
  rcases h with ⟨e, et⟩ | ⟨a, b, et⟩
  · rw [if_neg (by omega)]; omega
  · rw [if_pos a]
    have r := hb q a
    rcases tok_k (B := B) a with ⟨g, g2, _⟩ | ⟨_, g, g2, _⟩ | ⟨h1, h2, ⟨_, _, g, _⟩ | ⟨_, g, _⟩⟩
    · have := isSm_i.mp g; omega
    · have := isDg_i.mp g; omega
    · omega
    · have : ¬ (48 ≤ B q ∧ B q ≤ 57) := fun z => h2 (isDg_i.mpr z)
      omega
theorem pl_ne (h : Pl B n q t) (c : ¬ t = 0) : q < n ∧ (tok B n q).1 + 1 = t := by
  rcases h with ⟨_, g⟩ | ⟨a, _, g⟩
  · exact absurd g c
  · exact ⟨a, g.symm⟩
/-- one sign, one token -/
theorem pl_one (hb : Byt B n) (h : Pl B n q t) (c0 : ¬ t = 0) (c : t ≤ 256) : (tok B n q).2 = q + 1 := by
  obtain ⟨a, e⟩ := pl_ne h c0
  rcases tok_k (B := B) a with ⟨_, g2, _⟩ | ⟨_, _, g2, _⟩ | ⟨_, _, ⟨_, _, g, _⟩ | ⟨_, g, z⟩⟩
  · omega
  · omega
  · omega
  · exact z
/-- behind a sign less or more: is it "or the same" -/
theorem pl_same (hb : Byt B n) (h : Pl B n q t) (c : t = 61 ∨ t = 257 ∨ t = 63 ∨ t = 258) : (sgn B n (q + 1) = 61 ↔ t = 257 ∨ t = 258) ∧ (tok B n q).2 = (if t = 257 ∨ t = 258 then q + 2 else q + 1) := by
  obtain ⟨a, e⟩ := pl_ne h (by omega)
  have r := hb q a
  unfold sgn
  rcases tok_k (B := B) a with ⟨_, g2, _⟩ | ⟨_, _, g2, _⟩ | ⟨_, _, ⟨g1, g2, g, z⟩ | ⟨g1, g, z⟩⟩
  · omega
  · omega
  · rw [if_pos g1, g2, if_pos (by omega)]
    exact ⟨by omega, z⟩
  · rw [if_neg (show ¬ (t = 257 ∨ t = 258) by omega)]
    refine ⟨⟨fun y => ?_, fun y => by omega⟩, z⟩
    exfalso
    by_cases c2 : q + 1 < n
    · rw [if_pos c2] at y
      have r2 := hb (q + 1) c2
      exact g1 ⟨c2, by omega, by omega⟩
    · rw [if_neg c2] at y
      omega
/-- a word stands here -/
theorem wrds_l : ∀ k, k < 19 → 2 ≤ (wrds.getD k []).length := by decide +kernel
theorem wrds_u : ∀ j, j < 19 → ∀ k, k < 19 → wrds.getD j [] = wrds.getD k [] → j = k := by decide +kernel
theorem mtc_i {len : Nat} {w : List Int32} : mtc B q len w = true ↔ w.length = len ∧ ∀ j, j < w.length → B (q + j) = (w.getD j 0).toInt := by
  unfold mtc
  rw [Bool.and_eq_true, List.all_eq_true]
  constructor
  · exact fun g => ⟨of_decide_eq_true g.1, fun j hj => of_decide_eq_true (g.2 j (List.mem_range.mpr hj))⟩
  · exact fun g => ⟨decide_eq_true g.1, fun j hj => decide_eq_true (g.2 j (List.mem_range.mp hj))⟩
theorem mtc_u {len : Nat} {w v : List Int32} (a : mtc B q len w = true) (b : mtc B q len v = true) : w = v := by
  obtain ⟨a1, a2⟩ := mtc_i.mp a
  obtain ⟨b1, b2⟩ := mtc_i.mp b
  refine List.ext_getElem (by omega) (fun j h1 h2 => ?_)
  have e := (a2 j h1).symm.trans (b2 j h2)
  rw [List.getD_eq_getElem?_getD, List.getD_eq_getElem?_getD, List.getElem?_eq_getElem h1, List.getElem?_eq_getElem h2, Option.getD_some, Option.getD_some] at e
  exact Int32.toInt_inj.mp e
theorem wdT_no {len : Nat} : ∀ (ws : List (List Int32)) (k : Nat), 259 ≤ k → wdT B q len ws k = 258 → ∀ j, j < ws.length → ¬ mtc B q len (ws.getD j []) = true
  | [], _, _, _, j, hj => absurd hj (Nat.not_lt_zero j)
  | w :: ws, k, hk, e, j, hj => by
    have e' : (if mtc B q len w = true then k else wdT B q len ws (k + 1)) = 258 := e
    by_cases c : mtc B q len w = true
    · rw [if_pos c] at e'; omega
    · rw [if_neg c] at e'
      cases j with
      | zero => exact c
      | succ j => exact wdT_no ws (k + 1) (by omega) e' j (by rw [List.length_cons] at hj; omega)
theorem wdT_y {len : Nat} (hk : k < 19) (m : mtc B q len (wrds.getD k []) = true) : wdT B q len wrds 300 = 300 + k := by
  have l19 : wrds.length = 19 := rfl
  rcases wdT_is (B := B) (q := q) (len := len) wrds 300 with g | ⟨j, h1, h2, h3⟩
  · exact absurd m (wdT_no wrds 300 (by decide) g k (by omega))
  · rw [h2, wrds_u j (by omega) k hk (mtc_u h3 m)]
theorem pl_w (h : Pl B n q t) (hk : k < 19) : (mtc B q (rnE isSm B n q - q) (wrds.getD k []) = true ↔ t = 301 + k) ∧ (t = 301 + k → (tok B n q).2 = q + (wrds.getD k []).length) := by
  have l2 := wrds_l k hk
  have no : rnE isSm B n q = q → ¬ t = 301 + k → (mtc B q (rnE isSm B n q - q) (wrds.getD k []) = true ↔ t = 301 + k) ∧ (t = 301 + k → (tok B n q).2 = q + (wrds.getD k []).length) := fun e nt => by
    refine ⟨⟨fun m => ?_, fun g => absurd g nt⟩, fun g => absurd g nt⟩
    have := (mtc_i.mp m).1
    omega
  rcases h with ⟨e, et⟩ | ⟨a, b, et⟩
  · exact no (rnE_n (by omega)) (by omega)
  by_cases c1 : isSm (B q) = true
  rotate_left
  · refine no (rnE_n (fun g => c1 g.2)) ?_
    rcases tok_k (B := B) a with ⟨g, _⟩ | ⟨_, _, g2, _⟩ | ⟨_, _, ⟨_, _, g, _⟩ | ⟨_, g, _⟩⟩
    · exact absurd g c1
    · omega
    · omega
    · omega
  have ry := rnE_y (p := isSm) (B := B) (n := n) a c1
  have le := rnE_le (p := isSm) (B := B) (n := n) (q + 1) (by omega)
  have sm := isSm_i.mp c1
  rw [ry]
  have ek : (tok B n q) = (if 1 < rnE isSm B n (q + 1) - q then wdT B q (rnE isSm B n (q + 1) - q) wrds 300 else if B q - 97 < 8 then (260 + (B q - 97)).toNat else 258, rnE isSm B n (q + 1)) := if_pos c1
  rw [et, ek]
  show (_ ↔ (if 1 < rnE isSm B n (q + 1) - q then wdT B q (rnE isSm B n (q + 1) - q) wrds 300 else if B q - 97 < 8 then (260 + (B q - 97)).toNat else 258) + 1 = 301 + k) ∧ ((if 1 < rnE isSm B n (q + 1) - q then wdT B q (rnE isSm B n (q + 1) - q) wrds 300 else if B q - 97 < 8 then (260 + (B q - 97)).toNat else 258) + 1 = 301 + k → rnE isSm B n (q + 1) = q + (wrds.getD k []).length)
  by_cases c2 : 1 < rnE isSm B n (q + 1) - q
  · rw [if_pos c2]
    have back : wdT B q (rnE isSm B n (q + 1) - q) wrds 300 + 1 = 301 + k → mtc B q (rnE isSm B n (q + 1) - q) (wrds.getD k []) = true := fun e => by
      rcases wdT_is (B := B) (q := q) (len := rnE isSm B n (q + 1) - q) wrds 300 with g | ⟨j, h1, h2, h3⟩
      · omega
      · have : j = k := by omega
        rw [← this]
        exact h3
    refine ⟨⟨fun m => by rw [wdT_y hk m]; omega, back⟩, fun e => ?_⟩
    have := (mtc_i.mp (back e)).1
    omega
  · rw [if_neg c2]
    refine ⟨⟨fun m => ?_, fun e => ?_⟩, fun e => ?_⟩
    · have := (mtc_i.mp m).1
      omega
    · split at e <;> omega
    · split at e <;> omega
/-- a letter stands here -/
theorem pl_l (h : Pl B n q t) (hf : f < 8) : (rnE isSm B n q - q = 1 ∧ B q = 97 + f) ↔ t = 261 + f := by
  rcases h with ⟨e, et⟩ | ⟨a, b, et⟩
  · rw [rnE_n (by omega)]; omega
  by_cases c1 : isSm (B q) = true
  rotate_left
  · rw [rnE_n (fun g => c1 g.2)]
    rcases tok_k (B := B) a with ⟨g, _⟩ | ⟨_, _, g2, _⟩ | ⟨_, _, ⟨_, _, g, _⟩ | ⟨_, g, _⟩⟩
    · exact absurd g c1
    · omega
    · omega
    · omega
  have ry := rnE_y (p := isSm) (B := B) (n := n) a c1
  have le := rnE_le (p := isSm) (B := B) (n := n) (q + 1) (by omega)
  have sm := isSm_i.mp c1
  rw [ry]
  have ek : (tok B n q) = (if 1 < rnE isSm B n (q + 1) - q then wdT B q (rnE isSm B n (q + 1) - q) wrds 300 else if B q - 97 < 8 then (260 + (B q - 97)).toNat else 258, rnE isSm B n (q + 1)) := if_pos c1
  rw [et, ek]
  show _ ↔ (if 1 < rnE isSm B n (q + 1) - q then wdT B q (rnE isSm B n (q + 1) - q) wrds 300 else if B q - 97 < 8 then (260 + (B q - 97)).toNat else 258) + 1 = 261 + f
  by_cases c2 : 1 < rnE isSm B n (q + 1) - q
  · rw [if_pos c2]
    have := wdT_sm (B := B) (q := q) (len := rnE isSm B n (q + 1) - q)
    omega
  · rw [if_neg c2]
    split
    · omega
    · omega
end Td
