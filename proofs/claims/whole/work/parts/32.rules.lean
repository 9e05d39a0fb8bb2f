/-! RULES: SWITCHES, FIELDS, ARRAYS, CALLS, RETURNS -/
/-- a switch as a chain of questions -/
def gSw (lo : Int) (ts : List Int) (x : Int32) (f : Nat → Prop) (dflt : Prop) : Prop := match ts with
  | [] => dflt
  | t :: r => if x = ii lo then f t.toNat else gSw (lo + 1) r x f dflt
def gLk (ps : List (Int × Int)) (x : Int32) (f : Nat → Prop) (dflt : Prop) : Prop := match ps with
  | [] => dflt
  | p :: r => if x = ii p.1 then f p.2.toNat else gLk r x f dflt
theorem ii_toInt {z : Int} (h1 : -2147483648 ≤ z) (h2 : z < 2147483648) : (ii z).toInt = z := by
  unfold ii
  rw [Int32.toInt_ofInt]
  show Int.bmod z (2 ^ 32) = z
  rw [Int.bmod_eq_of_le (by simp; omega) (by simp; omega)]
theorem eq_ii {x : Int32} {z : Int} (h1 : -2147483648 ≤ z) (h2 : z < 2147483648) : x = ii z ↔ x.toInt = z := by
  constructor
  · rintro rfl; exact ii_toInt h1 h2
  · intro h
    apply Int32.toInt_inj.mp
    rw [ii_toInt h1 h2, h]
section R
variable {d m pc nx : Nat} {L : mLoc} {st : List Value} {h : mHeap} {Q : Option Value → mHeap → Prop}
theorem gSw_get (x : Int32) (f : Nat → Prop) (dflt : Prop) : ∀ (ts : List Int) (lo : Int), -2147483648 ≤ lo → lo + ts.length < 2147483648 → (gSw lo ts x f dflt ↔ if x.toInt < lo ∨ lo + ts.length ≤ x.toInt then dflt else ∃ t, ts[(x.toInt - lo).toNat]? = some t ∧ f t.toNat) := by
  intro ts
  induction ts with
  | nil =>
    intro lo h1 h2
    rw [if_pos (by simp; omega)]
    exact Iff.rfl
  | cons t r ih =>
    intro lo h1 h2
    have hl : ((t :: r).length : Int) = r.length + 1 := by simp
    rw [hl] at h2 ⊢
    unfold gSw
    by_cases c : x = ii lo
    · rw [if_pos c]
      have := (eq_ii h1 (by omega)).mp c
      rw [if_neg (by omega)]
      rw [show (x.toInt - lo).toNat = 0 by omega]
      simp
    · rw [if_neg c, ih (lo + 1) (by omega) (by omega)]
      have : ¬ x.toInt = lo := fun e => c ((eq_ii h1 (by omega)).mpr e)
      by_cases q : x.toInt < lo ∨ lo + (r.length + 1) ≤ x.toInt
      · rw [if_pos q, if_pos (by omega)]
      · rw [if_neg q, if_neg (by omega)]
        rw [show (x.toInt - lo).toNat = (x.toInt - (lo + 1)).toNat + 1 by omega, List.getElem?_cons_succ]
theorem G_tableswitch {dt lo hi : Int} {os : Array Int} {x : Int32} (ts : List Int) (ho : os = ts.toArray) (h1 : -2147483648 ≤ lo) (h2 : hi + 1 = lo + ts.length) (h3 : hi < 2147483647) (hf : mFetch m pc = some (.tableswitch dt lo hi os, nx)) : Go d m pc L (.int x :: st) h Q ↔ gSw lo ts x (fun t => Go d m t L st h Q) (Go d m dt.toNat L st h Q) := by
  subst ho
  rw [gSw_get x _ _ ts lo h1 (by omega)]
  by_cases c : x.toInt < lo ∨ hi < x.toInt
  · rw [if_pos (by omega)]
    exact Go_step hf (tSt_of rfl (by simp only [mStep, if_pos c]))
  · rw [if_neg (by omega)]
    have hl : (x.toInt - lo).toNat < ts.length := by omega
    obtain ⟨t, ht⟩ : ∃ t, ts[(x.toInt - lo).toNat]? = some t := ⟨_, List.getElem?_eq_getElem hl⟩
    rw [Go_step (pc1 := t.toNat) (L1 := L) (st1 := st) (h1 := h) hf (tSt_of rfl (by simp only [mStep, if_neg c, List.getElem?_toArray, ht]))]
    rw [ht]
    simp
theorem gLk_get (x : Int32) (f : Nat → Prop) (dt : Int) : ∀ (ps : List (Int × Int)), (∀ q ∈ ps, -2147483648 ≤ q.1 ∧ q.1 < 2147483648) → (gLk ps x f (f dt.toNat) ↔ f (Op.lookupswitch.offset ps dt x.toInt).toNat) := by
  intro ps
  induction ps with
  | nil => intro _; exact Iff.rfl
  | cons p r ih =>
    intro hp
    have h1 := hp p List.mem_cons_self
    have ih := ih (fun q hq => hp q (List.mem_cons_of_mem _ hq))
    unfold gLk
    by_cases c : x = ii p.1
    · rw [if_pos c]
      have e := (eq_ii h1.1 h1.2).mp c
      simp [Op.lookupswitch.offset, List.find?, e]
    · rw [if_neg c, ih]
      have e : ¬ x.toInt = p.1 := fun e => c ((eq_ii h1.1 h1.2).mpr e)
      have e' : ¬ p.1 = x.toInt := fun q => e q.symm
      simp [Op.lookupswitch.offset, List.find?, e, e']
theorem G_lookupswitch {dt : Int} {ps : Array (Int × Int)} {x : Int32} (ts : List (Int × Int)) (ho : ps = ts.toArray) (hb : ∀ q ∈ ts, -2147483648 ≤ q.1 ∧ q.1 < 2147483648) (hf : mFetch m pc = some (.lookupswitch dt ps, nx)) : Go d m pc L (.int x :: st) h Q ↔ gLk ts x (fun t => Go d m t L st h Q) (Go d m dt.toNat L st h Q) := by
  subst ho
  rw [gLk_get x (fun t => Go d m t L st h Q) dt ts hb]
  exact Go_step hf (tSt_of rfl (by simp only [mStep]))
end R
