/-! THE ADVISER: how many others one brings over -/
/-- is one beside another, and would a bridge that holds v bear him by what he knows -/
def othB (S : List Wd) (P : Pg) (v : Wd) (q o : Nat) : Prop := ¬ o = q ∧ mo_s (pg_m P) o = mo_s (pg_m P) q ∧ ¬ knw S (mo_w (pg_m P) (o + 1)) (brg S P v o) = 0
noncomputable def othN (S : List Wd) (P : Pg) (v : Wd) (q k : Nat) : Nat := cB (fun o => @decide (othB S P v q o) (Classical.propDecidable _)) k
section Le
variable {d b : Nat} {h h1 : mHeap} {S : List Wd} {P : Pg}
theorem othN_t {v : Wd} {q k : Nat} (e : othB S P v q k) : othN S P v q (k + 1) = othN S P v q k + 1 := by
  show cB _ k + (if _ then 1 else 0) = _
  rw [if_pos (@decide_eq_true _ (Classical.propDecidable _) e)]
  rfl
theorem othN_f {v : Wd} {q k : Nat} (e : ¬ othB S P v q k) : othN S P v q (k + 1) = othN S P v q k := by
  show cB _ k + (if _ then 1 else 0) = _
  rw [if_neg (fun g => e (@of_decide_eq_true _ (Classical.propDecidable _) g))]
  rfl
theorem knw_lt (v : Wd) (bits : Nat) (hl : S.length ≤ 24) : knw S v bits < 16777216 := Nat.lt_of_lt_of_le (btO_lt _ _) (Nat.pow_le_pow_right (n := 2) (by decide) hl)
theorem brg_lt (v : Wd) (q : Nat) (hl : S.length ≤ 24) : brg S P v q < 16777216 := by
  unfold brg
  split
  · decide
  · exact Nat.lt_of_lt_of_le (btO_lt _ _) (Nat.pow_le_pow_right (n := 2) (by decide) hl)
end Le
