/-! THE ADVISER: how many others one brings over -/
/-- is one beside another, and would a bridge that holds v bear him by what he knows -/
def othB (S : List Wd) (P : Pg) (v : Wd) (q o : Nat) : Prop := ¬ o = q ∧ mo_s (pg_m P) o = mo_s (pg_m P) q ∧ ¬ knw S (mo_w (pg_m P) (o + 1)) (brg S P v o) = 0
noncomputable def othN (S : List Wd) (P : Pg) (v : Wd) (q k : Nat) : Nat := cB (fun o => @decide (othB S P v q o) (Classical.propDecidable _)) k
section Le
variable {d b : Nat} {h h1 : mHeap} {S : List Wd} {P : Pg}
theorem othN_t {v : Wd} {q k : Nat} (e : othB S P v q k) : othN S P v q (k + 1) = othN S P v q k + 1 := by
  show cB _ k + (if _ then 1 else 0) = _
  rw [if_pos (@decide_eq_true _ (Classical.propDecidable _) e)]
  rfl
theorem othN_f {v : Wd} {q k : Nat} (e : ¬ othB S P v q k) : othN S P v q (k + 1) = othN S P v q k := by
  show cB _ k + (if _ then 1 else 0) = _
  rw [if_neg (fun g => e (@of_decide_eq_true _ (Classical.propDecidable _) g))]
  rfl
theorem knw_lt (v : Wd) (bits : Nat) (hl : S.length ≤ 24) : knw S v bits < 16777216 := Nat.lt_of_lt_of_le (btO_lt _ _) (Nat.pow_le_pow_right (n := 2) (by decide) hl)
theorem brg_lt (v : Wd) (q : Nat) (hl : S.length ≤ 24) : brg S P v q < 16777216 := by
  unfold brg
  split
  · decide
  · exact Nat.lt_of_lt_of_le (btO_lt _ _) (Nat.pow_le_pow_right (n := 2) (by decide) hl)
/-- othersBehind -/
theorem c5 {K : Int32 → mHeap → Prop} (hA : AdO h) (hS : SyR h S) (hP : PgR h 97 P) (hB : WS h 126) (hm : mo_f (pg_m P) < 256) (hw : ∀ o, o < (ld_q (pg_l P)).length → (la_q (pg_l P) o).2.1 ≤ 128) {q s : Nat} (hq : q < 6) (hs : s < S.length) (hK : ∀ h1, Fr 126 1 h h1 → K (ii (othN S P (fun w => decide (w < 256) && (mo_w (pg_m P) 0 w && sy S s w)) q (ld_q (pg_l P)).length : Nat)) h1) : GoCi (d + 5) 5 [.ref 125, .int (ii q), .int (ii s)] h K := by
  have hlen := hS.2.2.1
  have f1 : fR h 97 1 = 106 := (PgS_okF hP.1).2.2.2.2.2.2.2.2.1
  have hM : MoR h 106 (pg_m P) := hP.2.2.2.1
  have w109 : WS h 109 := hM.1.2.2.2.2.2 0 (by decide)
  have m109 : wo h 109 = mo_w (pg_m P) 0 := hM.2.2.2.2.2.2 0 (by decide)
  have e0 : ii 0 = ii ((0 : Nat) : Int) := rfl
  rw [e5, b5_0]
  simp only [AdS_ok hA.1, true_and, PgS_okF hP.1, f1, MoS_okF hM.1]
  rw [c46 hM.1 (i := 0) (by decide) (by decide)]
  refine ⟨by simp only [W_ok hB], ?_⟩
  rw [c117 hB w109]
  have F1 := Fr.pW (w := wo h 109) hB
  have v1 : wo (pW h 126 (wo h 109)) 126 = fun w => decide (w < 256) && mo_w (pg_m P) 0 w := by
    funext i
    rw [wo_pW hB i, m109]
  generalize pW h 126 (wo h 109) = H1 at *
  have A1 := hA.fr F1.1
  have S1 := hS.fr F1 (by omega)
  have B1 := F1.1.WS hB
  have r := SyS_row S1.1 (show s < 24 by omega)
  have wr := S1.1.2.2.2.1 s (by omega)
  simp only [AdS_ok A1.1, SyS_ok S1.1, true_and, r, W_ok B1]
  rw [c121 B1 wr]
  have F2 := Fr.pW (w := fun i => wo H1 126 i && wo H1 (73 + s) i) B1
  have v2 : wo (pW H1 126 (fun i => wo H1 126 i && wo H1 (73 + s) i)) 126 = fun w => decide (w < 256) && (mo_w (pg_m P) 0 w && sy S s w) := by
    funext i
    rw [wo_pW B1 i, v1, S1.2.2.2 s hs]
    by_cases c : i < 256 <;> simp [c]
  generalize pW H1 126 (fun i => wo H1 126 i && wo H1 (73 + s) i) = H2 at *
  have F := F1.tr F2
  have A2 := A1.fr F2.1
  have S2 := S1.fr F2 (by omega)
  have B2 := F2.1.WS B1
  have P2 := PgR_adv hA hP F (by decide) (by decide)
  have K2 := hK H2 F
  have g1 : fR H2 97 1 = 106 := (PgS_okF P2.1).2.2.2.2.2.2.2.2.1
  have M2 : MoR H2 106 (pg_m P) := P2.2.2.2.1
  have L2 := P2.2.1
  have hn := P2.2.2.1.2.2.1
  refine Go_loop (fun k L' h' => h' = H2 ∧ ∃ l2 l6, L' = [some (.ref 125), some (.int (ii q)), l2, some (.ref 106), some (.int (ii (othN S P (fun w => decide (w < 256) && (mo_w (pg_m P) 0 w && sy S s w)) q k : Nat))), some (.int (ii k)), l6]) (ld_q (pg_l P)).length ?_ ?_ 0 _ _ (Nat.zero_le _) ⟨rfl, _, _, rfl⟩
  · rintro k L' h' hk ⟨rfl, l2, l6, rfl⟩ next
    have ek : ii (k : Int) + ii 1 = ii ((k + 1 : Nat) : Int) := by rw [ii_add]; rfl
    have no : ¬ othB S P (fun w => decide (w < 256) && (mo_w (pg_m P) 0 w && sy S s w)) q k → Go (d + 4) 5 81 [some (.ref 125), some (.int (ii q)), l2, some (.ref 106), some (.int (ii (othN S P (fun w => decide (w < 256) && (mo_w (pg_m P) 0 w && sy S s w)) q k : Nat))), some (.int (ii k)), l6] [] h' (rI K) := fun c => by
      rw [b5_81, b5_82, if_pos rfl, b5_115, ek]
      exact next _ _ ⟨rfl, _, _, by rw [othN_f c]⟩
    rw [b5_42]
    simp only [AdS_ok A2.1, true_and, PgS_okF P2.1, LaS_ok L2.1, L2.2.2.2.1]
    rw [if_neg (by rw [ii_le (by omega) (by omega) (by omega) (by omega)]; omega)]
    by_cases c : k = q
    · rw [if_pos (by rw [c])]
      exact no (fun g => g.1 c)
    rw [if_neg (by rw [ii_eq (by omega) (by omega) (by omega) (by omega)]; omega)]
    simp only [MoS_okF M2.1, true_and]
    rw [c48 M2 (show k < 6 by omega)]
    simp only [MoS_okF M2.1, true_and]
    rw [c48 M2 hq]
    by_cases e2 : mo_s (pg_m P) k = mo_s (pg_m P) q
    rotate_left
    · rw [if_pos (by
        cases u : mo_s (pg_m P) k <;> cases v : mo_s (pg_m P) q <;> rw [u, v] at e2 <;> first | exact absurd rfl e2 | decide)]
      exact no (fun g => e2 g.2.1)
    rw [if_neg (by rw [e2]; exact fun g => g rfl), b5_82, if_neg (by decide)]
    simp only [MoS_okF M2.1, true_and]
    rw [c46 M2.1 (i := k + 1) (by omega) (by omega)]
    simp only [AdS_ok A2.1, true_and]
    refine c2 A2.1 S2 P2 B2 hm hk (hw k hk) ?_
    simp only [AdS_ok A2.1, true_and]
    refine c3 A2.1 S2 (M2.1.2.2.2.2.2 (k + 1) (by omega)) (by have := brg_lt (S := S) (P := P) (wo h' 126) k hlen; omega) ?_
    have m2 : wo h' (106 + 3 + (k + 1)) = mo_w (pg_m P) (k + 1) := M2.2.2.2.2.2.2 (k + 1) (by omega)
    rw [m2, v2]
    have lt := knw_lt (S := S) (mo_w (pg_m P) (k + 1)) (brg S P (fun w => decide (w < 256) && (mo_w (pg_m P) 0 w && sy S s w)) k) hlen
    by_cases c3 : knw S (mo_w (pg_m P) (k + 1)) (brg S P (fun w => decide (w < 256) && (mo_w (pg_m P) 0 w && sy S s w)) k) = 0
    · rw [if_pos (by rw [c3]; rfl), b5_115, ek]
      exact next _ _ ⟨rfl, _, _, by rw [othN_f (fun g => g.2.2 c3)]⟩
    · rw [if_neg (by rw [e0, ii_eq (by omega) (by omega) (by omega) (by omega)]; omega), b5_115, ek, ii_add]
      exact next _ _ ⟨rfl, _, _, by rw [othN_t ⟨c, e2, c3⟩]; rfl⟩
  · rintro L' h' ⟨rfl, l2, l6, rfl⟩
    rw [b5_42]
    simp only [AdS_ok A2.1, true_and, PgS_okF P2.1, LaS_ok L2.1, L2.2.2.2.1]
    rw [if_pos (by rw [ii_le (by omega) (by omega) (by omega) (by omega)]; omega), rI_s]
    exact K2
end Le
