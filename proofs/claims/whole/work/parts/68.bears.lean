/-! THE ADVISER: which sayings bear whom -/
/-- does a saying bear a person, were the bridge to hold these worlds -/
def brB (S : List Wd) (P : Pg) (v : Wd) (q s : Nat) : Bool := sy S s (mo_f (pg_m P)) && decide ((la_q (pg_l P) q).2.1 ≤ cB (fun i => v i && !sy S s i) 256)
/-- the sayings by which one would get over, as bits -/
def brg (S : List Wd) (P : Pg) (v : Wd) (q : Nat) : Nat := if mo_l (pg_m P) q = true then 0 else btO (fun s => brB S P v q s) S.length
section Br
variable {d b : Nat} {h h1 : mHeap} {S : List Wd} {P : Pg}
/-- bears -/
theorem c1 {K : Int32 → mHeap → Prop} (hA : AdS h) (hS : SyR h S) (hP : PgR h 97 P) (hB : WS h b) (hm : mo_f (pg_m P) < 256) {q s : Nat} (hq : q < (ld_q (pg_l P)).length) (hs : s < S.length) (hw : (la_q (pg_l P) q).2.1 ≤ 128) (hK : K (if brB S P (wo h b) q s = true then ii 1 else ii 0) h) : GoCi (d + 3) 1 [.ref 125, .ref b, .int (ii q), .int (ii s)] h K := by
  have hlen := hS.2.2.1
  have r := SyS_row hS.1 (show s < 24 by omega)
  have wr := hS.1.2.2.2.1 s (by omega)
  have hL := hP.2.1
  have ok := hP.2.2.1
  have hM : MoR h 106 (pg_m P) := hP.2.2.2.1
  have f1 : fR h 97 1 = 106 := (PgS_okF hP.1).2.2.2.2.2.2.2.2.1
  have hn := ok.2.2.1
  have r2 := row_ok hL.1.2.2.2.1 (show q < 6 by omega) (by omega)
  have hv := (hL.2.2.2.2.2.2.2.2.1 q hq).2.1
  have hc := cB_le (fun i => wo h b i && !sy S s i) 256
  rw [e1, b1_0]
  simp only [AdS_ok hA, SyS_ok hS.1, true_and, r, W_ok wr, PgS_okF hP.1, f1, MoS_okF hM.1, hM.2.2.1]
  rw [c130 wr hm, hS.2.2.2 s hs]
  by_cases f : sy S s (mo_f (pg_m P)) = true
  · rw [if_neg (fun g => bP_n.mpr f g)]
    refine ⟨by simp only [W_ok hB], ?_⟩
    rw [c127 hB wr, hS.2.2.2 s hs]
    simp only [AdS_ok hA, true_and, PgS_okF hP.1, LaS_ok hL.1, LaS_fR hL.1, r2, hv]
    by_cases g : (la_q (pg_l P) q).2.1 ≤ cB (fun i => wo h b i && !sy S s i) 256
    · rw [if_neg (by rw [ii_lt (by omega) (by omega) (by omega) (by omega)]; omega)]
      refine ⟨by simp, ?_⟩
      rw [rI_s]
      rw [if_pos (by unfold brB; rw [f, decide_eq_true g]; rfl)] at hK
      exact hK
    · rw [if_pos (by rw [ii_lt (by omega) (by omega) (by omega) (by omega)]; omega)]
      refine ⟨by simp, ?_⟩
      rw [rI_s]
      rw [if_neg (by unfold brB; rw [f, decide_eq_false g]; decide)] at hK
      exact hK
  · rw [if_pos (bP_0.mpr f)]
    refine ⟨by simp, ?_⟩
    rw [rI_s]
    rw [if_neg (by unfold brB; rw [Bool.and_eq_true]; exact fun g => f g.1)] at hK
    exact hK
/-- bearing -/
theorem c2 {K : Int32 → mHeap → Prop} (hA : AdS h) (hS : SyR h S) (hP : PgR h 97 P) (hB : WS h b) (hm : mo_f (pg_m P) < 256) {q : Nat} (hq : q < (ld_q (pg_l P)).length) (hw : (la_q (pg_l P) q).2.1 ≤ 128) (hK : K (ii (brg S P (wo h b) q : Nat)) h) : GoCi (d + 4) 2 [.ref 125, .ref b, .int (ii q)] h K := by
  have hlen := hS.2.2.1
  have ok := hP.2.2.1
  have hM : MoR h 106 (pg_m P) := hP.2.2.2.1
  have f1 : fR h 97 1 = 106 := (PgS_okF hP.1).2.2.2.2.2.2.2.2.1
  have hn := ok.2.2.1
  unfold brg at hK
  rw [e2, b2_0]
  simp only [AdS_ok hA, true_and, PgS_okF hP.1, f1, MoS_okF hM.1]
  rw [c49 hM (show q < 6 by omega)]
  by_cases g : mo_l (pg_m P) q = true
  · rw [if_pos g] at hK
    rw [if_pos g, if_pos (by decide), rI_s]
    exact hK
  rw [if_neg g] at hK
  rw [if_neg g, if_neg (by simp)]
  refine Go_loop (fun k L' h' => h' = h ∧ L' = [some (.ref 125), some (.ref b), some (.int (ii q)), some (.int (ii (btO (fun s => brB S P (wo h b) q s) k : Nat))), some (.int (ii k))]) S.length ?_ ?_ 0 _ _ (Nat.zero_le _) ⟨rfl, rfl⟩
  · rintro k L' h' hk ⟨rfl, rfl⟩ next
    have ek : ii (k : Int) + ii 1 = ii ((k + 1 : Nat) : Int) := by rw [ii_add]; rfl
    rw [b2_19]
    simp only [AdS_ok hA, SyS_ok hS.1, true_and, hS.2.1]
    rw [if_neg (by rw [ii_le (by omega) (by omega) (by omega) (by omega)]; omega)]
    refine c1 hA hS hP hB hm hq hk hw ?_
    by_cases f : brB S P (wo h' b) q k = true
    · rw [if_pos f, if_neg (by decide), b2_49, ek]
      refine next _ _ ⟨rfl, ?_⟩
      rw [btO_s, if_pos f, shl_ii 1 (show k < 32 by omega), Int.one_mul]
      rw [show ((2 : Int) ^ k) = ((2 ^ k : Nat) : Int) from (Int.natCast_pow 2 k).symm, or_ii]
    · rw [if_neg f, if_pos rfl, b2_49, ek]
      refine next _ _ ⟨rfl, ?_⟩
      rw [btO_s, if_neg f]
  · rintro L' h' ⟨rfl, rfl⟩
    rw [b2_19]
    simp only [AdS_ok hA, SyS_ok hS.1, true_and, hS.2.1]
    rw [if_pos (by rw [ii_le (by omega) (by omega) (by omega) (by omega)]; omega), rI_s]
    exact hK
end Br
