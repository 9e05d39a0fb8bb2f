/-! LEAST: the saying that tells the bridge the least -/
def gnS (S : List Wd) (P : Pg) (s : Nat) : Nat := cB (fun i => mo_w (pg_m P) 0 i && !sy S s i) 256
def lsK (S : List Wd) (P : Pg) (ways : Nat) : Nat → Int × Nat
  | 0 => (-2, 0)
  | k + 1 => if ways.testBit k = true ∧ ((lsK S P ways k).1 = -2 ∨ gnS S P k < (lsK S P ways k).2) then (k, gnS S P k) else lsK S P ways k
section Lo
variable {d : Nat} {h h1 : mHeap} {S : List Wd} {P : Pg}
theorem lsK_s {w k : Nat} : lsK S P w (k + 1) = if w.testBit k = true ∧ ((lsK S P w k).1 = -2 ∨ gnS S P k < (lsK S P w k).2) then ((k : Int), gnS S P k) else lsK S P w k := rfl
theorem lsK_b {w : Nat} : ∀ k, ((lsK S P w k).1 = -2 ∨ 0 ≤ (lsK S P w k).1 ∧ (lsK S P w k).1 < k) ∧ (lsK S P w k).2 ≤ 256
  | 0 => ⟨Or.inl rfl, Nat.zero_le _⟩
  | k + 1 => by
    have ih := lsK_b (w := w) k
    have hg : gnS S P k ≤ 256 := cB_le _ _
    rw [lsK_s]
    by_cases c : w.testBit k = true ∧ ((lsK S P w k).1 = -2 ∨ gnS S P k < (lsK S P w k).2)
    · rw [if_pos c]
      exact ⟨Or.inr ⟨by show (0 : Int) ≤ k; omega, by show (k : Int) < ((k + 1 : Nat) : Int); omega⟩, hg⟩
    · rw [if_neg c]
      refine ⟨?_, ih.2⟩
      rcases ih.1 with g | g
      · exact Or.inl g
      · exact Or.inr ⟨g.1, by omega⟩
/-- the ways of LEAST, and its answer -/
noncomputable def lsV (S : List Wd) (P : Pg) (q : Nat) : Int × Nat := lsK S P (knw S (mo_w (pg_m P) (q + 1)) (brg S P (mo_w (pg_m P) 0) q)) S.length
noncomputable def lsA (S : List Wd) (P : Pg) (q what : Nat) : Int := if what = 0 ∨ (lsV S P q).1 = -2 then (lsV S P q).1 else othN S P (fun w => decide (w < 256) && (mo_w (pg_m P) 0 w && sy S (lsV S P q).1.toNat w)) q (ld_q (pg_l P)).length
/-- leastOf -/
theorem c4 {K : Int32 → mHeap → Prop} (hA : AdO h) (hS : SyR h S) (hP : PgR h 97 P) (hB : WS h 126) (hm : mo_f (pg_m P) < 256) (hw : ∀ o, o < (ld_q (pg_l P)).length → (la_q (pg_l P) o).2.1 ≤ 128) {q what : Nat} (hq : q < (ld_q (pg_l P)).length) (hwh : what ≤ 1) (hK : ∀ h1, Fr 126 1 h h1 → K (ii (lsA S P q what)) h1) : GoCi (d + 6) 4 [.ref 125, .int (ii q), .int (ii what)] h K := by
  have hlen := hS.2.2.1
  have f1 : fR h 97 1 = 106 := (PgS_okF hP.1).2.2.2.2.2.2.2.2.1
  have hM : MoR h 106 (pg_m P) := hP.2.2.2.1
  have hn := hP.2.2.1.2.2.1
  have w109 : WS h 109 := hM.1.2.2.2.2.2 0 (by decide)
  have m109 : wo h 109 = mo_w (pg_m P) 0 := hM.2.2.2.2.2.2 0 (by decide)
  have e0 : ii 0 = ii ((0 : Nat) : Int) := rfl
  rw [e4, b4_0]
  simp only [AdS_ok hA.1, true_and, PgS_okF hP.1, f1, MoS_okF hM.1]
  rw [c46 hM.1 (i := 0) (by decide) (by decide)]
  simp only [AdS_ok hA.1, true_and, PgS_okF hP.1, f1, MoS_okF hM.1]
  rw [c46 hM.1 (i := q + 1) (by omega) (by omega)]
  simp only [AdS_ok hA.1, true_and]
  refine c2 hA.1 hS hP w109 hm hq (hw q hq) ?_
  simp only [AdS_ok hA.1, true_and]
  have bl := brg_lt (S := S) (P := P) (wo h 109) q hlen
  refine c3 hA.1 hS (hM.1.2.2.2.2.2 (q + 1) (by omega)) (by omega) ?_
  have m2 : wo h (106 + 3 + (q + 1)) = mo_w (pg_m P) (q + 1) := hM.2.2.2.2.2.2 (q + 1) (by omega)
  rw [m2, m109]
  have wl := knw_lt (S := S) (mo_w (pg_m P) (q + 1)) (brg S P (mo_w (pg_m P) 0) q) hlen
  have hKK := hK
  unfold lsA lsV at hK
  generalize knw S (mo_w (pg_m P) (q + 1)) (brg S P (mo_w (pg_m P) 0) q) = W at *
  refine Go_loop (fun k L' h' => h' = h ∧ ∃ l8, L' = [some (.ref 125), some (.int (ii q)), some (.int (ii what)), some (.ref 109), some (.int (ii W)), some (.int (ii (lsK S P W k).1)), some (.int (ii ((lsK S P W k).2 : Nat))), some (.int (ii k)), l8]) S.length ?_ ?_ 0 _ _ (Nat.zero_le _) ⟨rfl, none, rfl⟩
  · rintro k L' h' hk ⟨rfl, l8, rfl⟩ next
    have ek : ii (k : Int) + ii 1 = ii ((k + 1 : Nat) : Int) := by rw [ii_add]; rfl
    have hb := lsK_b (S := S) (P := P) (w := W) k
    have r := SyS_row hS.1 (show k < 24 by omega)
    have wr := hS.1.2.2.2.1 k (by omega)
    have hg : gnS S P k ≤ 256 := cB_le _ _
    rw [b4_45]
    simp only [AdS_ok hA.1, SyS_ok hS.1, true_and, hS.2.1, r, W_ok w109, bit_n (show W < 2147483648 by omega) (show k < 32 by omega)]
    rw [if_neg (by rw [ii_le (by omega) (by omega) (by omega) (by omega)]; omega)]
    cases hq : W.testBit k with
    | false =>
      rw [if_pos (by decide), b4_105, ek]
      exact next _ _ ⟨rfl, _, by rw [lsK_s, if_neg (by rw [hq]; exact fun g => absurd g.1 (by decide))]⟩
    | true =>
      rw [if_neg (by decide), c127 w109 wr, m109, hS.2.2.2 k hk]
      show (if ii (lsK S P W k).1 = ii (-2) then Go (d + 5) 4 97 [some (.ref 125), _, _, _, _, _, _, _, some (.int (ii (gnS S P k : Nat)))] [] h' (rI K) else _)
      by_cases c : (lsK S P W k).1 = -2
      · rw [if_pos (by rw [c]), b4_97, b4_105, ek]
        exact next _ _ ⟨rfl, some (.int (ii (gnS S P k : Nat))), by rw [lsK_s, if_pos ⟨hq, Or.inl c⟩]⟩
      · rw [if_neg (by rw [ii_eq (by omega) (by omega) (by omega) (by omega)]; exact c)]
        show (if ii ((lsK S P W k).2 : Nat) ≤ ii (gnS S P k : Nat) then _ else _)
        by_cases g : gnS S P k < (lsK S P W k).2
        · rw [if_neg (by rw [ii_le (by omega) (by omega) (by omega) (by omega)]; omega), b4_97, b4_105, ek]
          exact next _ _ ⟨rfl, some (.int (ii (gnS S P k : Nat))), by rw [lsK_s, if_pos ⟨hq, Or.inr g⟩]; rfl⟩
        · rw [if_pos (by rw [ii_le (by omega) (by omega) (by omega) (by omega)]; omega), b4_105, ek]
          exact next _ _ ⟨rfl, some (.int (ii (gnS S P k : Nat))), by rw [lsK_s, if_neg (by rintro ⟨_, a | a⟩; exact c a; exact g a)]; rfl⟩
  · rintro L' h' ⟨rfl, l8, rfl⟩
    have hb := lsK_b (S := S) (P := P) (w := W) S.length
    rw [b4_45]
    simp only [AdS_ok hA.1, SyS_ok hS.1, true_and, hS.2.1]
    rw [if_pos (by rw [ii_le (by omega) (by omega) (by omega) (by omega)]; omega)]
    by_cases c : what = 0
    · rw [if_pos (by rw [c]; rfl), rI_s]
      have := hK h' Fr.rf
      rw [if_pos (Or.inl c)] at this
      exact this
    rw [if_neg (by rw [e0, ii_eq (by omega) (by omega) (by omega) (by omega)]; omega)]
    by_cases g : (lsK S P W S.length).1 = -2
    · rw [if_neg (by rw [g]; exact fun q => q rfl), rI_s]
      have := hK h' Fr.rf
      rw [if_pos (Or.inr g)] at this
      exact this
    · rw [if_pos (by rw [ii_eq (by omega) (by omega) (by omega) (by omega)]; exact g)]
      have hz : (lsK S P W S.length).1 = (((lsK S P W S.length).1.toNat : Nat) : Int) := by omega
      rw [hz]
      refine c5 hA hS hP hB hm hw (by omega) (by omega) (fun h1 F1 => ?_)
      rw [rI_s]
      have := hK h1 F1
      rw [if_neg (by rintro (a | a); exact c a; exact g a)] at this
      exact this
end Lo
