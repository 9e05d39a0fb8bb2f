/-! BOUGHT: truths for coins -/
def prF (P : Pg) (set c o : Nat) : Nat := if set.testBit o = true then c + (la_q (pg_l P) o).2.2.2 else c
def prS (P : Pg) (set : Nat) : Nat := itr (prF P set) 0 (ld_q (pg_l P)).length
def lnF (P : Pg) (set : Nat) (w : Wd) (o : Nat) : Wd := if set.testBit o = true then capW w (mo_w (pg_m P) (o + 1)) else w
def lnW (P : Pg) (q set : Nat) : Nat → Wd := itr (lnF P set) (mo_w (pg_m P) (q + 1))
noncomputable def bgF (S : List Wd) (P : Pg) (q ways : Nat) (b : Int × Nat) (set : Nat) : Int × Nat := if (b.1 = -2 ∨ prS P set < b.2) ∧ set.testBit q = false ∧ ¬ knw S (lnW P q set (ld_q (pg_l P)).length) ways = 0 then ((set : Int), prS P set) else b
noncomputable def bgV (S : List Wd) (P : Pg) (q : Nat) : Int × Nat := itr (bgF S P q (brg S P (mo_w (pg_m P) 0) q)) (-2, 0) (2 ^ (ld_q (pg_l P)).length)
noncomputable def bgA (S : List Wd) (P : Pg) (q what : Nat) : Int := if what = 1 ∨ (bgV S P q).1 = -2 then (bgV S P q).1 else (bgV S P q).2
section Bg
variable {d a : Nat} {h h1 : mHeap} {S : List Wd} {P : Pg} {l : Ld}
theorem ld_pr (ok : LdOk l) (q : Nat) : (la_q l q).2.2.2 ≤ 99 := by
  by_cases c : q < (ld_q l).length
  · exact (ok.2.2.2.2.2.2.1 _ (la_q_mem c)).2.2.2
  · unfold la_q
    rw [List.getD_eq_getElem?_getD, List.getElem?_eq_none (by omega)]
    decide
theorem prF_le (ok : LdOk (pg_l P)) {set : Nat} : ∀ k, itr (prF P set) 0 k ≤ 99 * k
  | 0 => Nat.le_refl _
  | k + 1 => by
    have ih := prF_le ok (set := set) k
    have a := ld_pr ok k
    rw [itr_s]
    show (if set.testBit k = true then itr (prF P set) 0 k + (la_q (pg_l P) k).2.2.2 else itr (prF P set) 0 k) ≤ _
    split <;> omega
theorem prS_le (ok : LdOk (pg_l P)) (set : Nat) : prS P set ≤ 1000 := by
  have := prF_le ok (set := set) (ld_q (pg_l P)).length
  have := ok.2.2.1
  unfold prS
  omega
/-- priceOf -/
theorem c17 {K : Int32 → mHeap → Prop} (hA : AdS h) (hP : PgR h 97 P) {set : Nat} (hs : set < 64) (hK : K (ii (prS P set)) h) : GoCi (d + 1) 17 [.ref 125, .int (ii set)] h K := by
  have L := hP.2.1
  have ok := hP.2.2.1
  have hn := ok.2.2.1
  rw [e17, b17_0]
  refine Go_loop (fun k L' h' => h' = h ∧ L' = [some (.ref 125), some (.int (ii set)), some (.int (ii (itr (prF P set) 0 k : Nat))), some (.int (ii k))]) (ld_q (pg_l P)).length ?_ ?_ 0 _ _ (Nat.zero_le _) ⟨rfl, rfl⟩
  · rintro k L' h' hk ⟨rfl, rfl⟩ next
    have ek : ii (k : Int) + ii 1 = ii ((k + 1 : Nat) : Int) := by rw [ii_add]; rfl
    have r := row_ok L.1.2.2.2.2.1 (show k < 6 by omega) (by omega)
    have v := (L.2.2.2.2.2.2.2.2.1 k hk).2.2
    rw [b17_4, bit_n (by omega) (by omega)]
    simp only [AdS_ok hA, PgS_okF hP.1, LaS_ok L.1, LaS_fR L.1, L.2.2.2.1, true_and, r, v]
    rw [if_neg (by rw [ii_le (by omega) (by omega) (by omega) (by omega)]; omega)]
    cases b : set.testBit k with
    | false =>
      rw [if_pos (by decide), b17_41, ek]
      refine next _ _ ⟨rfl, ?_⟩
      rw [itr_s]
      unfold prF
      rw [if_neg (by rw [b]; decide)]
    | true =>
      rw [if_neg (by decide), b17_41, ek, ii_add]
      refine next _ _ ⟨rfl, ?_⟩
      rw [itr_s]
      unfold prF
      rw [if_pos b]
      rfl
  · rintro L' h' ⟨rfl, rfl⟩
    rw [b17_4]
    simp only [AdS_ok hA, PgS_okF hP.1, LaS_ok L.1, LaS_fR L.1, L.2.2.2.1, true_and]
    rw [if_pos (by rw [ii_le (by omega) (by omega) (by omega) (by omega)]; omega), rI_s]
    exact hK
theorem lnW_s {q set k : Nat} : lnW P q set (k + 1) = lnF P set (lnW P q set k) k := rfl
/-- listenTo -/
theorem c18 {K : mHeap → Prop} (hA : AdO h) (hB : WS h 126) (hP : PgR h 97 P) {q set : Nat} (hq : q < 6) (hs : set < 64) (hK : ∀ h1, Fr 126 1 h h1 → wo h1 126 = lnW P q set (ld_q (pg_l P)).length → K h1) : GoCv (d + 4) 18 [.ref 125, .int (ii q), .int (ii set)] h K := by
  have f1 : fR h 97 1 = 106 := (PgS_okF hP.1).2.2.2.2.2.2.2.2.1
  have hM : MoR h 106 (pg_m P) := hP.2.2.2.1
  have wq : WS h (106 + 3 + (q + 1)) := hM.1.2.2.2.2.2 (q + 1) (by omega)
  have mq : wo h (106 + 3 + (q + 1)) = mo_w (pg_m P) (q + 1) := hM.2.2.2.2.2.2 (q + 1) (by omega)
  rw [e18, b18_0]
  simp only [AdS_ok hA.1, true_and, PgS_okF hP.1, f1, MoS_okF hM.1]
  rw [c46 hM.1 (i := q + 1) (by omega) (by omega)]
  refine ⟨(W_ok hB).2.2.2.2, ?_⟩
  rw [c117 hB wq]
  have F1 := Fr.pW (w := wo h (106 + 3 + (q + 1))) hB
  have x1 := wo_cp (b := 106 + 3 + (q + 1)) hB
  replace x1 : wo (pW h 126 (wo h (106 + 3 + (q + 1)))) 126 = lnW P q set 0 := by rw [x1, mq]; rfl
  generalize pW h 126 (wo h (106 + 3 + (q + 1))) = H1 at *
  refine Go_loop (fun k L' h' => Fr 126 1 h h' ∧ wo h' 126 = lnW P q set k ∧ ∃ l1, L' = [some (.ref 125), l1, some (.int (ii set)), some (.int (ii k))]) (ld_q (pg_l P)).length ?_ ?_ 0 _ _ (Nat.zero_le _) ⟨F1, x1, some (.int (ii q)), rfl⟩
  · rintro k L' h' hk ⟨F, x, l1, rfl⟩ next
    have ek : ii (k : Int) + ii 1 = ii ((k + 1 : Nat) : Int) := by rw [ii_add]; rfl
    have A := hA.fr F.1
    have P' := PgR_adv hA hP F (by decide) (by decide)
    have L := P'.2.1
    have M : MoR h' 106 (pg_m P) := P'.2.2.2.1
    have g1 : fR h' 97 1 = 106 := (PgS_okF P'.1).2.2.2.2.2.2.2.2.1
    have hn := P'.2.2.1.2.2.1
    have B := F.1.WS hB
    rw [b18_20, bit_n (by omega) (by omega)]
    simp only [AdS_ok A.1, true_and, PgS_okF P'.1, g1, LaS_ok L.1, LaS_fR L.1, L.2.2.2.1, MoS_okF M.1]
    rw [if_neg (by rw [ii_le (by omega) (by omega) (by omega) (by omega)]; omega)]
    cases b : set.testBit k with
    | false =>
      rw [if_pos (by decide), b18_60, ek]
      refine next _ _ ⟨F, ?_, _, rfl⟩
      rw [lnW_s, x]
      unfold lnF
      rw [if_neg (by rw [b]; decide)]
    | true =>
      rw [if_neg (by decide)]
      rw [c46 M.1 (i := k + 1) (by omega) (by omega)]
      refine ⟨(W_ok B).2.2.2.2, ?_⟩
      have wk : WS h' (106 + 3 + (k + 1)) := M.1.2.2.2.2.2 (k + 1) (by omega)
      have mk : wo h' (106 + 3 + (k + 1)) = mo_w (pg_m P) (k + 1) := M.2.2.2.2.2.2 (k + 1) (by omega)
      rw [c121 B wk]
      have F2 := Fr.pW (w := fun i => wo h' 126 i && wo h' (106 + 3 + (k + 1)) i) B
      have x2 := wo_and (b := 106 + 3 + (k + 1)) B
      rw [b18_60, ek]
      refine next _ _ ⟨F.tr F2, ?_, _, rfl⟩
      rw [x2, x, mk, lnW_s]
      unfold lnF
      rw [if_pos b]
  · rintro L' h' ⟨F, x, l1, rfl⟩
    have A := hA.fr F.1
    have P' := PgR_adv hA hP F (by decide) (by decide)
    have L := P'.2.1
    have hn := P'.2.2.1.2.2.1
    rw [b18_20]
    simp only [AdS_ok A.1, true_and, PgS_okF P'.1, LaS_ok L.1, L.2.2.2.1]
    rw [if_pos (by rw [ii_le (by omega) (by omega) (by omega) (by omega)]; omega), rV_s]
    exact hK _ F x
theorem bgF_b {w q : Nat} (hh : ∀ set, prS P set ≤ 1000) : ∀ k, ((itr (bgF S P q w) (-2, 0) k).1 = -2 ∨ 0 ≤ (itr (bgF S P q w) (-2, 0) k).1 ∧ (itr (bgF S P q w) (-2, 0) k).1 < k) ∧ (itr (bgF S P q w) (-2, 0) k).2 ≤ 1000
  | 0 => ⟨Or.inl rfl, Nat.zero_le _⟩
  | k + 1 => by
    have ih := bgF_b (w := w) (q := q) hh k
    have hs : itr (bgF S P q w) (-2, 0) (k + 1) = bgF S P q w (itr (bgF S P q w) (-2, 0) k) k := rfl
    rw [hs]
    generalize itr (bgF S P q w) (-2, 0) k = bb at *
    unfold bgF
    by_cases c : (bb.1 = -2 ∨ prS P k < bb.2) ∧ k.testBit q = false ∧ ¬ knw S (lnW P q k (ld_q (pg_l P)).length) w = 0
    · rw [if_pos c]
      exact ⟨Or.inr ⟨by show (0 : Int) ≤ k; omega, by show (k : Int) < ((k + 1 : Nat) : Int); omega⟩, hh k⟩
    · rw [if_neg c]
      refine ⟨?_, ih.2⟩
      rcases ih.1 with g | g
      · exact Or.inl g
      · exact Or.inr ⟨g.1, by omega⟩
/-- boughtFor -/
theorem c16 {K : Int32 → mHeap → Prop} (hA : AdO h) (hB : WS h 126) (hS : SyR h S) (hP : PgR h 97 P) (hm : mo_f (pg_m P) < 256) (hw : ∀ o, o < (ld_q (pg_l P)).length → (la_q (pg_l P) o).2.1 ≤ 128) {q what : Nat} (hq : q < (ld_q (pg_l P)).length) (hwh : what ≤ 1) (hK : ∀ h1, Fr 126 1 h h1 → K (ii (bgA S P q what)) h1) : GoCi (d + 6) 16 [.ref 125, .int (ii q), .int (ii what)] h K := by
  have hlen := hS.2.2.1
  have f1 : fR h 97 1 = 106 := (PgS_okF hP.1).2.2.2.2.2.2.2.2.1
  have hM : MoR h 106 (pg_m P) := hP.2.2.2.1
  have hn := hP.2.2.1.2.2.1
  have w109 : WS h 109 := hM.1.2.2.2.2.2 0 (by decide)
  have m109 : wo h 109 = mo_w (pg_m P) 0 := hM.2.2.2.2.2.2 0 (by decide)
  have hH : ∀ set, prS P set ≤ 1000 := prS_le hP.2.2.1
  rw [e16, b16_0]
  simp only [AdS_ok hA.1, true_and, PgS_okF hP.1, f1, MoS_okF hM.1]
  rw [c46 hM.1 (i := 0) (by decide) (by decide)]
  refine ⟨(AdS_ok hA.1).2.2.2.2.2.2, ?_⟩
  refine c2 hA.1 hS hP w109 hm hq (hw q hq) ?_
  have wl := brg_lt (S := S) (P := P) (mo_w (pg_m P) 0) q hlen
  rw [m109]
  unfold bgA bgV at hK
  generalize brg S P (mo_w (pg_m P) 0) q = Wy at *
  have p2 := p2_64 hn
  refine Go_loop (fun k L' h' => Fr 126 1 h h' ∧ ∃ l7 l8, L' = [some (.ref 125), some (.int (ii q)), some (.int (ii what)), some (.int (ii Wy)), some (.int (ii (itr (bgF S P q Wy) (-2, 0) k).1)), some (.int (ii ((itr (bgF S P q Wy) (-2, 0) k).2 : Nat))), some (.int (ii k)), l7, l8]) (2 ^ (ld_q (pg_l P)).length) ?_ ?_ 0 _ _ (Nat.zero_le _) ⟨Fr.rf, none, none, rfl⟩
  · rintro k L' h' hk ⟨F, l7, l8, rfl⟩ next
    have ek : ii (k : Int) + ii 1 = ii ((k + 1 : Nat) : Int) := by rw [ii_add]; rfl
    have hb := bgF_b (S := S) (P := P) (w := Wy) (q := q) hH k
    have hs : itr (bgF S P q Wy) (-2, 0) (k + 1) = bgF S P q Wy (itr (bgF S P q Wy) (-2, 0) k) k := rfl
    have A := hA.fr F.1
    have P' := PgR_adv hA hP F (by decide) (by decide)
    have S' := hS.fr F (by omega)
    have B := F.1.WS hB
    have L := P'.2.1
    have e1 : shl (ii 1) (ii (ld_q (pg_l P)).length) = ii ((2 ^ (ld_q (pg_l P)).length : Nat) : Int) := shl1 (by omega)
    have hk64 : k < 64 := by omega
    generalize hG : 2 ^ (ld_q (pg_l P)).length = G at *
    generalize itr (bgF S P q Wy) (-2, 0) k = bb at *
    have hHk := hH k
    have no : ∀ (l7 l8 : Option Value), ¬ ((bb.1 = -2 ∨ prS P k < bb.2) ∧ k.testBit q = false ∧ ¬ knw S (lnW P q k (ld_q (pg_l P)).length) Wy = 0) → ∀ h2, Fr 126 1 h' h2 → Go (d + 5) 16 114 [some (.ref 125), some (.int (ii q)), some (.int (ii what)), some (.int (ii Wy)), some (.int (ii bb.1)), some (.int (ii (bb.2 : Nat))), some (.int (ii k)), l7, l8] [] h2 (rI K) := fun l7 l8 c h2 F2 => by
      rw [b16_114, ek]
      refine next _ _ ⟨F.tr F2, l7, l8, ?_⟩
      rw [hs]
      unfold bgF
      rw [if_neg c]
    have go : (bb.1 = -2 ∨ prS P k < bb.2) → Go (d + 5) 16 66 [some (.ref 125), some (.int (ii q)), some (.int (ii what)), some (.int (ii Wy)), some (.int (ii bb.1)), some (.int (ii (bb.2 : Nat))), some (.int (ii k)), some (.int (ii (prS P k : Nat))), l8] [] h' (rI K) := fun c => by
      rw [b16_66, b16_71, bit_n (by omega) (by omega), if_neg (by decide)]
      cases b : k.testBit q with
      | true =>
        rw [if_pos (by decide)]
        exact no _ _ (fun g => by rw [b] at g; exact absurd g.2.1 (by decide)) h' Fr.rf
      | false =>
        rw [if_neg (by decide)]
        simp only [AdS_ok A.1, true_and]
        refine c18 (d := d + 1) A B P' (by omega) hk64 (fun h2 F2 x2 => ?_)
        have A2 := A.fr F2.1
        have S2 := S'.fr F2 (by omega)
        have B2 := F2.1.WS B
        simp only [AdS_ok A2.1, true_and]
        refine c3 A2.1 S2 B2 (by omega) ?_
        rw [x2]
        have kl := knw_lt (S := S) (lnW P q k (ld_q (pg_l P)).length) Wy hlen
        show (if ii (knw S (lnW P q k (ld_q (pg_l P)).length) Wy : Nat) = ii ((0 : Nat) : Int) then _ else _)
        by_cases g : knw S (lnW P q k (ld_q (pg_l P)).length) Wy = 0
        · rw [if_pos (by rw [g])]
          exact no _ _ (fun q => q.2.2 g) h2 F2
        · rw [if_neg (by rw [ii_eq (by omega) (by omega) (by omega) (by omega)]; omega), b16_114, ek]
          refine next _ _ ⟨F.tr F2, some (.int (ii (prS P k : Nat))), some (.int (ii 1)), ?_⟩
          rw [hs]
          unfold bgF
          rw [if_pos ⟨c, b, g⟩]
    rw [b16_27]
    simp only [AdS_ok A.1, true_and, PgS_okF P'.1, LaS_ok L.1, L.2.2.2.1, e1]
    rw [if_neg (by rw [ii_le (by omega) (by omega) (by omega) (by omega)]; omega)]
    refine c17 A.1 P' hk64 ?_
    by_cases c : bb.1 = -2
    · rw [if_pos (by rw [c])]
      exact go (Or.inl c)
    rw [if_neg (by rw [ii_eq (by omega) (by omega) (by omega) (by omega)]; exact c)]
    by_cases c2 : prS P k < bb.2
    · rw [if_neg (by rw [ii_le (by omega) (by omega) (by omega) (by omega)]; omega)]
      exact go (Or.inr c2)
    · rw [if_pos (by rw [ii_le (by omega) (by omega) (by omega) (by omega)]; omega), b16_71, if_pos rfl]
      exact no _ _ (by rintro ⟨a | a, _⟩; exact c a; exact c2 a) h' Fr.rf
  · rintro L' h' ⟨F, l7, l8, rfl⟩
    have hb := bgF_b (S := S) (P := P) (w := Wy) (q := q) hH (2 ^ (ld_q (pg_l P)).length)
    have A := hA.fr F.1
    have P' := PgR_adv hA hP F (by decide) (by decide)
    have L := P'.2.1
    have e1 : shl (ii 1) (ii (ld_q (pg_l P)).length) = ii ((2 ^ (ld_q (pg_l P)).length : Nat) : Int) := shl1 (by omega)
    have K1 := hK h' F
    generalize 2 ^ (ld_q (pg_l P)).length = G at *
    generalize itr (bgF S P q Wy) (-2, 0) G = bb at *
    rw [b16_27]
    simp only [AdS_ok A.1, true_and, PgS_okF P'.1, LaS_ok L.1, L.2.2.2.1, e1]
    rw [if_pos (by rw [ii_le (by omega) (by omega) (by omega) (by omega)]; omega)]
    rw [rI_s, rI_s]
    by_cases c : what = 1
    · rw [if_pos (by rw [c]; rfl)]
      rw [if_pos (Or.inl c)] at K1
      exact K1
    rw [if_neg (by rw [show ii 1 = ii ((1 : Nat) : Int) from rfl, ii_eq (by omega) (by omega) (by omega) (by omega)]; omega)]
    by_cases g : bb.1 = -2
    · rw [if_neg (by rw [g]; exact fun q => q rfl)]
      rw [if_pos (Or.inr g)] at K1
      exact K1
    · rw [if_pos (by rw [ii_eq (by omega) (by omega) (by omega) (by omega)]; exact g)]
      rw [if_neg (by rintro (a | a); exact c a; exact g a)] at K1
      exact K1
end Bg
