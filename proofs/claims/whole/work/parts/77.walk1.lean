/-! WALKS: what one learns on them -/
def lkF (P : Pg) (set : Nat) (w : Wd) (p : Nat) : Wd := if set.testBit p = true then (fun i => decide (i < 256) && (w i && (i.testBit ((ld_p (pg_l P)).getD p 0) == (mo_f (pg_m P)).testBit ((ld_p (pg_l P)).getD p 0)))) else w
def lkW (P : Pg) (q set : Nat) : Nat → Wd := itr (lkF P set) (mo_w (pg_m P) (q + 1))
def wkH (P : Pg) (set : Nat) : Nat := hrT (wy (pg_l P)) 6 0 (2 * (set / 2))
noncomputable def wkF (S : List Wd) (P : Pg) (q ways : Nat) (b : Int × Nat) (set : Nat) : Int × Nat := if wkH P set < b.2 ∧ ¬ knw S (lkW P q set (ld_p (pg_l P)).length) ways = 0 then ((set : Int), wkH P set) else b
noncomputable def wkV (S : List Wd) (P : Pg) (q : Nat) : Int × Nat := itr (wkF S P q (brg S P (mo_w (pg_m P) 0) q)) (-2, 25 - mo_h (pg_m P) q) (2 ^ (ld_p (pg_l P)).length)
noncomputable def wkA (S : List Wd) (P : Pg) (q what : Nat) : Int := if what = 1 ∨ (wkV S P q).1 = -2 then (wkV S P q).1 else (wkV S P q).2
section Wl
variable {d a : Nat} {h h1 : mHeap} {S : List Wd} {P : Pg} {l : Ld}
theorem lkW_s {q set k : Nat} : lkW P q set (k + 1) = lkF P set (lkW P q set k) k := rfl
theorem ld_p_lt (ok : LdOk l) {k : Nat} (hk : k < (ld_p l).length) : (ld_p l).getD k 0 < 8 ∧ (ld_p l).getD k 0 < ld_n l := by
  have e : (ld_p l).getD k 0 = (ld_p l)[k] := by rw [List.getD_eq_getElem?_getD, List.getElem?_eq_getElem hk, Option.getD_some]
  have := ok.2.2.2.2.2.2.2.1 _ (List.getElem_mem hk)
  have o1 := ok.1
  rw [e]
  omega
/-- lookAround -/
theorem c15 {K : mHeap → Prop} (hSt : St h) (hA : AdO h) (hB : WS h 126) (hP : PgR h 97 P) (hm : mo_f (pg_m P) < 256) {q set : Nat} (hq : q < 6) (hs : set < 64) (hK : ∀ h1, Fr 126 1 h h1 → wo h1 126 = lkW P q set (ld_p (pg_l P)).length → K h1) : GoCv (d + 4) 15 [.ref 125, .int (ii q), .int (ii set)] h K := by
  have f1 : fR h 97 1 = 106 := (PgS_okF hP.1).2.2.2.2.2.2.2.2.1
  have hM : MoR h 106 (pg_m P) := hP.2.2.2.1
  have wq : WS h (106 + 3 + (q + 1)) := hM.1.2.2.2.2.2 (q + 1) (by omega)
  have mq : wo h (106 + 3 + (q + 1)) = mo_w (pg_m P) (q + 1) := hM.2.2.2.2.2.2 (q + 1) (by omega)
  rw [e15, b15_0]
  simp only [AdS_ok hA.1, true_and, PgS_okF hP.1, f1, MoS_okF hM.1]
  rw [c46 hM.1 (i := q + 1) (by omega) (by omega)]
  refine ⟨(W_ok hB).2.2.2.2, ?_⟩
  rw [c117 hB wq]
  have F1 := Fr.pW (w := wo h (106 + 3 + (q + 1))) hB
  have x1 := wo_cp (b := 106 + 3 + (q + 1)) hB
  replace x1 : wo (pW h 126 (wo h (106 + 3 + (q + 1)))) 126 = lkW P q set 0 := by rw [x1, mq]; rfl
  generalize pW h 126 (wo h (106 + 3 + (q + 1))) = H1 at *
  refine Go_loop (fun k L' h' => Fr 126 1 h h' ∧ wo h' 126 = lkW P q set k ∧ ∃ l1 l4, L' = [some (.ref 125), l1, some (.int (ii set)), some (.int (ii k)), l4]) (ld_p (pg_l P)).length ?_ ?_ 0 _ _ (Nat.zero_le _) ⟨F1, x1, some (.int (ii q)), none, rfl⟩
  · rintro k L' h' hk ⟨F, x, l1, l4, rfl⟩ next
    have ek : ii (k : Int) + ii 1 = ii ((k + 1 : Nat) : Int) := by rw [ii_add]; rfl
    have A := hA.fr F.1
    have P' := PgR_adv hA hP F (by decide) (by decide)
    have L := P'.2.1
    have ok := P'.2.2.1
    have M : MoR h' 106 (pg_m P) := P'.2.2.2.1
    have g1 : fR h' 97 1 = 106 := (PgS_okF P'.1).2.2.2.2.2.2.2.2.1
    have hn := ok.2.2.2.1
    have B := F.1.WS hB
    have r := row_ok L.1.2.2.2.2.2.1 (show k < 6 by omega) (by omega)
    have v := L.2.2.2.2.2.2.2.2.2.1 k hk
    have pf := ld_p_lt ok hk
    rw [b15_20, bit_n (by omega) (by omega)]
    simp only [AdS_ok A.1, true_and, PgS_okF P'.1, g1, LaS_ok L.1, LaS_fR L.1, L.2.2.2.2.2.1, MoS_okF M.1, r, v]
    rw [if_neg (by rw [ii_le (by omega) (by omega) (by omega) (by omega)]; omega)]
    cases b : set.testBit k with
    | false =>
      rw [if_pos (by decide), b15_77, ek]
      refine next _ _ ⟨F, ?_, _, _, rfl⟩
      rw [lkW_s, x]
      unfold lkF
      rw [if_neg (by rw [b]; decide)]
    | true =>
      rw [if_neg (by decide)]
      rw [c47 M pf.1 hm]
      refine ⟨(W_ok B).2.2.2.2, ?_⟩
      rw [c123 (F.St (by decide) hSt) B pf.1]
      have F2 := Fr.pW (w := fun i => wo h' 126 i && (i.testBit ((ld_p (pg_l P)).getD k 0) == (mo_f (pg_m P)).testBit ((ld_p (pg_l P)).getD k 0))) B
      have x2 : wo (pW h' 126 (fun i => wo h' 126 i && (i.testBit ((ld_p (pg_l P)).getD k 0) == (mo_f (pg_m P)).testBit ((ld_p (pg_l P)).getD k 0)))) 126 = lkW P q set (k + 1) := by
        funext i
        rw [wo_pW B i, x, lkW_s]
        unfold lkF
        rw [if_pos b]
      rw [b15_77, ek]
      exact next _ _ ⟨F.tr F2, x2, _, _, rfl⟩
  · rintro L' h' ⟨F, x, l1, l4, rfl⟩
    have A := hA.fr F.1
    have P' := PgR_adv hA hP F (by decide) (by decide)
    have L := P'.2.1
    have hn := P'.2.2.1.2.2.2.1
    rw [b15_20]
    simp only [AdS_ok A.1, true_and, PgS_okF P'.1, LaS_ok L.1, L.2.2.2.2.2.1]
    rw [if_pos (by rw [ii_le (by omega) (by omega) (by omega) (by omega)]; omega), rV_s]
    exact hK _ F x
theorem wkF_b {w q : Nat} (hh : ∀ set, wkH P set ≤ 1000) : ∀ k m, m ≤ 1000 → ((itr (wkF S P q w) (-2, m) k).1 = -2 ∨ 0 ≤ (itr (wkF S P q w) (-2, m) k).1 ∧ (itr (wkF S P q w) (-2, m) k).1 < k) ∧ (itr (wkF S P q w) (-2, m) k).2 ≤ 1000
  | 0, m, hm => ⟨Or.inl rfl, hm⟩
  | k + 1, m, hm => by
    have ih := wkF_b (w := w) (q := q) hh k m hm
    rw [itr_s]
    unfold wkF
    by_cases c : wkH P k < (itr (wkF S P q w) (-2, m) k).2 ∧ ¬ knw S (lkW P q k (ld_p (pg_l P)).length) w = 0
    · have e : (itr (fun b set => if wkH P set < b.2 ∧ ¬ knw S (lkW P q set (ld_p (pg_l P)).length) w = 0 then ((set : Int), wkH P set) else b) (-2, m) k) = itr (wkF S P q w) (-2, m) k := rfl
      rw [e, if_pos c]
      exact ⟨Or.inr ⟨by show (0 : Int) ≤ k; omega, by show (k : Int) < ((k + 1 : Nat) : Int); omega⟩, hh k⟩
    · have e : (itr (fun b set => if wkH P set < b.2 ∧ ¬ knw S (lkW P q set (ld_p (pg_l P)).length) w = 0 then ((set : Int), wkH P set) else b) (-2, m) k) = itr (wkF S P q w) (-2, m) k := rfl
      rw [e, if_neg c]
      refine ⟨?_, ih.2⟩
      rcases ih.1 with g | g
      · exact Or.inl g
      · exact Or.inr ⟨g.1, by omega⟩
theorem p2_64 {n : Nat} (h : n ≤ 6) : 2 ^ n ≤ 64 := Nat.pow_le_pow_right (n := 2) (by decide) h
/-- walkOf -/
theorem c13 {K : Int32 → mHeap → Prop} (hSt : St h) (hA : AdO h) (hB : WS h 126) (hS : SyR h S) (hP : PgR h 97 P) (h0 : 0 < ld_n (pg_l P)) (hm : mo_f (pg_m P) < 256) (hw : ∀ o, o < (ld_q (pg_l P)).length → (la_q (pg_l P) o).2.1 ≤ 128) {q what : Nat} (hq : q < (ld_q (pg_l P)).length) (hh : mo_h (pg_m P) q ≤ 24) (hwh : what ≤ 1) (hK : ∀ h1, Fr 126 1 h h1 → K (ii (wkA S P q what)) h1) : GoCi (d + 9) 13 [.ref 125, .int (ii q), .int (ii what)] h K := by
  have hlen := hS.2.2.1
  have f1 : fR h 97 1 = 106 := (PgS_okF hP.1).2.2.2.2.2.2.2.2.1
  have hM : MoR h 106 (pg_m P) := hP.2.2.2.1
  have hn := hP.2.2.1.2.2.1
  have hpl := hP.2.2.1.2.2.2.1
  have w109 : WS h 109 := hM.1.2.2.2.2.2 0 (by decide)
  have m109 : wo h 109 = mo_w (pg_m P) 0 := hM.2.2.2.2.2.2 0 (by decide)
  have W := wy_le (pg_l P)
  have hH : ∀ set, wkH P set ≤ 1000 := fun set => hrT_le W 6 0 _
  have rh := MoS_hours hM.1 (show q < 6 by omega)
  have vh : xA h 107 q = ii (mo_h (pg_m P) q) := hM.2.2.2.2.2.1 q (by omega)
  have rh1 : okA h 107 .int (ii q) := rh.1
  have rh2 : eI h 107 (ii q) = xA h 107 q := rh.2
  have fh : fR h 106 4 = 107 := (MoS_okF hM.1).2.2.2.2.2.2.1
  rw [e13, b13_0]
  simp only [AdS_ok hA.1, true_and, PgS_okF hP.1, f1, MoS_okF hM.1, fh, rh1, rh2, vh]
  rw [c46 hM.1 (i := 0) (by decide) (by decide)]
  refine ⟨(AdS_ok hA.1).2.2.2.2.2.2, ?_⟩
  refine c2 hA.1 hS hP w109 hm hq (hw q hq) ?_
  have wl := brg_lt (S := S) (P := P) (mo_w (pg_m P) 0) q hlen
  rw [m109]
  have e24 : ii 24 - ii (mo_h (pg_m P) q) + ii 1 = ii ((25 - mo_h (pg_m P) q : Nat) : Int) := by
    rw [ii_sub, ii_add]
    congr 1
    omega
  rw [e24]
  unfold wkA wkV at hK
  generalize brg S P (mo_w (pg_m P) 0) q = Wy at *
  have m0l : 25 - mo_h (pg_m P) q ≤ 1000 := by omega
  generalize 25 - mo_h (pg_m P) q = m0 at *
  have p2 := p2_64 hpl
  refine Go_loop (fun k L' h' => Fr 126 1 h h' ∧ ∃ l3 l8, L' = [some (.ref 125), some (.int (ii q)), some (.int (ii what)), l3, some (.int (ii Wy)), some (.int (ii (itr (wkF S P q Wy) (-2, m0) k).1)), some (.int (ii ((itr (wkF S P q Wy) (-2, m0) k).2 : Nat))), some (.int (ii k)), l8]) (2 ^ (ld_p (pg_l P)).length) ?_ ?_ 0 _ _ (Nat.zero_le _) ⟨Fr.rf, _, none, rfl⟩
  · rintro k L' h' hk ⟨F, l3, l8, rfl⟩ next
    have ek : ii (k : Int) + ii 1 = ii ((k + 1 : Nat) : Int) := by rw [ii_add]; rfl
    have hb := wkF_b (S := S) (P := P) (w := Wy) (q := q) hH k m0 m0l
    have hs : itr (wkF S P q Wy) (-2, m0) (k + 1) = wkF S P q Wy (itr (wkF S P q Wy) (-2, m0) k) k := rfl
    have A := hA.fr F.1
    have P' := PgR_adv hA hP F (by decide) (by decide)
    have S' := hS.fr F (by omega)
    have B := F.1.WS hB
    have L := P'.2.1
    have e1 : shl (ii 1) (ii (ld_p (pg_l P)).length) = ii ((2 ^ (ld_p (pg_l P)).length : Nat) : Int) := shl1 (by omega)
    have hk64 : k < 64 := by omega
    generalize hG : 2 ^ (ld_p (pg_l P)).length = G at *
    generalize itr (wkF S P q Wy) (-2, m0) k = bb at *
    rw [b13_46]
    simp only [AdS_ok A.1, true_and, PgS_okF P'.1, LaS_ok L.1, L.2.2.2.2.2.1, e1]
    rw [if_neg (by rw [ii_le (by omega) (by omega) (by omega) (by omega)]; omega)]
    rw [clr0 k hk64]
    rw [show d + 8 = 6 + d + 2 by omega]
    refine c14 (fr := 0) (dp := 0) h0 A.1 P' 6 (by decide) (by decide) (by omega) ?_
    have hHk := hH k
    rw [show 6 + d + 2 = d + 8 by omega]
    show (if ii bb.2 ≤ ii (wkH P k : Nat) then _ else _)
    by_cases c : wkH P k < bb.2
    rotate_left
    · rw [if_pos (by rw [ii_le (by omega) (by omega) (by omega) (by omega)]; omega), b13_111, ek]
      refine next _ _ ⟨F, l3, some (.int (ii (wkH P k : Nat))), ?_⟩
      rw [hs]
      unfold wkF
      rw [if_neg (fun g => c g.1)]
      rfl
    rw [if_neg (by rw [ii_le (by omega) (by omega) (by omega) (by omega)]; omega)]
    simp only [AdS_ok A.1, true_and]
    refine c15 (F.St (by decide) hSt) A B P' hm (by omega) hk64 (fun h2 F2 x2 => ?_)
    have A2 := A.fr F2.1
    have S2 := S'.fr F2 (by omega)
    have B2 := F2.1.WS B
    simp only [AdS_ok A2.1, true_and]
    refine c3 A2.1 S2 B2 (by omega) ?_
    rw [x2]
    have kl := knw_lt (S := S) (lkW P q k (ld_p (pg_l P)).length) Wy hlen
    show (if ii (knw S (lkW P q k (ld_p (pg_l P)).length) Wy : Nat) = ii ((0 : Nat) : Int) then _ else _)
    by_cases g : knw S (lkW P q k (ld_p (pg_l P)).length) Wy = 0
    · rw [if_pos (by rw [g]), b13_111, ek]
      refine next _ _ ⟨F.tr F2, l3, some (.int (ii (wkH P k : Nat))), ?_⟩
      rw [hs]
      unfold wkF
      rw [if_neg (fun q => q.2 g)]
      rfl
    · rw [if_neg (by rw [ii_eq (by omega) (by omega) (by omega) (by omega)]; omega), b13_111, ek]
      refine next _ _ ⟨F.tr F2, l3, some (.int (ii (wkH P k : Nat))), ?_⟩
      rw [hs]
      unfold wkF
      rw [if_pos ⟨c, g⟩]
      rfl
  · rintro L' h' ⟨F, l3, l8, rfl⟩
    have hb := wkF_b (S := S) (P := P) (w := Wy) (q := q) hH (2 ^ (ld_p (pg_l P)).length) m0 m0l
    have A := hA.fr F.1
    have P' := PgR_adv hA hP F (by decide) (by decide)
    have L := P'.2.1
    have e1 : shl (ii 1) (ii (ld_p (pg_l P)).length) = ii ((2 ^ (ld_p (pg_l P)).length : Nat) : Int) := shl1 (by omega)
    have K1 := hK h' F
    generalize 2 ^ (ld_p (pg_l P)).length = G at *
    generalize itr (wkF S P q Wy) (-2, m0) G = bb at *
    rw [b13_46]
    simp only [AdS_ok A.1, true_and, PgS_okF P'.1, LaS_ok L.1, L.2.2.2.2.2.1, e1]
    rw [if_pos (by rw [ii_le (by omega) (by omega) (by omega) (by omega)]; omega)]
    rw [rI_s, rI_s]
    by_cases c : what = 1
    · rw [if_pos (by rw [c]; rfl)]
      rw [if_pos (Or.inl c)] at K1
      exact K1
    rw [if_neg (by rw [show ii 1 = ii ((1 : Nat) : Int) from rfl, ii_eq (by omega) (by omega) (by omega) (by omega)]; omega)]
    by_cases g : bb.1 = -2
    · rw [if_neg (by rw [g]; exact fun q => q rfl)]
      rw [if_pos (Or.inr g)] at K1
      exact K1
    · rw [if_pos (by rw [ii_eq (by omega) (by omega) (by omega) (by omega)]; exact g)]
      rw [if_neg (by rintro (a | a); exact c a; exact g a)] at K1
      exact K1
end Wl
