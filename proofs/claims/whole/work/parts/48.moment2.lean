/-! A MOMENT: midnight, crossing, copies, a start -/
section M2
variable {d : Nat} {h h1 : mHeap} {a b : Nat} {l : Ld} {m m2 : Mo}
theorem MoR_put (hM : MoR h b m) {k : Nat} (hk : k < 4) (x : Int32) {m' : Mo} (e0 : (if 0 = k then x else fI h b 0) = ii (mo_d m')) (e1 : (if 1 = k then x else fI h b 1) = ii (mo_f m')) (e2 : (if 2 = k then x else fI h b 2) = ii (nb (mo_s m') 6)) (e3 : (if 3 = k then x else fI h b 3) = ii (nb (mo_l m') 6)) (e4 : mo_h m' = mo_h m) (e5 : mo_w m' = mo_w m) : MoR (sF h b k (.int x)) b m' ∧ Fr b 10 h (sF h b k (.int x)) := by
  have ht := MoS_t hM.1 hk
  have hf := Fr.sF (x := x) ht
  have g : ∀ j, fI (sF h b k (.int x)) b j = if j = k then x else fI h b j := by
    intro j
    rw [fI_sF ht]
    by_cases q : j = k
    · rw [if_pos ⟨rfl, q.symm⟩, if_pos q]
    · rw [if_neg (fun c => q c.2.symm), if_neg q]
  refine ⟨⟨hf.1.MoS hM.1, by rw [g]; exact e0, by rw [g]; exact e1, by rw [g]; exact e2, by rw [g]; exact e3, fun p hp => by rw [xA_sF, e4]; exact hM.2.2.2.2.2.1 p hp, fun i hi => by rw [wo_sFi ht, e5]; exact hM.2.2.2.2.2.2 i hi⟩, hf.wide (by omega) (by omega)⟩
theorem MoR_d (hM : MoR h b m) (x : Nat) : MoR (sF h b 0 (.int (ii x))) b (x, m.2) ∧ Fr b 10 h (sF h b 0 (.int (ii x))) := MoR_put hM (by decide) _ rfl hM.2.2.1 hM.2.2.2.1 hM.2.2.2.2.1 rfl rfl
theorem MoR_f (hM : MoR h b m) (x : Nat) : MoR (sF h b 1 (.int (ii x))) b (m.1, x, m.2.2) ∧ Fr b 10 h (sF h b 1 (.int (ii x))) := MoR_put hM (by decide) _ hM.2.1 rfl hM.2.2.2.1 hM.2.2.2.2.1 rfl rfl
theorem MoR_s (hM : MoR h b m) (s : Nat → Bool) : MoR (sF h b 2 (.int (ii (nb s 6)))) b (m.1, m.2.1, s, m.2.2.2) ∧ Fr b 10 h (sF h b 2 (.int (ii (nb s 6)))) := MoR_put hM (by decide) _ hM.2.1 hM.2.2.1 rfl hM.2.2.2.2.1 rfl rfl
theorem MoR_l (hM : MoR h b m) (s : Nat → Bool) : MoR (sF h b 3 (.int (ii (nb s 6)))) b (m.1, m.2.1, m.2.2.1, s, m.2.2.2.2) ∧ Fr b 10 h (sF h b 3 (.int (ii (nb s 6)))) := MoR_put hM (by decide) _ hM.2.1 hM.2.2.1 hM.2.2.2.1 rfl rfl rfl
theorem MoR_h (hM : MoR h b m) (hf : Fr (b + 1) 1 h h1) {g : Nat → Nat} (e : ∀ p, p < 6 → xA h1 (b + 1) p = ii (g p)) : MoR h1 b (m.1, m.2.1, m.2.2.1, m.2.2.2.1, g, m.2.2.2.2.2) ∧ Fr b 10 h h1 := by
  have e0 : h1[b]? = h[b]? := hf.2.2.2 _ (by omega)
  refine ⟨⟨hf.1.MoS hM.1, by rw [same_fI e0]; exact hM.2.1, by rw [same_fI e0]; exact hM.2.2.1, by rw [same_fI e0]; exact hM.2.2.2.1, by rw [same_fI e0]; exact hM.2.2.2.2.1, e, fun i hi => by rw [same_wo (hf.2.2.2 _ (by omega))]; exact hM.2.2.2.2.2.2 i hi⟩, hf.wide (by omega) (by omega)⟩
theorem nb_no : nb (fun _ => false) 6 = 0 := by decide
/-- all turns of a day, upon the first n sets -/
def sprL (fs : List Nat) (w : Wd) : Wd := fs.foldl (fun w f => spr f w) w
def mid (l : Ld) (m : Mo) : Mo := (m.1 + 1, m.2.1 ^^^ xAll (tOn l (m.1 + 1)), m.2.2.1, fun _ => false, fun _ => 0, fun i => if i < (ld_q l).length + 1 then sprL (tOn l (m.1 + 1)) (mo_w m i) else mo_w m i)
theorem sprL_app (fs : List Nat) (f : Nat) (w : Wd) : sprL (fs ++ [f]) w = spr f (sprL fs w) := by
  unfold sprL
  rw [List.foldl_append]
  rfl
/-- passMidnight -/
theorem c51 {K : mHeap → Prop} (hS : St h) (hM : MoR h b m) (hL : LaR h a l) (ok : LdOk l) (hd : mo_d m < 1000000) (dis : a + 8 ≤ b ∨ b + 10 ≤ a) (hK : ∀ h1, Fr b 10 h h1 → MoR h1 b (mid l m) → K h1) : GoCv (d + 4) 51 [.ref b, .ref a] h K := by
  have hq : (ld_q l).length ≤ 6 := ok.2.2.1
  have ht : (ld_t l).length ≤ 8 := ok.2.2.2.2.2.1
  rw [e51, b51_0]
  have ed : fI h b 0 + ii 1 = ii ((mo_d m + 1 : Nat) : Int) := by rw [hM.2.1, ii_add]; rfl
  rw [ed]
  obtain ⟨A1, F1⟩ := MoR_d hM (mo_d m + 1)
  have A2' := MoR_l A1 (fun _ => false)
  rw [nb_no, show ((0 : Nat) : Int) = 0 from rfl] at A2'
  obtain ⟨A2, F2⟩ := A2'
  refine ⟨(MoS_okF hM.1).1, MoS_okP hM.1 (by decide), MoS_okP A1.1 (by decide), (MoS_okF A2.1).2.2.2.2.1, ?_⟩
  rw [(MoS_okF A2.1).2.2.2.2.2.2.1]
  refine c325 (n := 6) (by have := hM.1.1; omega) A2.1.2.2.1 (by decide) (fun h2 F3 hx => ?_)
  obtain ⟨A3, F3⟩ := MoR_h A2 F3 (g := fun _ => 0) (fun p hp => hx p hp)
  have F13 := (F1.tr F2).tr F3
  have hL3 : LaR h2 a l := hL.fr F13 (by omega)
  refine ⟨(MoS_okF A3.1).2.1, (MoS_okF A3.1).1, (LaS_ok hL3.1).2.2.2.2.2.2.2.2.2.2.2.2.2.2, ?_⟩
  rw [A3.2.1, A3.2.2.1]
  show GoCi _ 42 [.ref a, .int (ii ((mo_d m + 1 : Nat) : Int))] h2 _
  rw [c42 hL3 ok (by omega)]
  refine ⟨MoS_okP A3.1 (by decide), ?_⟩
  show Go _ 51 42 _ [] (sF h2 b 1 (.int (ii (mo_f m : Nat) ^^^ ii _))) _
  rw [xor_ii]
  obtain ⟨A4, F4⟩ := MoR_f A3 (mo_f m ^^^ xAll (tOn l (mo_d m + 1)))
  have F14 := F13.tr F4
  refine Go_loop (fun k L' h' => L' = [some (.ref b), some (.ref a), some (.int (ii k))] ∧ Fr b 10 h h' ∧ MoR h' b (m.1 + 1, m.2.1 ^^^ xAll (tOn l (m.1 + 1)), m.2.2.1, fun _ => false, fun _ => 0, fun i => if i < (ld_q l).length + 1 then sprL (tOnK l (m.1 + 1) k) (mo_w m i) else mo_w m i)) (ld_t l).length ?_ ?_ 0 _ _ (Nat.zero_le _) ⟨rfl, F14, ?_⟩
  · rintro k L' h' hk ⟨rfl, hf, hM'⟩ next
    have hL' := hL.fr hf (by omega)
    have hT := hL'.2.2.2.2.2.2.2.1
    have hS' := hf.St hM.1.1 hS
    have r1 := row_ok hL'.1.2.2.2.2.2.2.2.2 (show k < 8 by omega) (by omega)
    have r2 := row_ok hL'.1.2.2.2.2.2.2.2.1 (show k < 8 by omega) (by omega)
    have hv := hL'.2.2.2.2.2.2.2.2.2.2.2 k hk
    have hb := ok.t hk
    have ek : ii (k : Int) + ii 1 = ii ((k + 1 : Nat) : Int) := by rw [ii_add]; rfl
    rw [b51_42]
    simp only [LaS_ok hL'.1, true_and, hT, LaS_fR hL'.1, r1, r2, hv, MoS_okF hM'.1, hM'.2.1]
    rw [if_neg (by rw [ii_le (by omega) (by omega) (by omega) (by omega)]; omega)]
    have e1 : mo_d ((m.1 + 1, m.2.1 ^^^ xAll (tOn l (m.1 + 1)), m.2.2.1, fun _ => false, fun _ => 0, fun i => if i < (ld_q l).length + 1 then sprL (tOnK l (m.1 + 1) k) (mo_w m i) else mo_w m i) : Mo) = m.1 + 1 := rfl
    have hd' : m.1 < 1000000 := hd
    rw [e1]
    by_cases q : (la_t l k).2 = m.1 + 1
    · rw [if_neg (by rw [q]; exact fun g => g rfl), hL'.2.2.2.1]
      refine c52 hS' hM' hb.1 hq (fun h3 f3 m3 => ?_)
      rw [b51_77, ek]
      refine next _ _ ⟨rfl, hf.tr f3, ?_⟩
      rw [tOnK_succ hk, if_pos q]
      have : (fgt ((m.1 + 1, m.2.1 ^^^ xAll (tOn l (m.1 + 1)), m.2.2.1, fun _ => false, fun _ => 0, fun i => if i < (ld_q l).length + 1 then sprL (tOnK l (m.1 + 1) k) (mo_w m i) else mo_w m i) : Mo) (la_t l k).1 ((ld_q l).length + 1)) = (m.1 + 1, m.2.1 ^^^ xAll (tOn l (m.1 + 1)), m.2.2.1, fun _ => false, fun _ => 0, fun i => if i < (ld_q l).length + 1 then sprL (tOnK l (m.1 + 1) k ++ [(la_t l k).1]) (mo_w m i) else mo_w m i) := by
        unfold fgt
        have e2 : (fun i => if i < (ld_q l).length + 1 then spr (la_t l k).1 ((fun i => if i < (ld_q l).length + 1 then sprL (tOnK l (m.1 + 1) k) (mo_w m i) else mo_w m i) i) else (fun i => if i < (ld_q l).length + 1 then sprL (tOnK l (m.1 + 1) k) (mo_w m i) else mo_w m i) i) = fun i => if i < (ld_q l).length + 1 then sprL (tOnK l (m.1 + 1) k ++ [(la_t l k).1]) (mo_w m i) else mo_w m i := by
          funext i
          by_cases c : i < (ld_q l).length + 1
          · simp only [if_pos c, sprL_app]
          · simp only [if_neg c]
        exact congrArg (fun w : Nat → Wd => ((m.1 + 1, m.2.1 ^^^ xAll (tOn l (m.1 + 1)), m.2.2.1, fun _ => false, fun _ => 0, w) : Mo)) e2
      rw [this] at m3
      exact m3
    · rw [if_pos (by rw [ii_eq (by omega) (by omega) (by omega) (by omega)]; omega), b51_77, ek]
      refine next _ _ ⟨rfl, hf, ?_⟩
      rw [tOnK_succ hk, if_neg q, List.append_nil]
      exact hM'
  · rintro L' h' ⟨rfl, hf, hM'⟩
    have hL' := hL.fr hf (by omega)
    have hT := hL'.2.2.2.2.2.2.2.1
    rw [b51_42]
    simp only [LaS_ok hL'.1, true_and, hT]
    rw [if_pos (by rw [ii_le (by omega) (by omega) (by omega) (by omega)]; omega), rV_s]
    rw [tOnK_all] at hM'
    exact hK h' hf hM'
  · have : (fun i => if i < (ld_q l).length + 1 then sprL (tOnK l (m.1 + 1) 0) (mo_w m i) else mo_w m i) = mo_w m := by
      funext i
      split <;> rfl
    rw [this]
    exact A4
/-! crossing -/
def gainW (v w : Wd) : Nat := cB (fun i => v i && !w i) 256
def capW (v w : Wd) : Wd := fun i => decide (i < 256) && (v i && w i)
/-- what comes of it, and the moment behind it -/
def cro (m : Mo) (q wt : Nat) (w : Wd) : Nat × Mo :=
  if w (mo_f m) = false ∨ gainW (mo_w m 0) w = 0 then ((if w (mo_f m) = true then 1 else 0), (m.1, m.2.1, m.2.2.1, upf (mo_l m) q true, m.2.2.2.2))
  else if gainW (mo_w m 0) w < wt then (2, mo_sw m 0 (capW (mo_w m 0) w))
  else (3, (m.1, m.2.1, upf (mo_s m) q (!mo_s m q), m.2.2.2.1, m.2.2.2.2.1, upf (mo_w m) 0 (capW (mo_w m 0) w)))
theorem nb_ext {u v : Nat → Bool} {n : Nat} (e : ∀ i, i < n → u i = v i) : nb u n = nb v n := by
  apply Nat.eq_of_testBit_eq
  intro i
  rw [nb_bit, nb_bit]
  by_cases q : i < n
  · rw [e i q]
  · simp [q]
theorem nb_set {s : Nat → Bool} {n q : Nat} (hq : q < n) : nb s n ||| 2 ^ q = nb (upf s q true) n := by
  apply Nat.eq_of_testBit_eq
  intro i
  rw [Nat.testBit_or, nb_bit, nb_bit, Nat.testBit_two_pow]
  unfold upf
  by_cases c : i = q
  · subst c; simp [hq]
  · have : ¬ q = i := fun e => c e.symm
    simp [c, this]
theorem nb_flip {s : Nat → Bool} {n q : Nat} (hq : q < n) : nb s n ^^^ 2 ^ q = nb (upf s q (!s q)) n := by
  apply Nat.eq_of_testBit_eq
  intro i
  rw [Nat.testBit_xor, nb_bit, nb_bit, Nat.testBit_two_pow]
  unfold upf
  by_cases c : i = q
  · subst c; simp [hq]
  · have : ¬ q = i := fun e => c e.symm
    simp [c, this]
theorem cB256 (w : Nat → Bool) : cB w 256 ≤ 256 := cB_le w 256
/-- crossBy -/
theorem c50 {K : Int32 → mHeap → Prop} (hM : MoR h b m) (hf8 : mo_f m < 256) {q wt : Nat} (hq : q < 6) (hwt : wt < 1000) (hW : WS h a) (dis : a < b ∨ b + 10 ≤ a) (hK : ∀ h1, Fr b 10 h h1 → MoR h1 b (cro m q wt (wo h a)).2 → K (ii (cro m q wt (wo h a)).1) h1) : GoCi (d + 3) 50 [.ref b, .int (ii q), .int (ii wt), .ref a] h K := by
  have hB := hM.1.2.2.2.2.2 0 (by decide)
  have hH := hM.2.2.2.2.2.2 0 (by decide)
  rw [Nat.add_zero] at hB hH
  have hg : cB (fun i => wo h (b + 3) i && !wo h a i) 256 = gainW (mo_w m 0) (wo h a) := by rw [hH]; rfl
  have hg2 : gainW (mo_w m 0) (wo h a) ≤ 256 := cB256 _
  rw [e50, b50_0]
  refine ⟨(MoS_okF hM.1).2.2.2.2.2.2.2.2, ?_⟩
  rw [c46 hM.1 (i := 0) (by rfl) (by decide), Nat.add_zero]
  refine ⟨W_oC hB, ?_⟩
  rw [c127 hB hW]
  refine ⟨(MoS_okF hM.1).2.1, W_oC hW, ?_⟩
  rw [hM.2.2.1, c130 hW hf8, hg]
  have fall : (wo h a (mo_f m) = false ∨ gainW (mo_w m 0) (wo h a) = 0) → Go (d + 2) 50 31 [some (.ref b), some (.int (ii q)), some (.int (ii wt)), some (.ref a), some (.ref (b + 3)), some (.int (ii (gainW (mo_w m 0) (wo h a))))] [] h (rI K) := by
    intro hc
    have ex : fI h b 3 ||| shl (ii 1) (ii q) = ii (nb (upf (mo_l m) q true) 6) := by rw [hM.2.2.2.2.1, shl1 (by omega), or_ii, nb_set hq]
    rw [b50_31, ex]
    obtain ⟨A1, F1⟩ := MoR_l hM (upf (mo_l m) q true)
    have hW1 := F1.1.WS hW
    refine ⟨(MoS_okF hM.1).2.2.2.1, MoS_okP hM.1 (by decide), (MoS_okF A1.1).2.1, W_oC hW1, ?_⟩
    rw [A1.2.2.1]
    show GoCi (d + 2) 130 [.ref a, .int (ii (mo_f m : Nat))] _ _
    rw [c130 hW1 hf8, same_wo (F1.2.2.2 a dis)]
    have hk := hK _ F1
    unfold cro at hk
    rw [if_pos hc] at hk
    cases hv : wo h a (mo_f m) with
    | true =>
      rw [bP_t rfl, if_neg (by decide), rI_s]
      rw [hv] at hk
      exact hk A1
    | false =>
      rw [bP_f (by decide), if_pos rfl, rI_s]
      rw [hv] at hk
      exact hk A1
  cases hv : wo h a (mo_f m) with
  | false =>
    rw [bP_f (by decide), if_pos rfl]
    exact fall (Or.inl hv)
  | true =>
    rw [bP_t rfl, if_neg (by decide)]
    by_cases h0 : gainW (mo_w m 0) (wo h a) = 0
    · rw [if_neg (by rw [h0]; exact fun g => g rfl)]
      exact fall (Or.inr h0)
    · rw [if_pos (by rw [ii_eq (by omega) (by omega) (by omega) (by omega)]; omega)]
      refine ⟨W_oC hB, ?_⟩
      rw [c121 hB hW]
      obtain ⟨A1, F1⟩ := MoR_pW hM (i := 0) (by decide) (fun i => wo h (b + 3) i && wo h a i)
      rw [Nat.add_zero] at A1 F1
      have hn : ¬ (wo h a (mo_f m) = false ∨ gainW (mo_w m 0) (wo h a) = 0) := by rw [hv]; simp [h0]
      have ec : (fun j => decide (j < 256) && (fun i => wo h (b + 3) i && wo h a i) j) = capW (mo_w m 0) (wo h a) := by
        rw [hH]; rfl
      rw [ec] at A1
      by_cases hw : gainW (mo_w m 0) (wo h a) < wt
      · rw [if_neg (by rw [ii_le (by omega) (by omega) (by omega) (by omega)]; omega), rI_s]
        have hk := hK _ F1
        unfold cro at hk
        rw [if_neg hn, if_pos hw] at hk
        exact hk A1
      · rw [if_pos (by rw [ii_le (by omega) (by omega) (by omega) (by omega)]; omega)]
        have ex : fI (pW h (b + 3) (fun i => wo h (b + 3) i && wo h a i)) b 2 ^^^ shl (ii 1) (ii q) = ii (nb (upf (mo_s m) q (!mo_s m q)) 6) := by
          rw [A1.2.2.2.1, shl1 (by omega), xor_ii, nb_flip hq]
          rfl
        rw [ex]
        obtain ⟨A2, F2⟩ := MoR_s A1 (upf (mo_s m) q (!mo_s m q))
        refine ⟨(MoS_okF A1.1).2.2.1, MoS_okP A1.1 (by decide), ?_⟩
        rw [rI_s]
        have hk := hK _ (F1.tr F2)
        unfold cro at hk
        rw [if_neg hn, if_neg hw] at hk
        exact hk A2
end M2
