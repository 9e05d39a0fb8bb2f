/-! THE REFERENCE: cross, tell, midnight -/
section Rs
variable {d : Nat} {h h1 h2 : mHeap} {s : Cs} {P : Pg} {S : List Wd} {x y z : Int}
theorem bt1 {b : Bool} : (ii (bt b) = ii 1) ↔ b = true := by
  cases b <;> simp [bt] <;> decide
theorem bt0 {b : Bool} : (ii (bt b) = ii 0) ↔ b = false := by
  cases b <;> simp [bt] <;> decide
theorem btE {a b : Bool} : (ii (bt a) = ii (bt b)) ↔ a = b := by
  cases a <;> cases b <;> simp [bt] <;> decide
theorem nf32 {c : Prop} [Decidable c] : (¬ (if c then ii 1 else ii 0) = ii 0) ↔ c := by
  by_cases g : c
  · rw [if_pos g]; exact ⟨fun _ => g, fun _ => by decide⟩
  · rw [if_neg g]; exact ⟨fun n => absurd rfl n, fun q => absurd q g⟩
theorem f32 {c : Prop} [Decidable c] : ((if c then ii 1 else ii 0) = ii 0) ↔ ¬ c := ii_bne0
theorem RI.mo {h0 : mHeap} {m' : Mo} {u' : List Mo} {F R : List Nat} (hI : RI h0 s) (hC : CsI s) (z : RF F R h0 h) (f : ∀ k ∈ F, k ∈ [59, 60, 61]) (r : ∀ k ∈ R, k ∈ [149, 150, 153, 154, 163, 191, 190, 193]) (e149 : ∀ i, ¬ i = 6 → ¬ i = 1 → xA h 149 i = xA h0 149 i) (W : Rw h (pg_l (cs_P s)) m' (cs_S s)) (hU : RPa (lv h) (pg_l (cs_P s)) u') : RI h (sPg s (pg_l (cs_P s), m', u', pg_t (cs_P s), pg_x (cs_P s))) := by
  have f2 : ∀ k ∈ [59, 60, 61], k ∈ 59 :: scF := by decide
  have r2 : ∀ k ∈ [149, 150, 153, 154, 163, 191, 190, 193], k ∈ 200 :: (pgR ++ scR) ∧ ¬ k = 200 ∧ ¬ k ∈ [151, 152, 155, 156, 157, 158, 159, 160, 161, 162] := by decide
  refine hI.pg hC (z.wd (fun k g => f2 k (f k g)) (fun k g => (r2 k (r k g)).1)) (fun i _ => by rw [z.ae (by decide) (fun g => (r2 200 (r 200 g)).2.1 rfl)]) (RPg.act hI.2.2.2.2.1 hC.1.1 z (fun a ha g => (r2 a (r a g)).2.2 ha) e149 W.2.2.1.1 hU)
theorem RPa_sc {F R : List Nat} {l : Ld} {u : List Mo} (hU : RPa (lv h) l u) (z : RF F R h h1) (f : ¬ 59 ∈ F) (r : ¬ 191 ∈ R) : RPa (lv h1) l u := by
  have e : lv h1 191 = lv h 191 := by funext i; exact z.lv (by decide) r i
  have e0 : lv h1 0 0 = lv h 0 0 := z.fe f
  unfold RPa
  rw [e, e0]
  exact hU
/-- an act kept: all that was holds still -/
theorem c270w {K : mHeap → Prop} (hI : RI h s) (hC : CsI s) (hK : ∀ h1, RF [59, 60, 61] [149, 150, 153, 154, 163, 191] h h1 → (∀ r ∈ [149, 150, 153, 154, 163], xA h1 r = xA h r) → RPa (lv h1) (pg_l (cs_P s)) (rem (pg_u (cs_P s)) (pg_m (cs_P s))) → Rw h1 (pg_l (cs_P s)) (pg_m (cs_P s)) (cs_S s) → K h1) : GoCv (d + 4) 270 [.ref 148] h K := by
  have W := hI.w hC
  have hP := hI.2.2.2.2.1
  refine c270 W.1 W.q6 hP.2.1 hP.2.2.1 (fun h1 z e hU => hK h1 z e hU (W.mv z (by decide) (by decide) (by decide) (fun i _ _ _ _ => by rw [e 149 (by decide)]) ?_ W.mj))
  have rm := W.2.2.1.1
  unfold RMv at rm ⊢
  rw [lv_x (by decide), lv_x (by decide), lv_x (by decide), lv_x (by decide), lv_x (by decide)] at rm ⊢
  rw [e 149 (by decide), e 150 (by decide), e 153 (by decide), e 154 (by decide), e 163 (by decide)]
  exact rm
theorem c273 {K : Int32 → mHeap → Prop} (hI : RI h s) (hC : CsI s) (hx : i32 x) (hy : i32 y) (hK : ∀ h1, RI h1 (sPg s (aCross (cs_P s) (cs_S s) x y).2) → K (ii (aCross (cs_P s) (cs_S s) x y).1) h1) : GoCi (d + 5) 273 [.ref 148, .int (ii x), .int (ii y)] h K := by
  have W := hI.w hC
  have q6 := W.q6
  unfold aCross at hK
  rw [e273, b273_0]
  (try simp only [(RS.ok W.1), (RS.fr W.1), true_and, and_true, true_or, or_true])
  rw [c187 W hx]
  by_cases c : 0 ≤ x ∧ x < (ld_q (pg_l (cs_P s))).length
  · rw [if_pos c, if_neg (by decide)]
    (try simp only [(RS.ok W.1), (RS.fr W.1), true_and, and_true, true_or, or_true])
    rw [c190 W hy]
    by_cases c2 : 0 ≤ y ∧ y < (cs_S s).length
    · rw [if_pos c2, if_neg (by decide)]
      obtain ⟨q, rfl⟩ := nat_of c.1
      obtain ⟨k, rfl⟩ := nat_of c2.1
      have hq : q < (ld_q (pg_l (cs_P s))).length := by omega
      have hk : k < (cs_S s).length := by omega
      simp only [(RS.ok W.1), (RS.fr W.1), true_and, and_true, true_or, or_true, W.1.x154 (show q < 6 by omega), W.mo hq]
      by_cases c3 : mo_l (pg_m (cs_P s)) q = true
      · rw [if_neg (fun n => n (bt1.mpr c3)), rI_s]
        rw [if_neg (fun g => by
          have g2 : mo_l (pg_m (cs_P s)) q = false := g.1.2
          rw [c3] at g2; cases g2)] at hK
        exact hK h hI
      · rw [if_pos (fun n => c3 (bt1.mp n))]
        rw [if_pos (⟨⟨c, Bool.eq_false_iff.mpr c3⟩, c2⟩ : isUpp (cs_P s) (q : Int) ∧ isSa (cs_S s) (k : Int))] at hK
        (try simp only [(RS.ok W.1), (RS.fr W.1), true_and, and_true, true_or, or_true])
        refine c270w hI hC (fun h1 z e hU W1 => ?_)
        (try simp only [(RS.ok W1.1), (RS.fr W1.1), true_and, and_true, true_or, or_true])
        refine c272 W1 hq hk (fun h2 z2 W2 => ?_)
        rw [rI_s]
        refine hK h2 (hI.mo hC (z.tr (z2.wd (F1 := [59, 60, 61]) (R1 := [149, 150, 153, 154, 163, 191]) (by decide) (by decide))) (by decide) (by decide) (fun i _ _ => ?_) W2 (RPa_sc hU z2 (by decide) (by decide)))
        rw [z2.ae (by decide) (by decide), e 149 (by decide)]
    · rw [if_neg c2, if_pos rfl, rI_s]
      rw [if_neg (fun g => c2 g.2)] at hK
      exact hK h hI
  · rw [if_neg c, if_pos rfl, rI_s]
    rw [if_neg (fun g => c g.1.1)] at hK
    exact hK h hI
theorem c278 {K : Int32 → mHeap → Prop} (hI : RI h s) (hC : CsI s) (hK : ∀ h1, RI h1 (sPg s (aMid (cs_P s)).2) → K (ii (aMid (cs_P s)).1) h1) : GoCi (d + 6) 278 [.ref 148] h K := by
  have W := hI.w hC
  have dd := hC.1.2.1.2.1
  unfold aMid at hK
  rw [e278, b278_0]
  (try simp only [(RS.ok W.1), (RS.fr W.1), true_and, and_true, true_or, or_true])
  rw [c186 W]
  by_cases c : 0 < ld_n (pg_l (cs_P s))
  · rw [if_pos c, if_neg (by decide)]
    simp only [(RS.ok W.1), (RS.fr W.1), true_and, and_true, true_or, or_true, W.1.l149, W.day]
    by_cases c2 : mo_d (pg_m (cs_P s)) = 9999
    · rw [if_neg (by rw [c2]; exact fun n => n rfl), rI_s]
      rw [if_neg (by omega)] at hK
      exact hK h hI
    · rw [if_pos (by rw [show ii 9999 = ii (9999 : Int) from rfl, ii_eq (by omega) (by omega) (by omega) (by omega)]; omega)]
      rw [if_pos ⟨c, by omega⟩] at hK
      refine c270w hI hC (fun h1 z e hU W1 => ?_)
      (try simp only [(RS.ok W1.1), (RS.fr W1.1), true_and, and_true, true_or, or_true])
      refine c277 W1 (by omega) (fun h2 z2 e2 W2 => ?_)
      simp only [(RS.ok W2.1), (RS.fr W2.1), true_and, and_true, true_or, or_true, W2.1.l149, W2.day, rI_s]
      refine hK h2 (hI.mo hC (F := [59, 60, 61]) (R := [149, 150, 153, 154, 163, 191, 193]) ((z.wd (by decide) (by decide)).tr (z2.wd (by decide) (by decide))) (by decide) (by decide) (fun i i6 i1 => ?_) W2 (RPa_sc hU z2 (by decide) (by decide)))
      rw [e2 i i6 i1, e 149 (by decide)]
  · rw [if_neg c, if_pos rfl, rI_s]
    rw [if_neg (fun g => c g.1)] at hK
    exact hK h hI
theorem c274 {K : Int32 → mHeap → Prop} (hI : RI h s) (hC : CsI s) (hx : i32 x) (hy : i32 y) (hz : i32 z) (hK : ∀ h1, RI h1 (sPg s (aTell (cs_P s) (cs_S s) x y z).2) → K (ii (aTell (cs_P s) (cs_S s) x y z).1) h1) : GoCi (d + 6) 274 [.ref 148, .int (ii x), .int (ii y), .int (ii z)] h K := by
  have W := hI.w hC
  have q6 := W.q6
  have s24 := W.s24
  unfold aTell at hK
  rw [e274, b274_0]
  (try simp only [(RS.ok W.1), (RS.fr W.1), true_and, and_true, true_or, or_true])
  have no : ¬ (((isUpp (cs_P s) x ∧ isUpp (cs_P s) y) ∧ ¬ x = y) ∧ isSa (cs_S s) z ∧ mo_s (pg_m (cs_P s)) x.toNat = mo_s (pg_m (cs_P s)) y.toNat ∧ sub (mo_w (pg_m (cs_P s)) (x.toNat + 1)) (sy (cs_S s) z.toNat)) → K (ii (-1)) h := fun n => by
    rw [iteP_f n] at hK
    exact hK h hI
  rw [c187 W hx]
  by_cases c : 0 ≤ x ∧ x < (ld_q (pg_l (cs_P s))).length
  · rw [if_pos c, if_neg (by decide)]
    (try simp only [(RS.ok W.1), (RS.fr W.1), true_and, and_true, true_or, or_true])
    rw [c187 W hy]
    by_cases c2 : 0 ≤ y ∧ y < (ld_q (pg_l (cs_P s))).length
    · rw [if_pos c2, if_neg (by decide)]
      by_cases c0 : x = y
      · rw [if_pos (by rw [c0]), rI_s]
        exact no (fun g => g.1.2 c0)
      · rw [if_neg (by rw [ii_eq hx.1 hx.2 hy.1 hy.2]; exact c0)]
        (try simp only [(RS.ok W.1), (RS.fr W.1), true_and, and_true, true_or, or_true])
        rw [c190 W hz]
        by_cases c3 : 0 ≤ z ∧ z < (cs_S s).length
        · rw [if_pos c3, if_neg (by decide)]
          obtain ⟨q, rfl⟩ := nat_of c.1
          obtain ⟨o, rfl⟩ := nat_of c2.1
          obtain ⟨k, rfl⟩ := nat_of c3.1
          have hq : q < (ld_q (pg_l (cs_P s))).length := by omega
          have ho : o < (ld_q (pg_l (cs_P s))).length := by omega
          have hk : k < (cs_S s).length := by omega
          simp only [(RS.ok W.1), (RS.fr W.1), true_and, and_true, true_or, or_true, W.1.x150 (show q < 6 by omega), W.1.x150 (show o < 6 by omega), W.1.x154 (show q < 6 by omega), W.1.x154 (show o < 6 by omega), (W.mo hq).1, (W.mo ho).1, (W.mo hq).2.2.1, (W.mo ho).2.2.1]
          by_cases c4 : mo_s (pg_m (cs_P s)) q = mo_s (pg_m (cs_P s)) o
          · rw [if_neg (fun n => n (btE.mpr c4))]
            by_cases c5 : mo_l (pg_m (cs_P s)) q = false ∧ mo_l (pg_m (cs_P s)) o = false
            · rw [c5.1, c5.2, if_neg (by decide)]
              (try simp only [(RS.ok W.1), (RS.fr W.1), true_and, and_true, true_or, or_true])
              rw [c247 W.1 (by omega) (by omega), W.ss hk, (W.mo hq).2.2.2]
              by_cases c6 : sub (mo_w (pg_m (cs_P s)) (q + 1)) (sy (cs_S s) k)
              · rw [bP_t c6, if_pos (by decide)]
                rw [iteP_t ⟨⟨⟨⟨c, c5.1⟩, ⟨c2, c5.2⟩⟩, c0⟩, c3, c4, c6⟩] at hK
                (try simp only [(RS.ok W.1), (RS.fr W.1), true_and, and_true, true_or, or_true])
                refine c270w hI hC (fun h1 z1 e hU W1 => ?_)
                (try simp only [(RS.ok W1.1), (RS.fr W1.1), true_and, and_true, true_or, or_true])
                refine c249 W1.1 (show o < 7 by omega) (show k < 24 by omega) (fun h2 z2 => ?_)
                rw [W1.ss hk, (W1.mo ho).2.2.2] at z2
                have W2 := z2.hw W1 (Or.inl ho) (capW_W2 (fun w hw => W1.mj.2.2.2 (o + 1) w (by omega) hw))
                rw [if_neg (show ¬ o = 6 by omega)] at W2
                (try simp only [(RS.ok W2.1), (RS.fr W2.1), true_and, and_true, true_or, or_true])
                rw [c246 W2.1 (by omega), z2.2.1, rI_s]
                refine hK h2 (hI.mo hC (F := [59, 60, 61]) (R := [149, 150, 153, 154, 163, 191]) ((z1.wd (by decide) (by decide)).tr (z2.1.wd (by decide) (by decide))) (by decide) (by decide) (fun i i6 i1 => ?_) W2 (RPa_sc hU z2.1 (by decide) (by decide)))
                rw [z2.1.ae (by decide) (by decide), e 149 (by decide)]
              · rw [bP_f c6, if_neg (by decide), rI_s]
                exact no (fun g => c6 g.2.2.2)
            · rw [if_pos (by
                revert c5
                cases mo_l (pg_m (cs_P s)) q <;> cases mo_l (pg_m (cs_P s)) o <;> simp [bt] <;> decide), rI_s]
              exact no (fun g => c5 ⟨g.1.1.1.2, g.1.1.2.2⟩)
          · rw [if_pos (fun n => c4 (btE.mp n)), rI_s]
            exact no (fun g => c4 g.2.2.1)
        · rw [if_neg c3, if_pos rfl, rI_s]
          exact no (fun g => c3 g.2.1)
    · rw [if_neg c2, if_pos rfl, rI_s]
      exact no (fun g => c2 g.1.1.2.1)
  · rw [if_neg c, if_pos rfl, rI_s]
    exact no (fun g => c g.1.1.1.1)
end Rs
