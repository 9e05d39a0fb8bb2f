/-! THE REFERENCE: ways, a look -/
section Rt
variable {d : Nat} {h h1 h2 : mHeap} {l : Ld} {m : Mo} {S : List Wd} {P : Pg} {s : Cs} {f : Nat → Nat} {a b k i j n : Nat} {Q : Option Value → mHeap → Prop} {x y z : Int} {l2 l3 l4 : Option Value}
def FaR (h : mHeap) (f : Nat → Nat) : Prop := ∀ i, i < 36 → xA h 190 i = ii (f i : Nat) ∧ f i ≤ 100000
theorem ix6 (q k : Nat) : ii 6 * ii (q : Nat) + ii (k : Nat) = ii ((6 * q + k : Nat) : Int) := by
  rw [ii_mul, ii_add]
  exact congrArg ii (by omega)
theorem c257_10 (hR : RS h) (ha : a < 6) (h0 : ∀ i, i < 6 * a → xA h 190 i = ii (ry0 i : Nat)) (hG : ∀ h1 l2', RF [] [190] h h1 → (∀ i, i < 6 * (a + 1) → xA h1 190 i = ii (ry0 i : Nat)) → Go d 257 2 [some (.ref 148), some (.int (ii ((a + 1 : Nat) : Int))), l2', l3, l4] [] h1 Q) : Go d 257 10 [some (.ref 148), some (.int (ii (a : Nat))), some (.int (ii 0)), l3, l4] [] h Q := by
  refine Go_loop (fun j L h' => L = [some (.ref 148), some (.int (ii (a : Nat))), some (.int (ii (j : Nat))), l3, l4] ∧ RF [] [190] h h' ∧ ∀ i, i < 6 * a + j → xA h' 190 i = ii (ry0 i : Nat)) 6 ?_ ?_ 0 _ h (Nat.zero_le _) ⟨rfl, RF.rf, h0⟩
  · rintro j L h' hj ⟨rfl, z, x2⟩ nx
    have hR' : RS h' := z.rs hR (by decide)
    have step : ∀ v : Int32, v = ii (ry0 (6 * a + j) : Nat) → Go d 257 38 [some (.ref 148), some (.int (ii (a : Nat))), some (.int (ii (j : Nat))), l3, l4] [.int v, .int (ii ((6 * a + j : Nat) : Int)), .ref 190] h' Q := fun v hv => by
      rw [b257_38]
      simp only [hR'.x190 (show 6 * a + j < 36 by omega)]
      refine ⟨⟨by decide, trivial⟩, ?_⟩
      rw [show ii (j : Nat) + ii 1 = ii ((j + 1 : Nat) : Int) from ii_add _ _]
      refine nx _ _ ⟨rfl, z.tr RF.sI, fun i hi => ?_⟩
      rw [hR'.s190 (show 6 * a + j < 36 by omega), if_pos rfl]
      unfold upf
      by_cases c : i = 6 * a + j
      · rw [if_pos c, c]; exact hv
      · rw [if_neg c]; exact x2 i (by omega)
    rw [b257_10, if_neg (by rw [show ii 6 = ii (6 : Int) from rfl, ii_le (by omega) (by omega) (by omega) (by omega)]; omega)]
    simp only [(RS.ok hR'), (RS.fr hR'), true_and, and_true, true_or, or_true, ix6]
    have r : ry0 (6 * a + j) = if a = j then 0 else 100000 := by unfold ry0; rw [show (6 * a + j) / 6 = a by omega, show (6 * a + j) % 6 = j by omega]
    by_cases c : a = j
    · rw [if_neg (by rw [c]; exact fun n => n rfl)]
      exact step _ (by rw [r, if_pos c]; rfl)
    · rw [if_pos (by rw [ii_eq (by omega) (by omega) (by omega) (by omega)]; omega)]
      exact step _ (by rw [r, if_neg c]; rfl)
  · rintro L h' ⟨rfl, z, x2⟩
    rw [b257_10, if_pos (show ii 6 ≤ ii ((6 : Nat) : Int) by decide)]
    rw [show ii (a : Nat) + ii 1 = ii ((a + 1 : Nat) : Int) from ii_add _ _]
    exact hG h' _ z (fun i hi => x2 i (by omega))
theorem ry0_le : ry0 i ≤ 100000 := by unfold ry0; split <;> omega
theorem c257_2 (hR : RS h) (hG : ∀ h1 l2' l3' l4', RF [] [190] h h1 → FaR h1 ry0 → Go d 257 53 [some (.ref 148), some (.int (ii 0)), l2', l3', l4'] [] h1 Q) : Go d 257 2 [some (.ref 148), some (.int (ii 0)), l2, l3, l4] [] h Q := by
  refine Go_loop (fun j L h' => (∃ l2', L = [some (.ref 148), some (.int (ii (j : Nat))), l2', l3, l4]) ∧ RF [] [190] h h' ∧ ∀ i, i < 6 * j → xA h' 190 i = ii (ry0 i : Nat)) 6 ?_ ?_ 0 _ h (Nat.zero_le _) ⟨⟨_, rfl⟩, RF.rf, fun i hi => absurd hi (by omega)⟩
  · rintro j L h' hj ⟨⟨l2', rfl⟩, z, x2⟩ nx
    have hR' : RS h' := z.rs hR (by decide)
    rw [b257_2, if_neg (by rw [show ii 6 = ii (6 : Int) from rfl, ii_le (by omega) (by omega) (by omega) (by omega)]; omega)]
    exact c257_10 hR' hj x2 (fun h1 l2'' z1 y1 => nx _ _ ⟨⟨_, rfl⟩, z.tr z1, y1⟩)
  · rintro L h' ⟨⟨l2', rfl⟩, z, x2⟩
    rw [b257_2, if_pos (show ii 6 ≤ ii ((6 : Nat) : Int) by decide)]
    exact hG h' _ _ _ z (fun i hi => ⟨x2 i (by omega), ry0_le⟩)
def ryK (l : Ld) (k : Nat) : Nat → Nat := ((ld_w l).take k).foldl (fun f w => rsh f w.1 w.2.1 w.2.2) ry0
theorem ryK_s (hk : k < (ld_w l).length) : ryK l (k + 1) = rsh (ryK l k) (la_w l k).1 (la_w l k).2.1 (la_w l k).2.2 := by
  unfold ryK
  have e : (ld_w l)[k]? = some (la_w l k) := by
    unfold la_w
    rw [List.getD_eq_getElem?_getD, List.getElem?_eq_getElem hk]
    rfl
  rw [List.take_succ, List.foldl_append, e]
  rfl
theorem la_w_mem (hk : k < (ld_w l).length) : la_w l k ∈ ld_w l := by
  unfold la_w
  rw [List.getD_eq_getElem?_getD, List.getElem?_eq_getElem hk]
  exact List.getElem_mem hk
theorem rsh_le (h : ∀ i, f i ≤ 100000) (a b v : Nat) : ∀ i, rsh f a b v i ≤ 100000 := fun i => by
  have := h (6 * a + b)
  have := h i
  unfold rsh upf
  split
  · split <;> omega
  · split
    · split <;> omega
    · omega
theorem ryK_le : ∀ k i, ryK l k i ≤ 100000 := by
  intro k
  have : ∀ (ws : List (Nat × Nat × Nat)) (f : Nat → Nat), (∀ i, f i ≤ 100000) → ∀ i, ws.foldl (fun f w => rsh f w.1 w.2.1 w.2.2) f i ≤ 100000 := by
    intro ws
    induction ws with
    | nil => intro f h; exact h
    | cons w ws ih => intro f h; exact ih _ (rsh_le h _ _ _)
  exact this _ _ (fun i => ry0_le)
theorem c257_53 (W : Rw h l m S) (hF : FaR h ry0) (hG : ∀ h1 l2' l3' l4', RF [] [190] h h1 → FaR h1 (ryP l) → Go d 257 153 [some (.ref 148), some (.int (ii 0)), l2', l3', l4'] [] h1 Q) : Go d 257 53 [some (.ref 148), some (.int (ii 0)), l2, l3, l4] [] h Q := by
  have w10 := W.ok.2.2.2.2.1
  have p6 := W.p6
  refine Go_loop (fun j L h' => (∃ l2' l3' l4', L = [some (.ref 148), some (.int (ii (j : Nat))), l2', l3', l4']) ∧ RF [] [190] h h' ∧ FaR h' (ryK l j)) (ld_w l).length ?_ ?_ 0 _ h (Nat.zero_le _) ⟨⟨_, _, _, rfl⟩, RF.rf, hF⟩
  · rintro j L h' hj ⟨⟨l2', l3', l4', rfl⟩, z, F⟩ nx
    have W' : Rw h' l m S := W.sc z (by decide) (by decide) (by decide)
    have hR' := W'.1
    have ww := W'.ww hj
    have wo := W.ok.2.2.2.2.2.2.2.2.1 _ (la_w_mem hj)
    have i1 : 6 * (la_w l j).1 + (la_w l j).2.1 < 36 := by omega
    have i2 : 6 * (la_w l j).2.1 + (la_w l j).1 < 36 := by omega
    have f1 := F _ i1
    rw [b257_53]
    simp only [(RS.ok hR'), (RS.fr hR'), true_and, and_true, true_or, or_true, hR'.l149, W'.nw, hR'.x156 (show j < 10 by omega), hR'.x157 (show j < 10 by omega), hR'.x158 (show j < 10 by omega), ww, ix6, hR'.x190 i1, f1]
    rw [if_neg (by rw [ii_le (by omega) (by omega) (by omega) (by omega)]; omega)]
    have step : ∀ v : Int32, v = ii ((if (la_w l j).2.2 < ryK l j (6 * (la_w l j).1 + (la_w l j).2.1) then (la_w l j).2.2 else ryK l j (6 * (la_w l j).1 + (la_w l j).2.1) : Nat) : Int) → Go d 257 132 [some (.ref 148), some (.int (ii (j : Nat))), some (.int (ii ((6 * (la_w l j).1 + (la_w l j).2.1 : Nat) : Int))), some (.int (ii ((6 * (la_w l j).2.1 + (la_w l j).1 : Nat) : Int))), l4'] [.int v, .int (ii ((6 * (la_w l j).1 + (la_w l j).2.1 : Nat) : Int)), .ref 190] h' Q := fun v hv => by
      have hR2 : RS (sI h' 190 (ii ((6 * (la_w l j).1 + (la_w l j).2.1 : Nat) : Int)) v) := hR'.si (by decide)
      have e2 : xA (sI h' 190 (ii ((6 * (la_w l j).1 + (la_w l j).2.1 : Nat) : Int)) v) 190 = upf (xA h' 190) (6 * (la_w l j).1 + (la_w l j).2.1) v := by rw [hR'.s190 i1, if_pos rfl]
      have e3 : upf (xA h' 190) (6 * (la_w l j).1 + (la_w l j).2.1) v (6 * (la_w l j).1 + (la_w l j).2.1) = v := by unfold upf; rw [if_pos rfl]
      rw [b257_132]
      simp only [hR'.x190 i1, (RS.ok hR2), (RS.fr hR2), true_and, and_true, true_or, or_true, hR2.x190 i1, hR2.x190 i2, e2, e3]
      refine ⟨by decide, by decide, ?_⟩
      rw [show ii (j : Nat) + ii 1 = ii ((j + 1 : Nat) : Int) from ii_add _ _]
      refine nx _ _ ⟨⟨_, _, _, rfl⟩, z.tr (RF.sI.tr RF.sI), fun i hi => ⟨?_, ryK_le _ _⟩⟩
      rw [hR2.s190 i2, if_pos rfl, e2, ryK_s hj]
      unfold rsh upf
      by_cases c1 : i = 6 * (la_w l j).2.1 + (la_w l j).1
      · rw [if_pos c1, if_pos c1]; exact hv
      · rw [if_neg c1, if_neg c1]
        by_cases c2 : i = 6 * (la_w l j).1 + (la_w l j).2.1
        · rw [if_pos c2, if_pos c2]; exact hv
        · rw [if_neg c2, if_neg c2]; exact (F i hi).1
    by_cases c : (la_w l j).2.2 < ryK l j (6 * (la_w l j).1 + (la_w l j).2.1)
    · rw [if_neg (by rw [ii_le (by omega) (by omega) (by omega) (by omega)]; omega)]
      exact step _ (by rw [if_pos c])
    · rw [if_pos (by rw [ii_le (by omega) (by omega) (by omega) (by omega)]; omega)]
      exact step _ (by rw [if_neg c])
  · rintro L h' ⟨⟨l2', l3', l4', rfl⟩, z, F⟩
    have W' : Rw h' l m S := W.sc z (by decide) (by decide) (by decide)
    have hR' := W'.1
    rw [b257_53]
    simp only [(RS.ok hR'), (RS.fr hR'), true_and, and_true, true_or, or_true, hR'.l149, W'.nw]
    rw [if_pos (Int32.le_refl _)]
    refine hG h' _ _ _ z ?_
    have : ryK l (ld_w l).length = ryP l := by unfold ryK ryP; rw [List.take_length]
    rw [← this]
    exact F
theorem shorten_le6 {v : Nat} (h : ∀ i, f i ≤ 100000) (a b : Nat) : ∀ i, shorten f a b v i ≤ 100000 := fun i => by
  have := h (6 * a + b)
  have := h i
  unfold shorten
  split
  · unfold upf
    split <;> omega
  · omega
theorem c257_169 {l4 : Option Value} (hR : RS h) (ha : a < 6) (hb : b < 6) (hF : FaR h f) (hf : ∀ i, f i ≤ 100000) (hG : ∀ h1 l3' l4', RF [] [190] h h1 → (∀ i, wyO 6 b a f i ≤ 100000) → FaR h1 (wyO 6 b a f) → Go d 257 161 [some (.ref 148), some (.int (ii (b : Nat))), some (.int (ii ((a + 1 : Nat) : Int))), l3', l4'] [] h1 Q) : Go d 257 169 [some (.ref 148), some (.int (ii (b : Nat))), some (.int (ii (a : Nat))), some (.int (ii 0)), l4] [] h Q := by
  refine Go_loop (fun j L h' => (∃ l4', L = [some (.ref 148), some (.int (ii (b : Nat))), some (.int (ii (a : Nat))), some (.int (ii (j : Nat))), l4']) ∧ RF [] [190] h h' ∧ (∀ i, (List.range j).foldl (fun f j => shorten f a j (f (6 * a + b) + f (6 * b + j))) f i ≤ 100000) ∧ FaR h' ((List.range j).foldl (fun f j => shorten f a j (f (6 * a + b) + f (6 * b + j))) f)) 6 ?_ ?_ 0 _ h (Nat.zero_le _) ⟨⟨_, rfl⟩, RF.rf, hf, hF⟩
  · rintro j L h' hj ⟨⟨l4', rfl⟩, z, B, F⟩ nx
    have hR' : RS h' := z.rs hR (by decide)
    have i1 : 6 * a + j < 36 := by omega
    have i2 : 6 * a + b < 36 := by omega
    have i3 : 6 * b + j < 36 := by omega
    have sf : (List.range (j + 1)).foldl (fun f j => shorten f a j (f (6 * a + b) + f (6 * b + j))) f = shorten ((List.range j).foldl (fun f j => shorten f a j (f (6 * a + b) + f (6 * b + j))) f) a j (((List.range j).foldl (fun f j => shorten f a j (f (6 * a + b) + f (6 * b + j))) f) (6 * a + b) + ((List.range j).foldl (fun f j => shorten f a j (f (6 * a + b) + f (6 * b + j))) f) (6 * b + j)) := by
      rw [List.range_succ, List.foldl_append]
      rfl
    generalize e : (List.range j).foldl (fun f j => shorten f a j (f (6 * a + b) + f (6 * b + j))) f = g at *
    have b1 := B (6 * a + j)
    have b2 := B (6 * a + b)
    have b3 := B (6 * b + j)
    rw [b257_169, if_neg (by rw [show ii 6 = ii (6 : Int) from rfl, ii_le (by omega) (by omega) (by omega) (by omega)]; omega)]
    simp only [(RS.ok hR'), (RS.fr hR'), true_and, and_true, true_or, or_true, ix6, hR'.x190 i1, hR'.x190 i2, hR'.x190 i3, F _ i1, F _ i2, F _ i3]
    rw [show ii (g (6 * a + b) : Nat) + ii (g (6 * b + j) : Nat) = ii ((g (6 * a + b) + g (6 * b + j) : Nat) : Int) from ii_add _ _]
    have step : ∀ (v : Int32) l4'', v = ii (shorten g a j (g (6 * a + b) + g (6 * b + j)) (6 * a + j) : Nat) → Go d 257 242 [some (.ref 148), some (.int (ii (b : Nat))), some (.int (ii (a : Nat))), some (.int (ii (j : Nat))), l4''] [.int v, .int (ii ((6 * a + j : Nat) : Int)), .ref 190] h' Q := fun v l4'' hv => by
      rw [b257_242]
      simp only [hR'.x190 i1]
      refine ⟨⟨by decide, trivial⟩, ?_⟩
      rw [show ii (j : Nat) + ii 1 = ii ((j + 1 : Nat) : Int) from ii_add _ _]
      refine nx _ _ ⟨⟨_, rfl⟩, z.tr RF.sI, by rw [sf]; exact shorten_le6 B _ _, fun i hi => ⟨?_, by rw [sf]; exact shorten_le6 B _ _ _⟩⟩
      rw [hR'.s190 i1, if_pos rfl, sf]
      unfold upf
      by_cases c : i = 6 * a + j
      · rw [if_pos c, c]; exact hv
      · rw [if_neg c, (F i hi).1]
        unfold shorten
        by_cases c2 : g (6 * a + b) + g (6 * b + j) < g (6 * a + j)
        · rw [if_pos c2]; unfold upf; rw [if_neg c]
        · rw [if_neg c2]
    by_cases c : g (6 * a + b) + g (6 * b + j) < g (6 * a + j)
    · rw [if_neg (by rw [ii_le (by omega) (by omega) (by omega) (by omega)]; omega)]
      exact step _ _ (by unfold shorten; rw [if_pos c]; unfold upf; rw [if_pos rfl])
    · rw [if_pos (by rw [ii_le (by omega) (by omega) (by omega) (by omega)]; omega)]
      exact step _ _ (by unfold shorten; rw [if_neg c])
  · rintro L h' ⟨⟨l4', rfl⟩, z, B, F⟩
    rw [b257_169, if_pos (show ii 6 ≤ ii ((6 : Nat) : Int) by decide)]
    rw [show ii (a : Nat) + ii 1 = ii ((a + 1 : Nat) : Int) from ii_add _ _]
    exact hG h' _ _ z B F
theorem c257_161 {l3 l4 : Option Value} (hR : RS h) (hb : b < 6) (hF : FaR h f) (hf : ∀ i, f i ≤ 100000) (hG : ∀ h1 l2' l3' l4', RF [] [190] h h1 → (∀ i, wyI 6 b f i ≤ 100000) → FaR h1 (wyI 6 b f) → Go d 257 153 [some (.ref 148), some (.int (ii ((b + 1 : Nat) : Int))), l2', l3', l4'] [] h1 Q) : Go d 257 161 [some (.ref 148), some (.int (ii (b : Nat))), some (.int (ii 0)), l3, l4] [] h Q := by
  refine Go_loop (fun j L h' => (∃ l3' l4', L = [some (.ref 148), some (.int (ii (b : Nat))), some (.int (ii (j : Nat))), l3', l4']) ∧ RF [] [190] h h' ∧ (∀ i, (List.range j).foldl (fun f i => wyO 6 b i f) f i ≤ 100000) ∧ FaR h' ((List.range j).foldl (fun f i => wyO 6 b i f) f)) 6 ?_ ?_ 0 _ h (Nat.zero_le _) ⟨⟨_, _, rfl⟩, RF.rf, hf, hF⟩
  · rintro j L h' hj ⟨⟨l3', l4', rfl⟩, z, B, F⟩ nx
    have hR' : RS h' := z.rs hR (by decide)
    rw [b257_161, if_neg (by rw [show ii 6 = ii (6 : Int) from rfl, ii_le (by omega) (by omega) (by omega) (by omega)]; omega)]
    refine c257_169 hR' hj hb F B (fun h1 l3'' l4'' z1 B1 F1 => nx _ _ ⟨⟨_, _, rfl⟩, z.tr z1, ?_, ?_⟩)
    · rw [List.range_succ, List.foldl_append, List.foldl_cons, List.foldl_nil]; exact B1
    · rw [List.range_succ, List.foldl_append, List.foldl_cons, List.foldl_nil]; exact F1
  · rintro L h' ⟨⟨l3', l4', rfl⟩, z, B, F⟩
    rw [b257_161, if_pos (show ii 6 ≤ ii ((6 : Nat) : Int) by decide)]
    rw [show ii (b : Nat) + ii 1 = ii ((b + 1 : Nat) : Int) from ii_add _ _]
    exact hG h' _ _ _ z B F
theorem c257 {K : mHeap → Prop} (W : Rw h l m S) (hK : ∀ h1, RF [] [190] h h1 → (∀ i, ry l i ≤ 100000) → FaR h1 (ry l) → K h1) : GoCv (d + 1) 257 [.ref 148] h K := by
  rw [e257, b257_0]
  refine c257_2 W.1 (fun h1 l2 l3 l4 z1 F1 => ?_)
  have W1 : Rw h1 l m S := W.sc z1 (by decide) (by decide) (by decide)
  refine c257_53 W1 F1 (fun h2 l2 l3 l4 z2 F2 => ?_)
  have W2 : Rw h2 l m S := W1.sc z2 (by decide) (by decide) (by decide)
  have BP : ∀ i, ryP l i ≤ 100000 := fun i => by
    have := ryK_le (l := l) (ld_w l).length i
    unfold ryK at this
    rw [List.take_length] at this
    exact this
  refine Go_loop (fun j L h' => (∃ l2' l3' l4', L = [some (.ref 148), some (.int (ii (j : Nat))), l2', l3', l4']) ∧ RF [] [190] h2 h' ∧ (∀ i, (List.range j).foldl (fun f b => wyI 6 b f) (ryP l) i ≤ 100000) ∧ FaR h' ((List.range j).foldl (fun f b => wyI 6 b f) (ryP l))) 6 ?_ ?_ 0 _ h2 (Nat.zero_le _) ⟨⟨_, _, _, rfl⟩, RF.rf, BP, F2⟩
  · rintro j L h' hj ⟨⟨l2', l3', l4', rfl⟩, z, B, F⟩ nx
    have hR' : RS h' := z.rs W2.1 (by decide)
    rw [b257_153, if_neg (by rw [show ii 6 = ii (6 : Int) from rfl, ii_le (by omega) (by omega) (by omega) (by omega)]; omega)]
    refine c257_161 hR' hj F B (fun h1 l2'' l3'' l4'' z1 B1 F1 => nx _ _ ⟨⟨_, _, _, rfl⟩, z.tr z1, ?_, ?_⟩)
    · rw [List.range_succ, List.foldl_append, List.foldl_cons, List.foldl_nil]; exact B1
    · rw [List.range_succ, List.foldl_append, List.foldl_cons, List.foldl_nil]; exact F1
  · rintro L h' ⟨⟨l2', l3', l4', rfl⟩, z, B, F⟩
    rw [b257_153, if_pos (show ii 6 ≤ ii ((6 : Nat) : Int) by decide), rV_s]
    exact hK h' (z1.tr (z2.tr z)) B F
theorem c258 {K : Int32 → mHeap → Prop} (hR : RS h) (hF : FaR h f) (ha : a < 6) (hb : b < 6) : GoCi (d + 1) 258 [.ref 148, .int (ii (a : Nat)), .int (ii (b : Nat))] h K ↔ K (ii (f (6 * a + b) : Nat)) h := by
  have i1 : 6 * a + b < 36 := by omega
  have := (hF _ i1).2
  rw [e258, b258_0]
  simp only [(RS.ok hR), (RS.fr hR), true_and, and_true, true_or, or_true, ix6, hR.x190 i1, hF _ i1, rI_s]
  by_cases c : 100000 ≤ f (6 * a + b)
  · rw [if_pos (by rw [show ii 100000 = ii (100000 : Int) from rfl, ii_le (by omega) (by omega) (by omega) (by omega)]; omega), show f (6 * a + b) = 100000 by omega]
    exact Iff.rfl
  · rw [if_neg (by rw [show ii 100000 = ii (100000 : Int) from rfl, ii_le (by omega) (by omega) (by omega) (by omega)]; omega)]
end Rt
