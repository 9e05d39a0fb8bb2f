/-! THE REFERENCE: tests read -/
def Pe (h : mHeap) (n f : Nat) : Prop := fI h 148 29 = ii (f : Nat) ∧ 0 < f ∧ f < 100000 ∧ ∃ p, p ≤ n + 1 ∧ fI h 148 28 = ii (p : Nat)
section Tj
variable {d : Nat} {h h1 h2 : mHeap} {B : Bt} {n sl p q t i k f c x : Nat} {T : List (Nat × Nat)} {O V W W0 st s : List Nat} {F R F1 R1 : List Nat}
theorem Pd.e (hd : Pd h n f) : Pe h n f := by
  obtain ⟨a, b, c, p, g, e⟩ := hd
  exact ⟨a, b, c, p, by omega, e⟩
theorem Pe.ne (hd : Pe h n f) : ¬ ii (f : Nat) = ii 0 := by
  obtain ⟨_, a, b, _⟩ := hd
  rw [show ii 0 = ii (0 : Int) from rfl, ii_eq (by omega) (by omega) (by omega) (by omega)]
  omega
theorem c213 {K : Int32 → mHeap → Prop} (hx : Cx h B n sl) (ho : Po h sl p k W) (ha : AtT B n T p i) (hs : Sk2 h st) (d10 : dpt st ≤ 10) (l : st.length < 402) (room : 3 * W.length ≤ 6 * k + (tk T i).2) (hO : ∀ x, ((tk T i).1 = 315 ∧ x = 0) ∨ ((tk T i).1 = 92 ∧ x = 1) → ¬ dpt st = 10 → ∀ h1 p', Zr tF tR sl h h1 → Po h1 sl p' k W → AtT B n T p' (i + 1) → Sk2 h1 (x :: st) → K (ii 0) h1) (hD : ((tk T i).1 = 315 ∨ (tk T i).1 = 92) → dpt st = 10 → ∀ h1, Zr tF tR sl h h1 → Pe h1 n (flt T i 2) → K (ii 0) h1) (hF : ¬ (tk T i).1 = 315 → ¬ (tk T i).1 = 92 → ∀ h1 i' k' V, Zr tF tR sl h h1 → Po h1 sl (tk T i').2 k' (W ++ V) → AtT B n T (tk T i').2 i' → Sk2 h1 st → faS T i k = .inr (i', k', V) → K (ii 1) h1) (hN : ¬ (tk T i).1 = 315 → ¬ (tk T i).1 = 92 → ∀ h1 f, Zr tF tR sl h h1 → Pe h1 n f → faS T i k = .inl f → K (ii 1) h1) : GoCi (d + 11) 213 [.ref 148] h K := by
  have n4 := hx.2.1.2.1
  have hb := hx.2.2.1
  have pn := ha.2
  rw [e213, b213_0]
  (try simp only [(RS.ok hx.1), (RS.fr hx.1), true_and, and_true, true_or, or_true])
  refine c199 hx.1 hx.2.1 hb ho.1 pn (fun h1 z1 y1 => ?_)
  obtain ⟨bl, pl, le⟩ := ha.bl
  rw [ha.eh] at y1
  have x1 : Cx h1 B n sl := hx.z z1 (by decide) (by decide) (by decide) (by decide) (by decide)
  have o1 : Po h1 sl (tk T i).2 k W := ⟨y1, by rw [z1.fe (by decide)]; exact ho.2.1, by rw [z1.fe (by decide)]; exact ho.2.2.1, ho.2.2.2.1, ho.2.2.2.2.z z1 (by decide) (by decide) (by decide)⟩
  have s1 := hs.z z1 (by decide) (by decide) (by decide)
  have zr1 : Zr tF tR sl h h1 := RF.zr (F := tF) (R := []) (z1.wd (by decide) (by decide)) (by decide) (by decide) |>.wd (by decide) (by decide)
  have eF : flt T i 2 = 1 + 8 * (tk T i).2 + 2 := rfl
  -- one opens, and goes on
  have opn : ∀ x m : Nat, ((tk T i).1 = 315 ∧ x = 0) ∨ ((tk T i).1 = 92 ∧ x = 1) → (tok B n (tk T i).2).2 = (tk T i).2 + m → GoCv (d + 10) 211 [.ref 148, .int (ii (scd x : Nat))] h1 (fun h5 => okF h5 148 12 28 0 ∧ okP h5 148 12 28 ∧ rI K (some (.int (ii 0))) (sF h5 148 28 (.int ((fI h5 148 28) + (ii (m : Nat)))))) := fun x m c em => by
    have nx := ha.nxt (show ¬ (tk T i).1 = 0 by omega)
    have tl := (tok_le (B := B) nx.2).2
    refine c211 x1 o1.1 o1.2.1 s1 l (by omega) d10 (fun c10 h2 z2 s2 => ?_) (fun _ c10 h2 z2 y2 => ?_)
    · have x2 : Cx h2 B n sl := x1.z z2 (by decide) (by decide) (by decide) (by decide) (by decide)
      have t28 : tgK (kd h2 148) 28 = some 0 := x2.1.tg.2.1
      simp only [(RS.ok x2.1), (RS.fr x2.1), true_and, and_true, true_or, or_true, x2.1.op, z2.fe (show ¬ 28 ∈ [34, 36] by decide), y1, rI_s]
      rw [show ii ((tk T i).2 : Nat) + ii (m : Nat) = ii (((tok B n (tk T i).2).2 : Nat) : Int) by rw [ii_add, em]; rfl]
      have z3 := RF.sF (x := ii (((tok B n (tk T i).2).2 : Nat) : Int)) t28
      refine hO x c (c10 (by omega)) _ (tok B n (tk T i).2).2 (zr1.tr ((RF.zr (F := [34, 36]) (R := [182]) z2 (by decide) (by decide) |>.wd (by decide) (by decide)).tr (RF.zr (F := [28]) (R := []) z3.1 (by decide) (by decide) |>.wd (by decide) (by decide)))) ⟨z3.2, ?_, ?_, o1.2.2.2.1, (o1.2.2.2.2.z z2 (by decide) (by decide) (by decide)).z z3.1 (by decide) (by decide) (by decide)⟩ nx.1 (s2.z z3.1 (by decide) (by decide) (by decide))
      · rw [z3.1.fe (by decide), z2.fe (by decide)]; exact o1.2.1
      · rw [z3.1.fe (by decide), z2.fe (by decide)]; exact o1.2.2.1
    · have x2 : Cx h2 B n sl := x1.z z2 (by decide) (by decide) (by decide) (by decide) (by decide)
      have t28 : tgK (kd h2 148) 28 = some 0 := x2.1.tg.2.1
      simp only [(RS.ok x2.1), (RS.fr x2.1), true_and, and_true, true_or, or_true, x2.1.op, z2.fe (show ¬ 28 ∈ [29, 34, 36] by decide), y1, rI_s]
      rw [show ii ((tk T i).2 : Nat) + ii (m : Nat) = ii (((tok B n (tk T i).2).2 : Nat) : Int) by rw [ii_add, em]; rfl]
      have z3 := RF.sF (x := ii (((tok B n (tk T i).2).2 : Nat) : Int)) t28
      refine hD (by omega) c10 _ (zr1.tr ((RF.zr (F := [29, 34, 36]) (R := [182]) z2 (by decide) (by decide) |>.wd (by decide) (by decide)).tr (RF.zr (F := [28]) (R := []) z3.1 (by decide) (by decide) |>.wd (by decide) (by decide)))) ⟨?_, by rw [eF]; omega, by rw [eF]; omega, _, ?_, z3.2⟩
      · rw [z3.1.fe (by decide), y2, eF]
      · omega
  (try simp only [(RS.ok x1.1), (RS.fr x1.1), true_and, and_true, true_or, or_true])
  refine c201w (k := 14) x1.1 x1.2.1 hb y1 le pl (by decide) (fun w => ?_) (fun w => ?_)
  · rw [if_neg (by decide)]
    (try simp only [(RS.ok x1.1), (RS.fr x1.1), true_and, and_true, true_or, or_true])
    refine opn 0 3 (Or.inl ⟨w, rfl⟩) ?_
    rw [(pl_w pl (show 14 < 19 by decide)).2 w, wrds_14]
  · rw [if_pos rfl]
    (try simp only [(RS.ok x1.1), (RS.fr x1.1), true_and, and_true, true_or, or_true])
    rw [c198 x1.1 x1.2.1 hb y1 (by omega)]
    have s91 := pl_sg hb pl (c := 91) (by decide) (by decide) (by decide) (by decide) (by decide) (by decide)
    have sb := sgn_b (B := B) (n := n) (p := (tk T i).2)
    by_cases c1 : (tk T i).1 = 92
    · rw [if_neg (by rw [s91.mpr (by omega)]; exact fun y => y rfl)]
      (try simp only [(RS.ok x1.1), (RS.fr x1.1), true_and, and_true, true_or, or_true])
      exact opn 1 1 (Or.inr ⟨c1, rfl⟩) (pl_one hb pl (by omega) (by omega))
    · rw [if_pos (by rw [show ii 91 = ii (91 : Int) from rfl, ii_eq (by omega) (by omega) (by omega) (by omega)]; exact fun y => c1 (by have := s91.mp y; omega))]
      (try simp only [(RS.ok x1.1), (RS.fr x1.1), true_and, and_true, true_or, or_true])
      have k6 := ho.2.2.2.1
      refine c209 x1 o1 bl (by omega) (fun h2 i' k' V z2 o2 a2 e2 => ?_) (fun h2 f z2 d2 e2 => ?_)
      · rw [rI_s]
        exact hF w c1 h2 i' k' V (zr1.tr z2.tt) o2 a2 (s1.z z2.1 (by decide) (by decide) (by decide)) e2
      · rw [rI_s]
        exact hN w c1 h2 f (zr1.tr z2.tt) d2.e e2
theorem rgN_o (c : (tk T i).1 = 315 ∧ x = 0 ∨ (tk T i).1 = 92 ∧ x = 1) : rgT T (.inl (i, k, W, st, true)) = if dpt st = 10 then .inr (.inl (flt T i 2)) else .inl (i + 1, k, W, x :: st, true) := by
  show rgN T i k W st = _
  unfold rgN
  rcases c with ⟨c, g⟩ | ⟨c, g⟩
  · rw [if_pos c, g]
  · rw [if_neg (by omega), if_pos c, g]
theorem rgN_1 (c1 : ¬ (tk T i).1 = 315) (c2 : ¬ (tk T i).1 = 92) (e : faS T i k = .inl f) : rgT T (.inl (i, k, W, st, true)) = .inr (.inl f) := by
  show rgN T i k W st = _
  unfold rgN
  rw [if_neg c1, if_neg c2, e]
theorem rgN_2 {i' k' : Nat} (c1 : ¬ (tk T i).1 = 315) (c2 : ¬ (tk T i).1 = 92) (e : faS T i k = .inr (i', k', V)) : rgT T (.inl (i, k, W, st, true)) = .inl (oG i' k' st (W ++ V)) := by
  show rgN T i k W st = _
  unfold rgN
  rw [if_neg c1, if_neg c2, e]
theorem rgB_a (c : (tk T i).1 = 316) : rgT T (.inl (i, k, W, st, false)) = .inl (i + 1, k, W, 2 :: st, true) := if_pos c
theorem rgB_o (c : (tk T i).1 = 317) : rgT T (.inl (i, k, W, st, false)) = .inl (i + 1, k, (orE st W).2, 3 :: (orE st W).1, true) := (if_neg (by omega)).trans (if_pos c)
theorem rgB_b (c1 : ¬ (tk T i).1 = 316) (c2 : ¬ (tk T i).1 = 317) (e : (orE st W).1 = 1 :: s) : rgT T (.inl (i, k, W, st, false)) = if (tk T i).1 = 94 then .inl (oG (i + 1) k s (orE st W).2) else .inr (.inl (flt T i 0)) := by
  show rgB T i k W st = _
  unfold rgB
  rw [if_neg c1, if_neg c2, e]
  rfl
theorem rgB_e (c1 : ¬ (tk T i).1 = 316) (c2 : ¬ (tk T i).1 = 317) (e : (orE st W).1 = []) : rgT T (.inl (i, k, W, st, false)) = .inr (.inr (i, k, (orE st W).2)) := by
  show rgB T i k W st = _
  unfold rgB
  rw [if_neg c1, if_neg c2, e]
theorem c214_d {K : mHeap → Prop} {x1 x2 : Int32} {l3 l4 : Option Value} (hR : RS h) (hd : Pe h n f) (hK : K h) : Go d 214 9 [some (.ref 148), some (.int x1), some (.int x2), l3, l4] [] h (rV K) := by
  rw [b214_9]
  by_cases g : x2 = ii 0
  · rw [if_pos g, rV_s]; exact hK
  · rw [if_neg g]
    simp only [(RS.ok hR), (RS.fr hR), true_and, and_true, true_or, or_true, hd.1]
    rw [if_pos hd.ne, rV_s]
    exact hK
/-- what holds while a test is read -/
def tsI (T : List (Nat × Nat)) (W0 : List Nat) (i k : Nat) (W st : List Nat) : Prop := rgI W0 (.inl (i, k, W, st, true)) ∧ 3 * (W.length + frn st) ≤ 6 * k + (tk T i).2
def tsJ (T : List (Nat × Nat)) (W0 : List Nat) (i k : Nat) (W st : List Nat) : Prop := (okSt st ∧ dpt st ≤ 10 ∧ rgI W0 (.inl (oG i k st W))) ∧ 3 * (W.length + frn st) + 9 ≤ 6 * k + (tk T i).2
theorem c214_B {K : mHeap → Prop} {z : Rg ⊕ Nat ⊕ (Nat × Nat × List Nat)} {l3 l4 : Option Value} (hb9 : ∀ i, (tk T i).1 ≤ 101001) (hp : plc T) (ho : Po h sl p k W) (ha : AtT B n T p i) (hx : Cx h B n sl) (hs : Sk2 h st) (hJ : tsJ T W0 i k W st) (hz : rgR T z (.inl (oG i k st W)))
  (hA : ∀ h1 i' p' W' st' l3 l4, i < i' → Zr tF tR sl h h1 → Po h1 sl p' k W' → AtT B n T p' i' → Sk2 h1 st' → tsI T W0 i' k W' st' → rgR T z (.inl (i', k, W', st', true)) → Go (d + 11) 214 9 [some (.ref 148), some (.int (ii 1)), some (.int (ii 1)), l3, l4] [] h1 (rV K))
  (hB : ∀ h1 i' p' W' st' l3 l4, i < i' → Zr tF tR sl h h1 → Po h1 sl p' k W' → AtT B n T p' i' → Sk2 h1 st' → tsJ T W0 i' k W' st' → rgR T z (.inl (oG i' k st' W')) → Go (d + 11) 214 9 [some (.ref 148), some (.int (ii 0)), some (.int (ii 1)), l3, l4] [] h1 (rV K))
  (hY : ∀ h1 i' k' W', Zr tF tR sl h h1 → Po h1 sl (tk T i').2 k' W' → AtT B n T (tk T i').2 i' → fI h1 148 34 = ii 0 → i ≤ i' → rgR T z (.inr (.inr (i', k', W'))) → 3 * W'.length + 9 ≤ 6 * k' + (tk T i').2 → K h1)
  (hN : ∀ h1 f, Zr tF tR sl h h1 → Pe h1 n f → rgR T z (.inr (.inl f)) → K h1) : Go (d + 11) 214 9 [some (.ref 148), some (.int (ii 0)), some (.int (ii 1)), l3, l4] [] h (rV K) := by
  have n4 := hx.2.1.2.1
  have hb := hx.2.2.1
  have k6 := ho.2.2.2.1
  obtain ⟨⟨ok, d10, hI⟩, room⟩ := hJ
  obtain ⟨bl, pl, le⟩ := ha.bl
  have sl0 := st_len st
  -- the nots
  have fN := popX_f (x := 0) (c := 314) (by decide) st W
  have eN := pNot_X st W
  rw [b214_9]
  rw [if_neg (by decide)]
  simp only [(RS.ok hx.1), (RS.fr hx.1), true_and, and_true, true_or, or_true, ho.2.1]
  rw [if_neg (fun y => y trivial), if_pos trivial]
  refine c212 (x := 0) (c := 314) (Or.inl ⟨rfl, rfl⟩) hx ho hs (by omega) (okSt_le st ok) (by omega) (fun h1 z1 o1 s1 => ?_)
  rw [← eN] at fN o1 s1
  have z1t : Zr tF tR sl h h1 := z1.wd (by decide) (by decide)
  have x1 := hx.tt z1t
  have all1 : ∀ y ∈ (pNot st W).1, y ≤ 3 := fun y hy => okSt_le st ok y (fN.2 y hy)
  have eO : oE st W = pAnd (pNot st W).1 (pNot st W).2 := rfl
  have eA := pAnd_X (pNot st W).1 (pNot st W).2
  have fA := popX_f (x := 2) (c := 315) (by decide) (pNot st W).1 (pNot st W).2
  rw [← eA, ← eO] at fA
  have oG' : oG i k st W = (i, k, (oE st W).2, (oE st W).1, false) := rfl
  rw [oG'] at hz hI
  have l1 : (pNot st W).1.length ≤ 402 := by
    have g : (popX 0 314 st W).1.length ≤ st.length := by
      have q : ∀ (st W : List Nat), (popX 0 314 st W).1.length ≤ st.length := by
        intro st
        induction st with
        | nil => exact fun W => Nat.le_refl _
        | cons y s ih =>
          intro W
          show (if y = 0 then popX 0 314 s (W ++ [314]) else (y :: s, W)).1.length ≤ _
          by_cases g : y = 0
          · rw [if_pos g, List.length_cons]
            have := ih (W ++ [314])
            omega
          · rw [if_neg g]; exact Nat.le_refl _
      exact q st W
    rw [← eN] at g
    omega
  generalize pNot st W = N at *
  (try simp only [(RS.ok x1.1), (RS.fr x1.1), true_and, and_true, true_or, or_true])
  refine c199 x1.1 x1.2.1 hb o1.1 ha.2 (fun h2 z2 y2 => ?_)
  rw [ha.eh] at y2
  have x2 : Cx h2 B n sl := x1.z z2 (by decide) (by decide) (by decide) (by decide) (by decide)
  have z2t : Zr tF tR sl h h2 := z1t.tr (RF.zr (F := tF) (R := []) (z2.wd (by decide) (by decide)) (by decide) (by decide) |>.wd (by decide) (by decide))
  have o2 : Po h2 sl (tk T i).2 k N.2 := ⟨y2, by rw [z2.fe (by decide)]; exact o1.2.1, by rw [z2.fe (by decide)]; exact o1.2.2.1, k6, o1.2.2.2.2.z z2 (by decide) (by decide) (by decide)⟩
  have s2 := s1.z z2 (by decide) (by decide) (by decide)
  -- and, or: what stands here
  have word : ∀ (k1 : Nat) (K' : Int32 → mHeap → Prop), k1 < 19 → K' (if (tk T i).1 = 301 + k1 then ii 1 else ii 0) h2 → GoCi (d + 11) 201 [.ref 148, .ref (2 + wix k1)] h2 K' := fun k1 K' h19 hK' => by
    refine c201w x2.1 x2.2.1 hb y2 le pl h19 (fun w => ?_) (fun w => ?_)
    · rw [if_pos w] at hK'; exact hK'
    · rw [if_neg w] at hK'; exact hK'
  (try simp only [(RS.ok x2.1), (RS.fr x2.1), true_and, and_true, true_or, or_true])
  refine word 15 _ (by decide) ?_
  (try simp only [(RS.ok x2.1), (RS.fr x2.1), true_and, and_true, true_or, or_true])
  refine word 16 _ (by decide) ?_
  (try simp only [(RS.ok x2.1), (RS.fr x2.1), true_and, and_true, true_or, or_true])
  refine c212 (x := 2) (c := 315) (Or.inr (Or.inl ⟨rfl, rfl⟩)) x2 o2 s2 l1 all1 (by omega) (fun h3 z3 o3 s3 => ?_)
  rw [← eA, ← eO] at o3 s3
  have z3t : Zr tF tR sl h h3 := z2t.tr (z3.wd (by decide) (by decide))
  have x3 := hx.tt z3t
  have r3 : 3 * ((oE st W).2.length + frn (oE st W).1) + 9 ≤ 6 * k + (tk T i).2 := by omega
  have iok : okSt (oE st W).1 ∧ dpt (oE st W).1 ≤ 10 ∧ flat3 (oE st W).1 := ⟨hI.1, hI.2.1, hI.2.2.1⟩
  have sl3 := st_len (oE st W).1
  generalize (oE st W).2 = W3 at *
  generalize (oE st W).1 = st3 at *
  -- one goes on, behind an and or an or
  have goes : ∀ (H : mHeap) (W4 st4 : List Nat) (x m : Nat) (l1 l3 l4 : Option Value), Zr tF tR sl h H → Po H sl (tk T i).2 k W4 → Sk2 H st4 → st4.length < 402 → dpt st4 ≤ 10 → (x = 2 ∨ x = 3) → ¬ (tk T i).1 = 0 → (tok B n (tk T i).2).2 = (tk T i).2 + m → rgT T (.inl (i, k, W3, st3, false)) = .inl (i + 1, k, W4, x :: st4, true) → 3 * (W4.length + frn st4) + 9 ≤ 6 * k + (tk T i).2 → GoCv (d + 11) 211 [.ref 148, .int (ii (scd x : Nat))] H (fun h1 => okF h1 148 12 28 0 ∧ Go (d + 11) 214 122 [some (.ref 148), l1, some (.int (ii 1)), l3, l4] [.int (ii (m : Nat)), .int (fI h1 148 28), .ref 148] h1 (rV K)) := fun H W4 st4 x m l1 l3 l4 zH oH sH lH dH hx2 t0 em er rr => by
    have xH := hx.tt zH
    have nx := bl.nxt t0
    have fc : frn (x :: st4) = (if x = 1 then 0 else 1) + frn st4 := frn_c
    rw [if_neg (by omega)] at fc
    refine c211 xH oH.1 oH.2.1 sH lH (by omega) dH (fun _ h4 z4 s4 => ?_) (fun g => by omega)
    have x4 : Cx h4 B n sl := xH.z z4 (by decide) (by decide) (by decide) (by decide) (by decide)
    have t28 : tgK (kd h4 148) 28 = some 0 := x4.1.tg.2.1
    refine ⟨(RS.ok x4.1).2.2.2.2.2.2.2.2.2.2.2.2.2.2.2.2.2.2.2.2.2.2.2.2.2.2.2.2.2.2.2.2.2.2.2.2.2.2.2.2.2.2.2.2.2.2.2.2.2.2.2.2.2.2.2.1, ?_⟩
    rw [z4.fe (show ¬ 28 ∈ [34, 36] by decide), oH.1, b214_122, b214_199]
    rw [show ii ((tk T i).2 : Nat) + ii (m : Nat) = ii (((tok B n (tk T i).2).2 : Nat) : Int) by rw [ii_add, em]; rfl]
    have z5 := RF.sF (x := ii (((tok B n (tk T i).2).2 : Nat) : Int)) t28
    simp only [x4.1.op, true_and]
    have hpl := (hp i (by have := nx.1.lt; omega)).1
    have hz2 : rgR T z (.inl (i + 1, k, W4, x :: st4, true)) := hz.tr (rgR.st (by rw [er]; exact rgR.rf))
    refine hA _ (i + 1) (tok B n (tk T i).2).2 W4 (x :: st4) l3 l4 (by omega) (zH.tr ((RF.zr (F := [34, 36]) (R := [182]) z4 (by decide) (by decide) |>.wd (by decide) (by decide)).tr (RF.zr (F := [28]) (R := []) z5.1 (by decide) (by decide) |>.wd (by decide) (by decide)))) ⟨z5.2, ?_, ?_, k6, (oH.2.2.2.2.z z4 (by decide) (by decide) (by decide)).z z5.1 (by decide) (by decide) (by decide)⟩ nx.1 (s4.z z5.1 (by decide) (by decide) (by decide)) ⟨?_, by omega⟩ hz2
    · rw [z5.1.fe (by decide), z4.fe (by decide)]; exact oH.2.1
    · rw [z5.1.fe (by decide), z4.fe (by decide)]; exact oH.2.2.1
    · have := rgI_st hb9 hI
      rw [er] at this
      exact this
  by_cases cA : (tk T i).1 = 316
  · rw [if_pos (show (tk T i).1 = 301 + 15 by omega), if_neg (show ¬ (tk T i).1 = 301 + 16 by omega)]
    rw [if_pos (by decide), b214_82, if_pos rfl, b214_93, if_neg (by decide), b214_105]
    (try simp only [(RS.ok x3.1), (RS.fr x3.1), true_and, and_true, true_or, or_true])
    have G := goes h3 W3 st3 2 3 (some (.int (ii 0))) (some (.int (ii 1))) (some (.int (ii 0))) z3t o3 s3 (by omega) iok.2.1 (Or.inl rfl) (by omega) (by rw [(pl_w pl (show 15 < 19 by decide)).2 cA]; rfl) (rgB_a cA) r3
    refine GoCv_mono G (fun h4 g => ?_)
    rw [if_neg (by decide)]
    exact g
  · by_cases cO : (tk T i).1 = 317
    · rw [if_neg (show ¬ (tk T i).1 = 301 + 15 by omega), if_pos (show (tk T i).1 = 301 + 16 by omega)]
      rw [if_neg (fun y => y rfl), if_neg (by decide), b214_82, if_neg (by decide)]
      (try simp only [(RS.ok x3.1), (RS.fr x3.1), true_and, and_true, true_or, or_true])
      have eR := orE_X (W := W3) iok.2.2
      have fR2 := popX_f (x := 3) (c := 316) (by decide) st3 W3
      refine c212 (x := 3) (c := 316) (Or.inr (Or.inr ⟨rfl, rfl⟩)) x3 o3 s3 (by omega) (okSt_le st3 iok.1) (by omega) (fun h4 z4 o4 s4 => ?_)
      rw [← eR] at fR2 o4 s4
      have z4t : Zr tF tR sl h h4 := z3t.tr (z4.wd (by decide) (by decide))
      have x4 := hx.tt z4t
      rw [b214_93, if_pos rfl, b214_105]
      (try simp only [(RS.ok x4.1), (RS.fr x4.1), true_and, and_true, true_or, or_true])
      have dl : dpt (orE st3 W3).1 ≤ 10 ∧ (orE st3 W3).1.length ≤ st3.length := by
        rcases iok.2.2 with (g | ⟨s, g⟩) | ⟨s, g, _⟩
        · rw [g]; exact ⟨(show (0 : Nat) ≤ 10 by decide), Nat.le_refl _⟩
        · have := iok.2.1; rw [g] at this ⊢; exact ⟨this, Nat.le_refl _⟩
        · have := iok.2.1
          rw [g] at this ⊢
          have e : dpt (3 :: s) = 0 + dpt s := rfl
          have e2 : (orE (3 :: s) W3).1 = s := rfl
          rw [e2, List.length_cons]
          exact ⟨by omega, by omega⟩
      have G := goes h4 (orE st3 W3).2 (orE st3 W3).1 3 2 (some (.int (ii 0))) (some (.int (ii 0))) (some (.int (ii 1))) z4t o4 s4 (by omega) dl.1 (Or.inr rfl) (by omega) (by rw [(pl_w pl (show 16 < 19 by decide)).2 cO]; rfl) (rgB_o cO) (by omega)
      refine GoCv_mono G (fun h5 g => ?_)
      rw [if_pos trivial]
      exact g
    · rw [if_neg (show ¬ (tk T i).1 = 301 + 15 by omega), if_neg (show ¬ (tk T i).1 = 301 + 16 by omega)]
      rw [if_neg (fun y => y rfl), if_pos rfl]
      (try simp only [(RS.ok x3.1), (RS.fr x3.1), true_and, and_true, true_or, or_true])
      have eR := orE_X (W := W3) iok.2.2
      have fR2 := popX_f (x := 3) (c := 316) (by decide) st3 W3
      refine c212 (x := 3) (c := 316) (Or.inr (Or.inr ⟨rfl, rfl⟩)) x3 o3 s3 (by omega) (okSt_le st3 iok.1) (by omega) (fun h4 z4 o4 s4 => ?_)
      rw [← eR] at fR2 o4 s4
      have z4t : Zr tF tR sl h h4 := z3t.tr (z4.wd (by decide) (by decide))
      have x4 := hx.tt z4t
      have ob : bas (orE st3 W3).1 ∧ okSt (orE st3 W3).1 ∧ dpt (orE st3 W3).1 ≤ 10 ∧ (orE st3 W3).1.length ≤ st3.length := by
        rcases iok.2.2 with (g | ⟨s, g⟩) | ⟨s, g, gb⟩
        · rw [g]; exact ⟨Or.inl rfl, trivial, (show (0 : Nat) ≤ 10 by decide), Nat.le_refl _⟩
        · have a := iok.2.1
          have b := iok.1
          rw [g] at a b ⊢
          exact ⟨Or.inr ⟨s, rfl⟩, b, a, Nat.le_refl _⟩
        · have a := iok.2.1
          have b := iok.1
          rw [g] at a b ⊢
          have e : dpt (3 :: s) = 0 + dpt s := rfl
          have e2 : (orE (3 :: s) W3).1 = s := rfl
          rw [e2, List.length_cons]
          exact ⟨gb, b.1, by omega, by omega⟩
      have rg := rgI_st hb9 hI
      (try simp only [(RS.ok x4.1), (RS.fr x4.1), true_and, and_true, true_or, or_true])
      rcases ob.1 with e | ⟨s, e⟩
      · rw [e] at s4
        have er := rgB_e cA cO e (k := k) (W := W3)
        rw [c210n x4.1 s4, if_pos (by decide), b214_199, b214_9, if_pos rfl, rV_s]
        rw [e] at fR2
        have f0 : frn ([] : List Nat) = 0 := rfl
        exact hY h4 i k _ z4t o4 bl s4.2.1 (Nat.le_refl i) (hz.tr (rgR.st (by rw [er]; exact rgR.rf))) (by omega)
      · rw [e] at s4 fR2 ob
        have fc : frn (1 :: s) = (if 1 = 1 then 0 else 1) + frn s := frn_c
        have dc : dpt (1 :: s) = (if 1 = 0 ∨ 1 = 1 then 1 else 0) + dpt s := dpt_c
        rw [if_pos rfl] at fc
        rw [if_pos (Or.inr rfl)] at dc
        have sl4 := ob.2.2.2
        rw [List.length_cons] at sl4
        have er := rgB_b cA cO e (k := k) (W := W3)
        rw [c210c x4.1 s4 (by omega), if_neg (show ¬ ¬ ii ((scd 1 : Nat) : Int) = ii 12 by decide)]
        (try simp only [(RS.ok x4.1), (RS.fr x4.1), true_and, and_true, true_or, or_true])
        have sb := sgn_b (B := B) (n := n) (p := (tk T i).2)
        have s93 := pl_sg hb pl (c := 93) (by decide) (by decide) (by decide) (by decide) (by decide) (by decide)
        rw [c198 x4.1 x4.2.1 hb o4.1 (by omega)]
        -- behind a bracket's end, or a fault
        have clo : ∀ (H : mHeap) (l1 l3 l4 : Option Value), RF [29] [] h4 H → (∀ H1, RF [28, 34, 36] [] H H1 → fI H1 148 28 = ii (((tk T i).2 + 1 : Nat) : Int) → Sk2 H1 s → Go (d + 11) 214 9 [some (.ref 148), some (.int (ii 0)), some (.int (ii 1)), l3, l4] [] H1 (rV K)) → Go (d + 11) 214 164 [some (.ref 148), some (.int (ii 0)), some (.int (ii 1)), l3, l4] [] H (rV K) := fun H l1 l3 l4 z g => by
          have R1 : RS H := z.rs x4.1 (by decide)
          have s5 := s4.z z (by decide) (by decide) (by decide)
          have e36 : fI H 148 36 = ii ((s.length + 1 : Nat) : Int) := s5.1
          have e34 : fI H 148 34 = ii (dpt (1 :: s) : Nat) := s5.2.1
          have t28 : tgK (kd H 148) 28 = some 0 := R1.tg.2.1
          have z6 := RF.sF (x := ii (((tk T i).2 + 1 : Nat) : Int)) t28
          rw [b214_164]
          simp only [(RS.ok R1), (RS.fr R1), true_and, and_true, true_or, or_true, R1.op, z.fe (show ¬ 28 ∈ [29] by decide), o4.1]
          rw [show ii ((tk T i).2 : Nat) + ii 1 = ii (((tk T i).2 + 1 : Nat) : Int) from ii_add _ _]
          have R2 : RS (sF H 148 28 (.int (ii (((tk T i).2 + 1 : Nat) : Int)))) := z6.1.rs R1 (by decide)
          have r6 : xA (sF H 148 28 (.int (ii (((tk T i).2 + 1 : Nat) : Int)))) 182 = xA H 182 := by rw [xA_sF]
          generalize sF H 148 28 (.int (ii (((tk T i).2 + 1 : Nat) : Int))) = H2 at *
          have t36 : tgK (kd H2 148) 36 = some 0 := R2.tg.2.2.2.2.2.2.2.2.2.1
          have z7 := RF.sF (x := ii (s.length : Nat)) t36
          simp only [(RS.ok R2), (RS.fr R2), true_and, and_true, true_or, or_true, R2.op, z6.1.fe (show ¬ 36 ∈ [28] by decide), e36]
          rw [show ii ((s.length + 1 : Nat) : Int) - ii 1 = ii (s.length : Nat) by rw [ii_sub]; exact congrArg ii (by omega)]
          have R3 : RS (sF H2 148 36 (.int (ii (s.length : Nat)))) := z7.1.rs R2 (by decide)
          have r7 : xA (sF H2 148 36 (.int (ii (s.length : Nat)))) 182 = xA H2 182 := by rw [xA_sF]
          generalize sF H2 148 36 (.int (ii (s.length : Nat))) = H3 at *
          have t34 : tgK (kd H3 148) 34 = some 0 := R3.tg.2.2.2.2.2.2.2.1
          have z8 := RF.sF (x := ii (dpt s : Nat)) t34
          simp only [(RS.ok R3), (RS.fr R3), true_and, and_true, true_or, or_true, R3.op, z7.1.fe (show ¬ 34 ∈ [36] by decide), z6.1.fe (show ¬ 34 ∈ [28] by decide), e34]
          rw [show ii (dpt (1 :: s) : Nat) - ii 1 = ii (dpt s : Nat) by rw [ii_sub, dc]; exact congrArg ii (by omega), b214_199]
          have zz : RF [28, 34, 36] [] H (sF H3 148 34 (.int (ii (dpt s : Nat)))) := (z6.1.wd (by decide) (by decide)).tr ((z7.1.wd (by decide) (by decide)).tr (z8.1.wd (by decide) (by decide)))
          refine g _ zz (by rw [z8.1.fe (by decide), z7.1.fe (by decide)]; exact z6.2) ⟨by rw [z8.1.fe (by decide)]; exact z7.2, z8.2, fun j hj => ?_⟩
          have a := s5.2.2 j (by rw [List.length_cons]; omega)
          rw [xA_sF, r7, r6, a, List.length_cons, show s.length + 1 - 1 - j = (s.length - 1 - j) + 1 by omega]
          rfl
        by_cases c94 : (tk T i).1 = 94
        · rw [if_pos c94] at er
          rw [if_pos (by rw [s93.mpr (by omega)])]
          have nx := bl.nxt (show ¬ (tk T i).1 = 0 by omega)
          have em := pl_one hb pl (by omega) (by omega)
          have hpl := (hp i (by have := nx.1.lt; omega)).1
          rw [er] at rg
          refine clo h4 none _ _ RF.rf (fun H1 z5 y5 s5 => hB H1 (i + 1) _ _ s _ _ (by omega) (z4t.tr (RF.zr (F := tF) (R := []) (z5.wd (by decide) (by decide)) (by decide) (by decide) |>.wd (by decide) (by decide))) ⟨y5, by rw [z5.fe (by decide)]; exact o4.2.1, by rw [z5.fe (by decide)]; exact o4.2.2.1, k6, o4.2.2.2.2.z z5 (by decide) (by decide) (by decide)⟩ (by rw [← em]; exact nx.1) s5 ⟨⟨ob.2.1.1, by omega, rg⟩, by omega⟩ (hz.tr (rgR.st (by rw [er]; exact rgR.rf))))
        · rw [if_neg c94] at er
          rw [if_neg (by rw [show ii 93 = ii (93 : Int) from rfl, ii_eq (by omega) (by omega) (by omega) (by omega)]; exact fun y => c94 (by have := s93.mp y; omega))]
          simp only [(RS.ok x4.1), (RS.fr x4.1), true_and, and_true, true_or, or_true, o4.1]
          rw [show GoCv (d + 11) 197 [.ref 148, .int (ii 0), .int (ii ((tk T i).2 : Nat))] h4 _ = GoCv (d + 11) 197 [.ref 148, .int (ii ((0 : Nat) : Int)), .int (ii ((tk T i).2 : Nat))] h4 _ from rfl]
          refine c197 (f := 0) x4.1 o4.2.1 (by decide) (fun h5 z5 y5 => ?_)
          have y5 : fI h5 148 29 = ii ((1 + 8 * (tk T i).2 + 0 : Nat) : Int) := y5
          refine clo h5 none _ _ z5 (fun H1 z6 y6 _ => ?_)
          have zz : RF [28, 29, 34, 36] [] h4 H1 := (z5.wd (by decide) (by decide)).tr (z6.wd (by decide) (by decide))
          have dd : Pe H1 n (1 + 8 * (tk T i).2 + 0) := ⟨by rw [z6.fe (by decide)]; exact y5, by omega, by omega, _, by omega, y6⟩
          refine c214_d (zz.rs x4.1 (by decide)) dd (hN H1 _ (z4t.tr (RF.zr (F := tF) (R := []) (zz.wd (by decide) (by decide)) (by decide) (by decide) |>.wd (by decide) (by decide))) dd ?_)
          exact hz.tr (rgR.st (by rw [er]; exact rgR.rf))
end Tj
