/-! THE REFERENCE: tests read, to their end -/
section Tk
variable {d : Nat} {h h1 h2 : mHeap} {B : Bt} {n sl p q t i k f c x : Nat} {T : List (Nat × Nat)} {O V W W0 st s : List Nat} {F R F1 R1 : List Nat}
theorem c214_L {K : mHeap → Prop} {z : Rg ⊕ Nat ⊕ (Nat × Nat × List Nat)} (hb9 : ∀ i, (tk T i).1 ≤ 101001) (hp : plc T) : ∀ N,
  (∀ {i k p : Nat} {W st : List Nat} {h : mHeap} {l3 l4 : Option Value}, T.length ≤ N + i → Cx h B n sl → Po h sl p k W → AtT B n T p i → Sk2 h st → tsI T W0 i k W st → rgR T z (.inl (i, k, W, st, true)) →
    (∀ h1 i' k' W', Zr tF tR sl h h1 → Po h1 sl (tk T i').2 k' W' → AtT B n T (tk T i').2 i' → fI h1 148 34 = ii 0 → i ≤ i' → rgR T z (.inr (.inr (i', k', W'))) → 3 * W'.length + 9 ≤ 6 * k' + (tk T i').2 → K h1) →
    (∀ h1 f, Zr tF tR sl h h1 → Pe h1 n f → rgR T z (.inr (.inl f)) → K h1) → Go (d + 11) 214 9 [some (.ref 148), some (.int (ii 1)), some (.int (ii 1)), l3, l4] [] h (rV K)) ∧
  (∀ {i k p : Nat} {W st : List Nat} {h : mHeap} {l3 l4 : Option Value}, T.length ≤ N + i → Cx h B n sl → Po h sl p k W → AtT B n T p i → Sk2 h st → tsJ T W0 i k W st → rgR T z (.inl (oG i k st W)) →
    (∀ h1 i' k' W', Zr tF tR sl h h1 → Po h1 sl (tk T i').2 k' W' → AtT B n T (tk T i').2 i' → fI h1 148 34 = ii 0 → i ≤ i' → rgR T z (.inr (.inr (i', k', W'))) → 3 * W'.length + 9 ≤ 6 * k' + (tk T i').2 → K h1) →
    (∀ h1 f, Zr tF tR sl h h1 → Pe h1 n f → rgR T z (.inr (.inl f)) → K h1) → Go (d + 11) 214 9 [some (.ref 148), some (.int (ii 0)), some (.int (ii 1)), l3, l4] [] h (rV K)) := by
  intro N
  induction N with
  | zero =>
    refine ⟨fun {i k p W st h l3 l4} hN0 hx ho ha hs hI hz hY hN => ?_, fun {i k p W st h l3 l4} hN0 hx ho ha hs hI hz hY hN => ?_⟩
    · have := ha.lt; omega
    · have := ha.lt; omega
  | succ N ih =>
    refine ⟨fun {i k p W st h l3 l4} hN0 hx ho ha hs hI hz hY hN => ?_, fun {i k p W st h l3 l4} hN0 hx ho ha hs hJ hz hY hN => ?_⟩
    · obtain ⟨hI, room⟩ := hI
      have io : okSt st ∧ dpt st ≤ 10 := ⟨hI.1, hI.2.1⟩
      have sl0 := st_len st
      have k6 := ho.2.2.2.1
      have n4 := hx.2.1.2.1
      have le := ha.bl.2.2
      have rg := rgI_st hb9 hI
      rw [b214_9, if_neg (by decide)]
      simp only [(RS.ok hx.1), (RS.fr hx.1), true_and, and_true, true_or, or_true, ho.2.1]
      rw [if_neg (fun y => y trivial), if_neg (by decide)]
      refine c213 hx ho ha hs io.2 (by omega) (by omega) (fun x c c10 h1 p' z1 o1 a1 s1 => ?_) (fun c c10 h1 z1 d1 => ?_) (fun c1 c2 h1 i' k' V z1 o1 a1 s1 e1 => ?_) (fun c1 c2 h1 f z1 d1 e1 => ?_)
      · rw [if_neg (fun y => y rfl), b214_36]
        have er := rgN_o (T := T) (k := k) (W := W) (st := st) c
        rw [if_neg c10] at er
        rw [er] at rg
        have hpl := hp i (by have := a1.lt; omega)
        have fc : frn (x :: st) = (if x = 1 then 0 else 1) + frn st := frn_c
        refine ih.1 (by omega) (hx.tt z1) o1 a1 s1 ⟨rg, ?_⟩ (hz.tr (rgR.st (by rw [er]; exact rgR.rf))) (fun h2 i'' k'' W'' z2 a b c g0 e g1 => hY h2 i'' k'' W'' (z1.tr z2) a b c (by omega) e g1) (fun h2 f z2 a b => hN h2 f (z1.tr z2) a b)
        rcases c with ⟨c, g⟩ | ⟨c, g⟩
        · rw [if_neg (by omega)] at fc
          have := hpl.2 c
          omega
        · rw [if_pos g] at fc
          have := hpl.1
          omega
      · rw [if_neg (fun y => y rfl), b214_36]
        have x1 := hx.tt z1
        have er : rgT T (.inl (i, k, W, st, true)) = .inr (.inl (flt T i 2)) := by
          rcases c with c | c
          · rw [rgN_o (x := 0) (Or.inl ⟨c, rfl⟩), if_pos c10]
          · rw [rgN_o (x := 1) (Or.inr ⟨c, rfl⟩), if_pos c10]
        exact c214_d x1.1 d1 (hN h1 _ z1 d1 (hz.tr (rgR.st (by rw [er]; exact rgR.rf))))
      · rw [if_pos (by decide), b214_36]
        have er := rgN_2 (T := T) (W := W) (st := st) c1 c2 e1
        rw [er] at rg
        have fo := faS_ok e1
        have hpl := plc_le hp (i := i) i' (by omega) a1.lt
        refine ih.2 (by omega) (hx.tt z1) o1 a1 s1 ⟨⟨io.1, io.2, rg⟩, ?_⟩ (hz.tr (rgR.st (by rw [er]; exact rgR.rf))) (fun h2 i'' k'' W'' z2 a b c g0 e g1 => hY h2 i'' k'' W'' (z1.tr z2) a b c (by omega) e g1) (fun h2 f z2 a b => hN h2 f (z1.tr z2) a b)
        rw [List.length_append]
        omega
      · rw [if_pos (by decide), b214_36]
        have er := rgN_1 (T := T) (W := W) (st := st) c1 c2 e1
        exact c214_d (hx.tt z1).1 d1 (hN h1 _ z1 d1 (hz.tr (rgR.st (by rw [er]; exact rgR.rf))))
    · refine c214_B hb9 hp ho ha hx hs hJ hz (fun h1 i' p' W' st' l3 l4 g z1 o1 a1 s1 I1 r1 => ih.1 (by omega) (hx.tt z1) o1 a1 s1 I1 r1 (fun h2 i'' k'' W'' z2 a b c g0 e g1 => hY h2 i'' k'' W'' (z1.tr z2) a b c (by omega) e g1) (fun h2 f z2 a b => hN h2 f (z1.tr z2) a b)) (fun h1 i' p' W' st' l3 l4 g z1 o1 a1 s1 I1 r1 => ih.2 (by omega) (hx.tt z1) o1 a1 s1 I1 r1 (fun h2 i'' k'' W'' z2 a b c g0 e g1 => hY h2 i'' k'' W'' (z1.tr z2) a b c (by omega) e g1) (fun h2 f z2 a b => hN h2 f (z1.tr z2) a b)) hY hN
theorem c214 {K : mHeap → Prop} (hb9 : ∀ i, (tk T i).1 ≤ 101001) (hp : plc T) (hx : Cx h B n sl) (ho : Po h sl p k W) (ha : AtT B n T p i) (h34 : fI h 148 34 = ii 0) (room : 3 * W.length ≤ 6 * k + (tk T i).2) (hY : ∀ h1 i' k' W', Zr tF tR sl h h1 → Po h1 sl (tk T i').2 k' W' → AtT B n T (tk T i').2 i' → fI h1 148 34 = ii 0 → i ≤ i' → rgR T (.inl (i, k, W, [], true)) (.inr (.inr (i', k', W'))) → 3 * W'.length + 9 ≤ 6 * k' + (tk T i').2 → K h1) (hN : ∀ h1 f, Zr tF tR sl h h1 → Pe h1 n f → rgR T (.inl (i, k, W, [], true)) (.inr (.inl f)) → K h1) : GoCv (d + 12) 214 [.ref 148] h K := by
  have t36 : tgK (kd h 148) 36 = some 0 := hx.1.tg.2.2.2.2.2.2.2.2.2.1
  have z1 := RF.sF (x := ii 0) t36
  have zr : Zr tF tR sl h (sF h 148 36 (.int (ii 0))) := RF.zr (F := tF) (R := []) (z1.1.wd (by decide) (by decide)) (by decide) (by decide) |>.wd (by decide) (by decide)
  rw [e214, b214_0]
  simp only [hx.1.op, true_and]
  refine (c214_L (z := .inl (i, k, W, [], true)) (W0 := W) hb9 hp T.length).1 (by omega) (hx.tt zr) ⟨by rw [z1.1.fe (by decide)]; exact ho.1, by rw [z1.1.fe (by decide)]; exact ho.2.1, by rw [z1.1.fe (by decide)]; exact ho.2.2.1, ho.2.2.2.1, ho.2.2.2.2.z z1.1 (by decide) (by decide) (by decide)⟩ ha (st := []) ⟨z1.2, by rw [z1.1.fe (by decide)]; exact h34, fun j hj => absurd hj (Nat.not_lt_zero j)⟩ ⟨⟨trivial, (show (0 : Nat) ≤ 10 by decide), [], by rw [List.append_nil], rfl, fun t ht => (by cases ht)⟩, room⟩ rgR.rf (fun h2 i' k' W' z2 a b c g0 e g => hY h2 i' k' W' (zr.tr z2) a b c g0 e g) (fun h2 f z2 a b => hN h2 f (zr.tr z2) a b)
end Tk
