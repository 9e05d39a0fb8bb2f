/-! SAYINGS read: the whole reader -/
section Rw
variable {T : List (Nat × Nat)}
def noN (fr : List Fm) : Prop := ∀ w, popN fr w = (fr, w)
theorem cap_on {h : mHeap} {v : Nat} : capW onW (wo h v) = wo h v := by
  funext j
  unfold capW onW
  by_cases c : j < 256
  · simp [c]
  · rw [wo_big (by omega)]; simp
theorem opE_n {fr : List Fm} (hn : noN fr) {i k : Nat} {e b w : Wd} : opE i fr e b k w = (i, fr, e, capW b w, k, false) := by
  unfold opE
  rw [hn w]
def sgW (T : List (Nat × Nat)) (x : Sg ⊕ Nat ⊕ Wd) (fr : List Fm) (i' k' : Nat) (w : Wd) : Prop := ∃ e' b', sgR T x (.inl (i', fr, e', b', k', false)) ∧ w = orW e' b' ∧ ¬ (tk T i').1 = 316 ∧ ¬ (tk T i').1 = 317
def P82 (T : List (Nat × Nat)) (dep m : Nat) : Prop := ∀ {h : mHeap} {K : Nat → mHeap → Prop} {i k D : Nat} {fr : List Fm} {e b : Wd}, RdC h T i k 0 → fr.length = dep → 2 * m + 6 ≤ D → (∀ v h1, rdO T h h1 i v 0 (.inl (i, fr, e, b, k, true)) (fun i' k' w => sgR T (.inl (i, fr, e, b, k, true)) (.inl (opE i' fr e b k' w))) → K v h1) → GoCr D 82 [.ref 118, .int (ii dep)] h K
def P81 (T : List (Nat × Nat)) (dep m : Nat) : Prop := ∀ {h : mHeap} {K : Nat → mHeap → Prop} {i k D : Nat} {fr : List Fm}, RdC h T i k 0 → fr.length = dep → noN fr → 2 * m + 7 ≤ D → (∀ v h1, rdO T h h1 i v 1 (.inl (i, fr, zeW, onW, k, true)) (sgW T (.inl (i, fr, zeW, onW, k, true)) fr) → K v h1) → GoCr D 81 [.ref 118, .int (ii dep)] h K
theorem wo_or {h : mHeap} {a b : Nat} (hA : WS h a) : wo (pW h a (fun i => wo h a i || wo h b i)) a = orW (wo h a) (wo h b) := by
  funext i
  rw [wo_pW hA i]; rfl
/-- the end of a whole -/
theorem end81 {d : Nat} {h' : mHeap} {K : Nat → mHeap → Prop} {l0 l1 l4 : Option Value} {a2 a3 : Nat} (hA : WS h' a2) (hB : WS h' a3) (hK : K a2 (pW h' a2 (fun i => wo h' a2 i || wo h' a3 i))) : Go (d + 2) 81 80 [l0, l1, some (.ref a2), some (.ref a3), l4] [] h' (rR K) := by
  rw [b81_80]
  refine ⟨W_oC hA, ?_⟩
  rw [c122 hA hB, rR_s]
  exact hK
/-- once it has failed nothing is taken any more -/
theorem d81 {d i k f : Nat} {h' : mHeap} {K : Nat → mHeap → Prop} {x1 x4 : Int32} {a2 a3 : Nat} (hC : RdC h' T i k f) (h0 : (tk T i).1 = 0) (hA : WS h' a2) (hB : WS h' a3) (hK : K a2 (pW h' a2 (fun i => wo h' a2 i || wo h' a3 i))) : Go (d + 2) 81 17 [some (.ref 118), some (.int x1), some (.ref a2), some (.ref a3), some (.int x4)] [] h' (rR K) := by
  have ok := Rd_ok hC.2.2.2.1
  have o9 := (TxS_ok hC.2.1).2.2.2.2.2.2.2.2.2.2
  rw [b81_17]
  by_cases c : ii 400 ≤ x4
  · rw [if_pos c]; exact end81 hA hB hK
  rw [if_neg c]
  simp only [ok, true_and]
  refine ⟨o9, ?_⟩
  refine c109 (t := 315) hC.2.1 hC.2.2.1 (by decide) (fun g => by rw [h0] at g; exact absurd g (by decide)) (fun _ => ?_)
  rw [if_pos rfl]
  simp only [ok, true_and]
  refine ⟨o9, ?_⟩
  refine c109 (t := 316) hC.2.1 hC.2.2.1 (by decide) (fun g => by rw [h0] at g; exact absurd g (by decide)) (fun _ => ?_)
  rw [if_pos rfl]
  exact end81 hA hB hK
theorem rdF.wide {a a' : Nat} {h h1 : mHeap} (x : rdF a h h1) (g : a ≤ a') : rdF a' h h1 := ⟨x.1.wide g (by omega), x.2⟩
theorem P81_of {dep m : Nat} (hE : (tk T (T.length - 1)).1 = 0) (hdm : dep + m = 10) (h82 : P82 T dep m) : P81 T dep m := by
  intro h K i k D fr hC hfr hn hD hK
  obtain ⟨d, rfl⟩ : ∃ d, D = d + 3 := ⟨D - 3, by omega⟩
  have ok := Rd_ok hC.2.2.2.1
  have hl := ok.2.2.2.2.2.2
  rw [e81, b81_0]
  refine ⟨_, rfl, by omega, ?_⟩
  rw [c115]
  refine ⟨by omega, ?_⟩
  have nw := new_W (h := h) (by omega)
  have C1 := hC.new
  have R1 : rdF 1 h (nO h 10) := rdF.new
  have l1 : (nO h 10).length = h.length + 1 := len_nO
  generalize nO h 10 = H1 at *
  have ok1 := Rd_ok C1.2.2.2.1
  refine ⟨ok1.2.2.2.1, ?_⟩
  -- a failed end
  have dead : ∀ h' i' k' f' x4 a v, ¬ f' = 0 → RdC h' T i' k' f' → i' = T.length - 1 → WS h' h.length → WS h' v → a ≤ T.length - i + 1 → rdF a h h' → sgR T (.inl (i, fr, zeW, onW, k, true)) (.inr (.inl f')) → Go (d + 2) 81 17 [some (.ref 118), some (.int (ii dep)), some (.ref h.length), some (.ref v), some (.int x4)] [] h' (rR K) := fun h' i' k' f' x4 a v nf C ei wA wB ha R g => by
    subst ei
    refine d81 C hE wA wB ?_
    exact hK _ _ ⟨WS_pW wA wA, Nat.le_refl _, Or.inr ⟨f', a, k', nf, ha, R.pW (Nat.le_refl _) wA (by omega), C.pW (by omega) wA, g⟩⟩
  -- the loop
  have lp : ∀ mm h' i' k' e' b' v x4 a, i' + mm = T.length → RdC h' T i' k' 0 → WS h' h.length → WS h' v → h.length < v → wo h' h.length = e' → wo h' v = b' → rdF a h h' → a ≤ i' - i + 1 → i < i' → x4 + i + 1 ≤ i' → sgR T (.inl (i, fr, zeW, onW, k, true)) (.inl (i', fr, e', b', k', false)) → Go (d + 2) 81 17 [some (.ref 118), some (.int (ii dep)), some (.ref h.length), some (.ref v), some (.int (ii (x4 : Nat)))] [] h' (rR K) := by
    intro mm
    induction mm using Nat.strongRecOn with
    | ind mm ih =>
      intro h' i' k' e' b' v x4 a hmm C wA wB hv ea eb R ha hi hx g
      have hX := C.2.2.1
      have hi' := hX.2.2.1
      have hTl := hX.2.2.2.1
      have o9 := (TxS_ok C.2.1).2.2.2.2.2.2.2.2.2.2
      have okC := Rd_ok C.2.2.2.1
      have ex : ii (x4 : Int) + ii 1 = ii ((x4 + 1 : Nat) : Int) := by rw [ii_add]; rfl
      rw [b81_17]
      rw [if_neg (by rw [show ii 400 = ii ((400 : Nat) : Int) from rfl, ii_le (by omega) (by omega) (by omega) (by omega)]; omega)]
      simp only [okC, true_and]
      refine ⟨o9, ?_⟩
      refine c109 (t := 315) C.2.1 C.2.2.1 (by decide) (fun gt h1 G X1 => ?_) (fun g1 => ?_)
      · -- and
        rw [if_neg (by decide)]
        have nxi := nx_in hE hi' (by omega)
        rw [nxi.2] at X1
        have C2 := C.tx G X1 (by decide)
        refine ⟨(Rd_ok C2.2.2.2.1).2.2.2.1, ?_⟩
        have sp : sgR T (.inl (i, fr, zeW, onW, k, true)) (.inl (i' + 1, fr, e', b', k', true)) := g.tr (sgR.st (by
          show sgR T (sgB T i' fr e' b' k') _
          unfold sgB
          rw [if_neg (fun q => by have := q.1; omega), if_neg (fun q => by have := q.1; omega), if_pos (by omega)]
          exact sgR.rf))
        have R2 := R.tr (rdF.txG G)
        have wA2 := G.1.1.WS wA
        have wB2 := G.1.1.WS wB
        have ea2 : wo h1 h.length = e' := by rw [same_wo (G.1.2.2.2 h.length (by omega))]; exact ea
        have eb2 : wo h1 v = b' := by rw [same_wo (G.1.2.2.2 v (by omega))]; exact eb
        have vl : v < h1.length := kd_lt (by rw [wB2.2]; decide)
        refine h82 (e := e') (b := b') C2 hfr (by omega) (fun v5 h5 O => ?_)
        obtain ⟨w5, hv5, O⟩ := O
        have wA5 : WS h5 h.length ∧ WS h5 v ∧ wo h5 h.length = e' ∧ wo h5 v = b' := by
          rcases O with ⟨i2, k2, a2, _, _, _, r, _, _⟩ | ⟨f2, a2, k2, _, _, r, _, _⟩
          · refine ⟨⟨wA2.1, by rw [r.2.1 _ (by omega)]; exact wA2.2⟩, ⟨wB2.1, by rw [r.2.1 _ (by omega)]; exact wB2.2⟩, ?_, ?_⟩
            · rw [same_wo (r.2.2.1 _ (by omega) (by omega) (by omega))]; exact ea2
            · rw [same_wo (r.2.2.1 _ (by omega) (by omega) (by omega))]; exact eb2
          · refine ⟨⟨wA2.1, by rw [r.2.1 _ (by omega)]; exact wA2.2⟩, ⟨wB2.1, by rw [r.2.1 _ (by omega)]; exact wB2.2⟩, ?_, ?_⟩
            · rw [same_wo (r.2.2.1 _ (by omega) (by omega) (by omega))]; exact ea2
            · rw [same_wo (r.2.2.1 _ (by omega) (by omega) (by omega))]; exact eb2
        refine ⟨W_oC wA5.2.1, ?_⟩
        rw [c121 wA5.2.1 w5]
        have ew := wo_and (b := v5) wA5.2.1
        have FW := Fr.pW (w := fun j => wo h5 v j && wo h5 v5 j) wA5.2.1
        have wo0 : wo (pW h5 v (fun j => wo h5 v j && wo h5 v5 j)) h.length = wo h5 h.length := wo_pW_o (by omega)
        rw [b81_74, ex]
        rcases O with ⟨i2, k2, a2, q1, q2, q3, r, C5, gg⟩ | ⟨f2, a2, k2, q1, q3, r, C5, gg⟩
        · refine ih (T.length - i2) (by omega) _ i2 k2 e' (capW b' (wo h5 v5)) v (x4 + 1) (a + a2) (by omega) (C5.pW (by omega) wA5.2.1) (FW.1.WS wA5.1) (FW.1.WS wA5.2.1) hv (by rw [wo0]; exact wA5.2.2.1) (by rw [ew, wA5.2.2.2]) ((R2.tr r).pW (by omega) wA5.2.1 (by omega) |>.wide (by omega)) (by omega) (by omega) (by omega) ?_
          have := sp.tr gg
          rw [opE_n hn] at this
          exact this
        · exact dead _ _ k2 f2 _ (a + a2) v q1 (C5.pW (by omega) wA5.2.1) rfl (FW.1.WS wA5.1) (FW.1.WS wA5.2.1) (by omega) ((R2.tr r).pW (by omega) wA5.2.1 (by omega) |>.wide (by omega)) (sp.tr gg)
      rw [if_pos rfl]
      simp only [okC, true_and]
      refine ⟨o9, ?_⟩
      refine c109 (t := 316) C.2.1 C.2.2.1 (by decide) (fun gt h1 G X1 => ?_) (fun g2 => ?_)
      · -- or
        rw [if_neg (by decide)]
        have nxi := nx_in hE hi' (by omega)
        rw [nxi.2] at X1
        have C2 := C.tx G X1 (by decide)
        have wA2 := G.1.1.WS wA
        have wB2 := G.1.1.WS wB
        have ea2 : wo h1 h.length = e' := by rw [same_wo (G.1.2.2.2 h.length (by omega))]; exact ea
        have eb2 : wo h1 v = b' := by rw [same_wo (G.1.2.2.2 v (by omega))]; exact eb
        refine ⟨W_oC wA2, ?_⟩
        rw [c122 (d := d) wA2 wB2]
        have ew := wo_or (b := v) wA2
        have FW := Fr.pW (w := fun j => wo h1 h.length j || wo h1 v j) wA2
        have R2 := (R.tr (rdF.txG G)).pW (w := fun j => wo h1 h.length j || wo h1 v j) (Nat.le_refl _) wA2 (by omega)
        have C3 := C2.pW (w := fun j => wo h1 h.length j || wo h1 v j) (by omega) wA2
        rw [ea2, eb2] at ew FW R2 C3 ⊢
        generalize pW h1 h.length (fun j => e' j || b' j) = H3 at *
        have wA3 := FW.1.WS wA2
        refine ⟨(Rd_ok C3.2.2.2.1).2.2.2.1, ?_⟩
        have sp : sgR T (.inl (i, fr, zeW, onW, k, true)) (.inl (i' + 1, fr, orW e' b', onW, k', true)) := g.tr (sgR.st (by
          show sgR T (sgB T i' fr e' b' k') _
          unfold sgB
          rw [if_neg (fun q => by have := q.1; omega), if_neg (fun q => by have := q.1; omega), if_neg (by omega), if_pos (by omega)]
          exact sgR.rf))
        have al : h.length < H3.length := kd_lt (by rw [wA3.2]; decide)
        refine h82 (e := orW e' b') (b := onW) C3 hfr (by omega) (fun v5 h5 O => ?_)
        obtain ⟨w5, hv5, O⟩ := O
        rw [b81_74, ex]
        rcases O with ⟨i2, k2, a2, q1, q2, q3, r, C5, gg⟩ | ⟨f2, a2, k2, q1, q3, r, C5, gg⟩
        · have wA5 : WS h5 h.length := ⟨wA3.1, by rw [r.2.1 _ al]; exact wA3.2⟩
          refine ih (T.length - i2) (by omega) _ i2 k2 (orW e' b') (wo h5 v5) v5 (x4 + 1) (a + 0 + a2) (by omega) C5 wA5 w5 (by omega) (by rw [same_wo (r.2.2.1 _ al (by omega) (by omega))]; exact ew) rfl (R2.tr r) (by omega) (by omega) (by omega) ?_
          have := sp.tr gg
          rw [opE_n hn, cap_on] at this
          exact this
        · have wA5 : WS h5 h.length := ⟨wA3.1, by rw [r.2.1 _ al]; exact wA3.2⟩
          exact dead _ _ k2 f2 _ (a + 0 + a2) v5 q1 C5 rfl wA5 w5 (by omega) (R2.tr r) (sp.tr gg)
      · rw [if_pos rfl]
        refine end81 wA wB ?_
        refine hK _ _ ⟨WS_pW wA wA, Nat.le_refl _, Or.inl ⟨i', k', a, hi, hi', by omega, R.pW (Nat.le_refl _) wA (by omega), C.pW (by omega) wA, e', b', g, ?_, by omega, by omega⟩⟩
        rw [wo_or (b := v) wA, ea, eb]
  refine h82 (e := zeW) (b := onW) C1 hfr (by omega) (fun v3 h3 O => ?_)
  obtain ⟨w3, hv3, O⟩ := O
  have al : h.length < H1.length := by omega
  rcases O with ⟨i2, k2, a2, q1, q2, q3, r, C3, gg⟩ | ⟨f2, a2, k2, q1, q3, r, C3, gg⟩
  · have wA : WS h3 h.length := ⟨nw.1.1, by rw [r.2.1 _ al]; exact nw.1.2⟩
    refine lp (T.length - i2) h3 i2 k2 zeW (wo h3 v3) v3 0 (1 + a2) (by omega) C3 wA w3 (by omega) ?_ rfl (R1.tr r) (by omega) (by omega) (by omega) ?_
    · rw [same_wo (r.2.2.1 _ al (by omega) (by omega))]
      funext j
      exact nw.2 j
    · rw [opE_n hn, cap_on] at gg
      exact gg
  · have wA : WS h3 h.length := ⟨nw.1.1, by rw [r.2.1 _ al]; exact nw.1.2⟩
    exact dead _ _ k2 f2 _ (1 + a2) v3 q1 C3 rfl wA w3 (by omega) (R1.tr r) gg
end Rw
