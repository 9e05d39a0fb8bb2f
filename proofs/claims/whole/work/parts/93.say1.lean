/-! SAYINGS read: the reader goes the machine's way -/
def rdF (a : Nat) (h h1 : mHeap) : Prop := Gr a (4 * a) h h1 ∧ (∀ c, c < h.length → kd h1 c = kd h c) ∧ (∀ c, c < h.length → ¬ c = 65 → ¬ c = 118 → h1[c]? = h[c]?) ∧ ∀ j, ¬ j = 2 → ¬ j = 6 → fI h1 65 j = fI h 65 j
def RdC (h : mHeap) (T : List (Nat × Nat)) (i k f : Nat) : Prop := St h ∧ TxS h ∧ TxT h T i f ∧ kd h 118 = (4, 7, [68, 0]) ∧ fI h 118 1 = ii k ∧ k ≤ 24 ∧ f < 100000
/-- how a reading comes out: with a set of worlds and all as P says, or with a fault -/
def rdO (T : List (Nat × Nat)) (h h1 : mHeap) (i v sl : Nat) (x : Sg ⊕ Nat ⊕ Wd) (P : Nat → Nat → Wd → Prop) : Prop := WS h1 v ∧ h.length ≤ v ∧ ((∃ i' k' a, i < i' ∧ i' < T.length ∧ a ≤ i' - i + sl ∧ rdF a h h1 ∧ RdC h1 T i' k' 0 ∧ P i' k' (wo h1 v)) ∨ (∃ f' a k', ¬ f' = 0 ∧ a ≤ T.length - i + sl ∧ rdF a h h1 ∧ RdC h1 T (T.length - 1) k' f' ∧ sgR T x (.inr (.inl f'))))
section Rd
variable {d a a' i k f : Nat} {h h1 h2 : mHeap} {T : List (Nat × Nat)}
theorem rdF.tr (x : rdF a h h1) (y : rdF a' h1 h2) : rdF (a + a') h h2 := by
  have l := x.1.1
  have g := x.1.tr y.1
  refine ⟨g.wide (Nat.le_refl _) (by omega), fun c hc => ?_, fun c hc n1 n2 => ?_, fun j n1 n2 => ?_⟩
  · rw [y.2.1 c (by omega), x.2.1 c hc]
  · rw [y.2.2.1 c (by omega) n1 n2, x.2.2.1 c hc n1 n2]
  · rw [y.2.2.2 j n1 n2, x.2.2.2 j n1 n2]
theorem rdF.txG (G : txG h h1) : rdF 0 h h1 := ⟨G.1.gr, fun c _ => G.1.1.1 c, fun c _ n1 _ => G.1.2.2.2 c (by omega), G.2⟩
theorem rdF.new : rdF 1 h (nO h 10) := by
  refine ⟨⟨by rw [len_nO]; omega, by rw [len_nO]; omega, by rw [sl_nO]; omega, ?_⟩, fun c hc => ?_, fun c hc _ _ => nO_old hc, fun j _ _ => fI_nO⟩
  · rw [sl_nO]; exact Nat.le_refl _
  · rw [kd_nO, if_neg (by omega)]
theorem rdF.pW {v : Nat} {w : Wd} (x : rdF a h h1) (hv : h.length ≤ v) (hW : WS h1 v) (h66 : 66 ≤ v) : rdF a h (pW h1 v w) := by
  refine ⟨?_, fun c hc => ?_, fun c hc n1 n2 => ?_, fun j n1 n2 => ?_⟩
  · have := x.1.tr (Fr.pW (w := w) hW).gr
    exact this.wide (by omega) (by omega)
  · rw [kd_pW hW]; exact x.2.1 c hc
  · rw [get_pW (by omega)]; exact x.2.2.1 c hc n1 n2
  · rw [fI_pW hW]; exact x.2.2.2 j n1 n2
theorem Rd_ok (hk : kd h 118 = (4, 7, [68, 0])) : okF h 118 7 0 2 ∧ okF h 118 7 1 0 ∧ fR h 118 0 = 65 ∧ oC h 118 = 7 ∧ okP h 118 7 1 ∧ tgK (kd h 118) 1 = some 0 ∧ 118 < h.length := by
  refine ⟨?_, ?_, ?_, oC_kd hk, ?_, ?_, kd_lt (by rw [hk]; decide)⟩
  · rw [okF_kd, hk]; exact ⟨rfl, rfl, rfl⟩
  · rw [okF_kd, hk]; exact ⟨rfl, rfl, rfl⟩
  · rw [fR_kd, hk]; rfl
  · rw [okP_kd, hk]; exact ⟨by decide, rfl, rfl, (show 1 < 2 by decide)⟩
  · rw [hk]; rfl
theorem RdC.keep (hC : RdC h T i k f) (e : ∀ c, c < 64 ∨ c = 65 ∨ c = 67 ∨ c = 68 ∨ c = 118 → h1[c]? = h[c]?) (e6 : kd h1 66 = kd h 66) : RdC h1 T i k f := by
  obtain ⟨s, t, x, q, l, k4, f1⟩ := hC
  have e5 := e 65 (by omega)
  have e7 := e 67 (by omega)
  have e8 := e 68 (by omega)
  have e18 := e 118 (by omega)
  refine ⟨St_get s (fun b hb => e b (by omega)), ⟨by rw [same_kd e5]; exact t.1, by rw [e6]; exact t.2.1, by rw [same_kd e7]; exact t.2.2.1, by rw [same_kd e8]; exact t.2.2.2⟩, ⟨⟨by rw [same_fI e5]; exact x.1.1, fun j hj => by rw [same_xA e7, same_xA e8]; exact x.1.2 j hj⟩, by rw [same_fI e5]; exact x.2.1, x.2.2.1, x.2.2.2.1, by rw [same_fI e5]; exact x.2.2.2.2.1, x.2.2.2.2.2⟩, by rw [same_kd e18]; exact q, by rw [same_fI e18]; exact l, k4, f1⟩
theorem RdC.tx (hC : RdC h T i k f) (G : txG h h1) {i' f' : Nat} (X : TxT h1 T i' f') (hf : f' < 100000) : RdC h1 T i' k f' := ⟨G.1.St (by decide) hC.1, hC.2.1.sk G.1.1, X, by rw [G.1.1.1]; exact hC.2.2.2.1, by rw [same_fI (G.1.2.2.2 118 (by omega))]; exact hC.2.2.2.2.1, hC.2.2.2.2.2.1, hf⟩
theorem RdC.new (hC : RdC h T i k f) : RdC (nO h 10) T i k f := by
  have l := (Rd_ok hC.2.2.2.1).2.2.2.2.2.2
  exact hC.keep (fun c hc => nO_old (by omega)) (by rw [kd_nO, if_neg (by omega)])
theorem RdC.pW {v : Nat} {w : Wd} (hC : RdC h T i k f) (hv : 118 < v) (hW : WS h v) : RdC (pW h v w) T i k f := hC.keep (fun c hc => get_pW (by omega)) (kd_pW hW)
theorem new_W (h64 : 64 ≤ h.length) : WS (nO h 10) h.length ∧ ∀ j, wo (nO h 10) h.length j = false := by
  refine ⟨⟨h64, by rw [kd_nO, if_pos rfl]; rfl⟩, fun j => ?_⟩
  rw [wo_nO]
  exact (zero_at (Nat.le_refl _)).2.2 j
theorem flt_lt (hX : TxT h T i f) {kind : Nat} (hk : kind < 8) : flt T i kind < 100000 ∧ ¬ flt T i kind = 0 := by
  have := hX.2.2.2.2.2 i hX.2.2.1
  unfold flt
  omega
theorem blm_0 {c kind : Nat} : blm T c 0 kind = flt T c kind := rfl
theorem nx_in (hE : (tk T (T.length - 1)).1 = 0) (hi : i < T.length) (ht : ¬ (tk T i).1 = 0) : i + 1 < T.length ∧ nx T i = i + 1 := by
  have : i + 1 < T.length := by
    by_cases c : i + 1 < T.length
    · exact c
    · exact absurd (by rw [show T.length - 1 = i by omega] at hE; exact hE) ht
  exact ⟨this, by unfold nx; rw [if_pos this]⟩
/-- readLetter -/
theorem c83 {K : Nat → mHeap → Prop} (hC : RdC h T i k 0) (hE : (tk T (T.length - 1)).1 = 0) {fr : List Fm} {e b : Wd} (h92 : ¬ (tk T i).1 = 92) (h315 : ¬ (tk T i).1 = 315) (hK : ∀ v h1, rdO T h h1 i v 0 (.inl (i, fr, e, b, k, true)) (fun i' k' w => sgR T (.inl (i, fr, e, b, k, true)) (.inl (opE i' fr e b k' w))) → K v h1) : GoCr (d + 3) 83 [.ref 118, .int (ii (((tk T i).1 : Int) - 1))] h K := by
  have ok := Rd_ok hC.2.2.2.1
  have hX := hC.2.2.1
  have hi := hX.2.2.1
  have hl := ok.2.2.2.2.2.2
  have tb := (hX.2.2.2.2.2 i hi).1
  rw [e83, b83_0]
  refine ⟨_, rfl, by omega, ?_⟩
  rw [c115]
  refine ⟨by omega, ?_⟩
  have nw := new_W (h := h) (by omega)
  have C1 := hC.new
  have R1 : rdF 1 h (nO h 10) := rdF.new
  have l1 : (nO h 10).length = h.length + 1 := len_nO
  generalize nO h 10 = H1 at *
  have ok1 := Rd_ok C1.2.2.2.1
  have step : sgT T (.inl (i, fr, e, b, k, true)) = if 261 ≤ (tk T i).1 ∧ (tk T i).1 < 269 then (if k = 24 then .inr (.inl (flt T i 3)) else .inl (opE (i + 1) fr e b (k + 1) (fcW ((tk T i).1 - 261)))) else .inr (.inl (flt T i 0)) := by
    show sgN T i fr e b k = _
    unfold sgN
    rw [if_neg h92, if_neg h315]
  have fail : ∀ kind, kind < 8 → sgT T (.inl (i, fr, e, b, k, true)) = .inr (.inl (flt T i kind)) → ∀ h2, txG H1 h2 → TxT h2 T (T.length - 1) (blm T i 0 kind) → K h.length h2 := fun kind hk es h2 G X2 => by
    refine hK _ _ ⟨G.1.1.WS nw.1, Nat.le_refl _, Or.inr ⟨flt T i kind, 1, k, (flt_lt hX hk).2, by omega, ?_, ?_, ?_⟩⟩
    · have := R1.tr (rdF.txG G)
      exact this
    · exact C1.tx G X2 (flt_lt hX hk).1
    · exact sgR.st (by rw [es]; exact sgR.rf)
  have bad : ¬ (261 ≤ (tk T i).1 ∧ (tk T i).1 < 269) → ∀ l1 l3, Go (d + 2) 83 24 [some (.ref 118), l1, some (.ref h.length), l3] [] H1 (rR K) := fun c l1 l3 => by
    rw [b83_24]
    simp only [ok1, true_and]
    refine ⟨(TxS_ok C1.2.1).2.2.2.2.2.2.2.2.2.2, ?_⟩
    refine c112 (d := d + 1) (kind := 0) C1.2.1 C1.2.2.1 (by decide) (fun h2 G X2 => ?_)
    rw [rR_s]
    exact fail 0 (by decide) (by rw [step, if_neg c]) h2 G X2
  have ev : ii (((tk T i).1 : Int) - 1) - ii 260 = ii (((tk T i).1 : Int) - 261) := by
    rw [ii_sub]
    congr 1
    omega
  rw [ev]
  by_cases c1 : (tk T i).1 < 261
  · rw [if_pos (by rw [show ii 0 = ii (0 : Int) from rfl, ii_lt (by omega) (by omega) (by omega) (by omega)]; omega)]
    exact bad (by omega) _ _
  rw [if_neg (by rw [show ii 0 = ii (0 : Int) from rfl, ii_lt (by omega) (by omega) (by omega) (by omega)]; omega)]
  by_cases c2 : (tk T i).1 < 269
  rotate_left
  · rw [if_neg (by rw [show ii 8 = ii (8 : Int) from rfl, ii_lt (by omega) (by omega) (by omega) (by omega)]; omega)]
    exact bad (by omega) _ _
  rw [if_pos (by rw [show ii 8 = ii (8 : Int) from rfl, ii_lt (by omega) (by omega) (by omega) (by omega)]; omega)]
  rw [if_pos ⟨by omega, c2⟩] at step
  simp only [ok1, true_and, C1.2.2.2.2.1]
  have k24 := C1.2.2.2.2.2.1
  by_cases ck : k = 24
  · rw [if_neg (by rw [show ii 24 = ii (24 : Int) from rfl, ii_lt (by omega) (by omega) (by omega) (by omega)]; omega)]
    refine ⟨(TxS_ok C1.2.1).2.2.2.2.2.2.2.2.2.2, ?_⟩
    refine c112 (d := d + 1) (kind := 3) C1.2.1 C1.2.2.1 (by decide) (fun h2 G X2 => ?_)
    rw [rR_s]
    exact fail 3 (by decide) (by rw [step, if_pos ck]) h2 G X2
  rw [if_pos (by rw [show ii 24 = ii (24 : Int) from rfl, ii_lt (by omega) (by omega) (by omega) (by omega)]; omega)]
  refine ⟨(TxS_ok C1.2.1).2.2.2.2.2.2.2.2.2.2, ?_⟩
  refine c108 (d := d + 1) C1.2.1 C1.2.2.1 (fun h3 G X3 => ?_)
  have nxi := nx_in hE hi (by omega)
  rw [nxi.2] at X3
  have C3 := C1.tx G X3 (by decide)
  have ok3 := Rd_ok C3.2.2.2.1
  simp only [ok3, true_and, C3.2.2.2.2.1, ii_add]
  have F4 : Fr 118 1 h3 (sF h3 118 1 (.int (ii ((k : Int) + 1)))) := Fr.sF ok3.2.2.2.2.2.1
  have v4 : fI (sF h3 118 1 (.int (ii ((k : Int) + 1)))) 118 1 = ii ((k + 1 : Nat) : Int) := by rw [fI_sF ok3.2.2.2.2.2.1, if_pos ⟨rfl, rfl⟩]; rfl
  generalize sF h3 118 1 (.int (ii ((k : Int) + 1))) = H4 at *
  have W4 : WS H4 h.length := F4.1.WS (G.1.1.WS nw.1)
  have C4 : RdC H4 T (i + 1) (k + 1) 0 := ⟨F4.St (by decide) C3.1, C3.2.1.sk F4.1, ⟨⟨by rw [same_fI (F4.2.2.2 65 (by omega))]; exact X3.1.1, fun j hj => by rw [same_xA (F4.2.2.2 67 (by omega)), same_xA (F4.2.2.2 68 (by omega))]; exact X3.1.2 j hj⟩, by rw [same_fI (F4.2.2.2 65 (by omega))]; exact X3.2.1, X3.2.2.1, X3.2.2.2.1, by rw [same_fI (F4.2.2.2 65 (by omega))]; exact X3.2.2.2.2.1, X3.2.2.2.2.2⟩, by rw [F4.1.1]; exact C3.2.2.2.1, v4, by omega, by decide⟩
  have R4 : rdF 1 h H4 := by
    have r3 := R1.tr (rdF.txG G)
    refine ⟨(r3.1.tr F4.gr).wide (by omega) (by omega), fun c hc => by rw [F4.1.1]; exact r3.2.1 c hc, fun c hc n1 n2 => by rw [F4.2.2.2 c (by omega)]; exact r3.2.2.1 c hc n1 n2, fun j n1 n2 => by rw [same_fI (F4.2.2.2 65 (by omega))]; exact r3.2.2.2 j n1 n2⟩
  refine ⟨W_oC W4, ?_⟩
  have ef : ii (((tk T i).1 : Int) - 261) = ii (((tk T i).1 - 261 : Nat) : Int) := by
    congr 1
    omega
  rw [ef, c119 (d := d) C4.1 W4 (by omega), rR_s]
  refine hK _ _ ⟨WS_pW W4 W4, Nat.le_refl _, Or.inl ⟨i + 1, k + 1, 1, by omega, nxi.1, by omega, R4.pW (Nat.le_refl _) W4 (by omega), C4.pW (by omega) W4, ?_⟩⟩
  refine sgR.st ?_
  rw [step, if_neg ck]
  have ew : wo (pW H4 h.length (fun j => j.testBit ((tk T i).1 - 261))) h.length = fcW ((tk T i).1 - 261) := by
    funext j
    rw [wo_pW W4 j]; rfl
  rw [ew]
  exact sgR.rf
end Rd
