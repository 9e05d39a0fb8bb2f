/-! THE REFERENCE: what its cells say of the land, the moment, the sayings; is it one of these -/
def lv (h : mHeap) (r i : Nat) : Int32 := if r = 0 then fI h 148 59 else xA h r i
def la_w (l : Ld) (k : Nat) : Nat × Nat × Nat := (ld_w l).getD k (0, 0, 0)
def RLd (v : Nat → Nat → Int32) (l : Ld) : Prop := (v 149 0 = ii (ld_n l : Nat) ∧ v 149 2 = ii ((ld_q l).length : Nat) ∧ v 149 3 = ii ((ld_p l).length : Nat) ∧ v 149 4 = ii ((ld_w l).length : Nat) ∧ v 149 5 = ii ((ld_t l).length : Nat)) ∧ (∀ q, q < (ld_q l).length → v 151 q = ii ((la_q l q).2.1 : Nat) ∧ v 152 q = ii ((la_q l q).2.2.2 : Nat)) ∧ (∀ k, k < (ld_p l).length → v 155 k = ii ((ld_p l).getD k 0 : Nat)) ∧ (∀ k, k < (ld_w l).length → v 156 k = ii ((la_w l k).1 : Nat) ∧ v 157 k = ii ((la_w l k).2.1 : Nat) ∧ v 158 k = ii ((la_w l k).2.2 : Nat)) ∧ ∀ t, t < (ld_t l).length → v 159 t = ii ((la_t l t).1 : Nat) ∧ v 160 t = ii ((la_t l t).2 : Nat)
def RMo (l : Ld) (D F : Int32) (sd gn fl hl : Nat → Int32) (m : Mo) : Prop := (D = ii (mo_d m : Nat) ∧ F = ii (mo_f m : Nat)) ∧ (∀ q, q < (ld_q l).length → sd q = ii (bt (mo_s m q)) ∧ gn q = ii (mo_h m q : Nat) ∧ fl q = ii (bt (mo_l m q)) ∧ rw8 hl q = mo_w m (q + 1)) ∧ rw8 hl 6 = mo_w m 0
def RMv (v : Nat → Nat → Int32) (l : Ld) (m : Mo) : Prop := RMo l (v 149 6) (v 149 1) (v 150) (v 153) (v 154) (v 163) m
def RSy (h : mHeap) (S : List Wd) : Prop := fI h 148 32 = ii (S.length : Nat) ∧ S.length ≤ 24 ∧ ∀ k, k < S.length → rw8 (xA h 183) k = sy S k
def MoJ (l : Ld) (m : Mo) : Prop := mo_f m < 2 ^ ld_n l ∧ mo_d m ≤ 20000 ∧ (∀ q, mo_h m q ≤ 24) ∧ ∀ i w, i < 7 → mo_w m i w = true → w < 2 ^ ld_n l
def Rw (h : mHeap) (l : Ld) (m : Mo) (S : List Wd) : Prop := RS h ∧ (RLd (lv h) l ∧ LdOk l) ∧ (RMv (lv h) l m ∧ MoJ l m) ∧ RSy h S
section Rp
variable {d : Nat} {h h1 : mHeap} {l : Ld} {m : Mo} {S : List Wd} {K : Int32 → mHeap → Prop} {z : Int} {q k w f : Nat}
theorem RS.l149 (hR : RS h) : (okA h 149 .int (ii 0) ∧ eI h 149 (ii 0) = xA h 149 0) ∧ (okA h 149 .int (ii 1) ∧ eI h 149 (ii 1) = xA h 149 1) ∧ (okA h 149 .int (ii 2) ∧ eI h 149 (ii 2) = xA h 149 2) ∧ (okA h 149 .int (ii 3) ∧ eI h 149 (ii 3) = xA h 149 3) ∧ (okA h 149 .int (ii 4) ∧ eI h 149 (ii 4) = xA h 149 4) ∧ (okA h 149 .int (ii 5) ∧ eI h 149 (ii 5) = xA h 149 5) ∧ (okA h 149 .int (ii 6) ∧ eI h 149 (ii 6) = xA h 149 6) ∧ (okA h 149 .int (ii 7) ∧ eI h 149 (ii 7) = xA h 149 7) ∧ (okA h 149 .int (ii 8) ∧ eI h 149 (ii 8) = xA h 149 8) := ⟨hR.x149 (i := 0) (by decide), hR.x149 (i := 1) (by decide), hR.x149 (i := 2) (by decide), hR.x149 (i := 3) (by decide), hR.x149 (i := 4) (by decide), hR.x149 (i := 5) (by decide), hR.x149 (i := 6) (by decide), hR.x149 (i := 7) (by decide), hR.x149 (i := 8) (by decide)⟩
theorem Rw.n (W : Rw h l m S) : xA h 149 0 = ii (ld_n l : Nat) := W.2.1.1.1.1
theorem Rw.nq (W : Rw h l m S) : xA h 149 2 = ii ((ld_q l).length : Nat) := W.2.1.1.1.2.1
theorem Rw.np (W : Rw h l m S) : xA h 149 3 = ii ((ld_p l).length : Nat) := W.2.1.1.1.2.2.1
theorem Rw.nw (W : Rw h l m S) : xA h 149 4 = ii ((ld_w l).length : Nat) := W.2.1.1.1.2.2.2.1
theorem Rw.nt (W : Rw h l m S) : xA h 149 5 = ii ((ld_t l).length : Nat) := W.2.1.1.1.2.2.2.2
theorem Rw.qq (W : Rw h l m S) (hq : q < (ld_q l).length) : xA h 151 q = ii ((la_q l q).2.1 : Nat) ∧ xA h 152 q = ii ((la_q l q).2.2.2 : Nat) := W.2.1.1.2.1 q hq
theorem Rw.pp (W : Rw h l m S) (hk : k < (ld_p l).length) : xA h 155 k = ii ((ld_p l).getD k 0 : Nat) := W.2.1.1.2.2.1 k hk
theorem Rw.ww (W : Rw h l m S) (hk : k < (ld_w l).length) : xA h 156 k = ii ((la_w l k).1 : Nat) ∧ xA h 157 k = ii ((la_w l k).2.1 : Nat) ∧ xA h 158 k = ii ((la_w l k).2.2 : Nat) := W.2.1.1.2.2.2.1 k hk
theorem Rw.tt (W : Rw h l m S) (hk : k < (ld_t l).length) : xA h 159 k = ii ((la_t l k).1 : Nat) ∧ xA h 160 k = ii ((la_t l k).2 : Nat) := W.2.1.1.2.2.2.2 k hk
theorem Rw.day (W : Rw h l m S) : xA h 149 6 = ii (mo_d m : Nat) := W.2.2.1.1.1.1
theorem Rw.so (W : Rw h l m S) : xA h 149 1 = ii (mo_f m : Nat) := W.2.2.1.1.1.2
theorem Rw.mo (W : Rw h l m S) (hq : q < (ld_q l).length) : xA h 150 q = ii (bt (mo_s m q)) ∧ xA h 153 q = ii (mo_h m q : Nat) ∧ xA h 154 q = ii (bt (mo_l m q)) ∧ rw8 (xA h 163) q = mo_w m (q + 1) := W.2.2.1.1.2.1 q hq
theorem Rw.br (W : Rw h l m S) : rw8 (xA h 163) 6 = mo_w m 0 := W.2.2.1.1.2.2
theorem Rw.ok (W : Rw h l m S) : LdOk l := W.2.1.2
theorem Rw.mj (W : Rw h l m S) : MoJ l m := W.2.2.1.2
theorem Rw.ns (W : Rw h l m S) : fI h 148 32 = ii (S.length : Nat) := W.2.2.2.1
theorem Rw.s24 (W : Rw h l m S) : S.length ≤ 24 := W.2.2.2.2.1
theorem Rw.ss (W : Rw h l m S) (hk : k < S.length) : rw8 (xA h 183) k = sy S k := W.2.2.2.2.2 k hk
theorem Rw.q6 (W : Rw h l m S) : (ld_q l).length ≤ 6 := W.ok.2.2.1
theorem Rw.p6 (W : Rw h l m S) : (ld_p l).length ≤ 6 := W.ok.2.2.2.1
theorem Rw.n8 (W : Rw h l m S) : ld_n l ≤ 8 := W.ok.1
theorem Rw.n256 (W : Rw h l m S) : 2 ^ ld_n l ≤ 256 := pow_le W.n8
theorem Rw.f8 (W : Rw h l m S) : mo_f m < 256 := Nat.lt_of_lt_of_le W.mj.1 W.n256
theorem bool_if {b : Bool} {G : Prop} : (((if b = true then ii 1 else ii 0) = ii 0 ∨ (if b = true then ii 1 else ii 0) = ii 1) ∧ G) ↔ G := by
  rw [ii01, true_and]
theorem c186 (W : Rw h l m S) : GoCi (d + 1) 186 [.ref 148] h K ↔ K (if 0 < ld_n l then ii 1 else ii 0) h := by
  have n8 := W.n8
  rw [e186, b186_0]
  simp only [(RS.ok W.1), (RS.fr W.1), true_and, and_true, true_or, or_true, W.1.l149, rI_s, W.n]
  by_cases c : 0 < ld_n l
  · rw [if_neg (by rw [ii_le (by omega) (by omega) (by omega) (by omega)]; omega), if_pos c]
  · rw [if_pos (by rw [ii_le (by omega) (by omega) (by omega) (by omega)]; omega), if_neg c]
theorem c187 (W : Rw h l m S) (hz : i32 z) : GoCi (d + 2) 187 [.ref 148, .int (ii z)] h K ↔ K (if 0 ≤ z ∧ z < (ld_q l).length then ii 1 else ii 0) h := by
  have q6 := W.q6
  rw [e187, b187_0]
  simp only [(RS.ok W.1), (RS.fr W.1), true_and, and_true, true_or, or_true, W.1.l149, W.nq]
  rw [cin hz (by omega) (by omega), ii01, true_and, rI_s]
theorem c188 (W : Rw h l m S) (hz : i32 z) : GoCi (d + 2) 188 [.ref 148, .int (ii z)] h K ↔ K (if 0 ≤ z ∧ z < (ld_p l).length then ii 1 else ii 0) h := by
  have q6 := W.p6
  rw [e188, b188_0]
  simp only [(RS.ok W.1), (RS.fr W.1), true_and, and_true, true_or, or_true, W.1.l149, W.np]
  rw [cin hz (by omega) (by omega), ii01, true_and, rI_s]
theorem c189 (W : Rw h l m S) (hz : i32 z) : GoCi (d + 2) 189 [.ref 148, .int (ii z)] h K ↔ K (if 0 ≤ z ∧ z < ld_n l then ii 1 else ii 0) h := by
  have q6 := W.n8
  rw [e189, b189_0]
  simp only [(RS.ok W.1), (RS.fr W.1), true_and, and_true, true_or, or_true, W.1.l149, W.n]
  rw [cin hz (by omega) (by omega), ii01, true_and, rI_s]
theorem c190 (W : Rw h l m S) (hz : i32 z) : GoCi (d + 2) 190 [.ref 148, .int (ii z)] h K ↔ K (if 0 ≤ z ∧ z < S.length then ii 1 else ii 0) h := by
  have q6 := W.s24
  rw [e190, b190_0]
  simp only [(RS.ok W.1), (RS.fr W.1), true_and, and_true, true_or, or_true, W.ns]
  rw [cin hz (by omega) (by omega), ii01, true_and, rI_s]
theorem c191 (W : Rw h l m S) : GoCi (d + 1) 191 [.ref 148] h K ↔ K (ii ((2 ^ ld_n l : Nat) : Int)) h := by
  have n8 := W.n8
  rw [e191, b191_0]
  simp only [(RS.ok W.1), (RS.fr W.1), true_and, and_true, true_or, or_true, W.1.l149, W.n, rI_s]
  rw [shl1 (by omega)]
theorem c192 (W : Rw h l m S) (hz : i32 z) : GoCi (d + 2) 192 [.ref 148, .int (ii z)] h K ↔ K (if 0 < ld_n l ∧ 0 ≤ z ∧ z < ((2 ^ ld_n l : Nat) : Int) then ii 1 else ii 0) h := by
  have n2 := W.n256
  rw [e192, b192_0]
  simp only [(RS.ok W.1), (RS.fr W.1), true_and, and_true, true_or, or_true]
  rw [c186 W]
  by_cases c : 0 < ld_n l
  · rw [if_pos c, if_neg (by decide)]
    simp only [(RS.ok W.1), (RS.fr W.1), true_and, and_true, true_or, or_true]
    rw [c191 W]
    generalize 2 ^ ld_n l = N at *
    rw [cin hz (by omega) (by omega)]
    by_cases c2 : 0 ≤ z ∧ z < (N : Int)
    · rw [if_pos c2, if_neg (by decide), rI_s, if_pos ⟨c, c2⟩]
    · rw [if_neg c2, if_pos rfl, rI_s, if_neg (fun g => c2 g.2)]
  · rw [if_neg c, if_pos rfl, rI_s, if_neg (fun g => c g.1)]
theorem ix8 (q k : Nat) : ii 8 * ii (q : Nat) + ii (k : Nat) = ii ((8 * q + k : Nat) : Int) := by
  rw [ii_mul, ii_add]
  exact congrArg ii (by omega)
theorem c246 (hR : RS h) (hq : q < 7) : GoCi (d + 2) 246 [.ref 148, .int (ii q)] h K ↔ K (ii (cB (rw8 (xA h 163) q) 256 : Nat)) h := by
  rw [e246, b246_0]
  have L := downA (n := 8) (P := fun k => (Go (d + 1) 246 4 [some (.ref 148), some (.int (ii q)), some (.int (ii (cB (rw8 (xA h 163) q) (32 * k) : Nat))), some (.int (ii (k : Nat)))] [] h (rI K) ↔ K (ii (cB (rw8 (xA h 163) q) 256 : Nat)) h)) (by
    rw [b246_4, if_pos (by rw [show ii 8 = ii ((8 : Nat) : Int) from rfl]; exact Int32.le_refl _), rI_s]) (fun k hk ih => by
    rw [b246_4, if_neg (by rw [show ii 8 = ii (8 : Int) from rfl, ii_le (by omega) (by omega) (by omega) (by omega)]; omega)]
    simp only [(RS.ok hR), (RS.fr hR), true_and, and_true, true_or, or_true, ix8, hR.x163 (show 8 * q + k < 56 by omega)]
    rw [c184, ii_add, ii_add]
    rw [show (cB (rw8 (xA h 163) q) (32 * k) : Int) + (cB (wb (xA h 163 (8 * q + k))) 32 : Nat) = ((cB (rw8 (xA h 163) q) (32 * (k + 1)) : Nat) : Int) by
      rw [cB_rw8 hk]
      omega]
    exact ih) (Nat.zero_le _)
  exact L
theorem c247 (hR : RS h) (hq : q < 7) (hk : k < 24) : GoCi (d + 2) 247 [.ref 148, .int (ii q), .int (ii k)] h K ↔ K (bP (sub (rw8 (xA h 163) q) (rw8 (xA h 183) k))) h := by
  rw [e247, b247_0]
  have L := downA (n := 8) (P := fun j => (Go (d + 1) 247 5 [some (.ref 148), some (.int (ii q)), some (.int (ii k)), some (.int (bP (∀ i, i < 32 * j → rw8 (xA h 163) q i = true → rw8 (xA h 183) k i = true))), some (.int (ii (j : Nat)))] [] h (rI K) ↔ K (bP (sub (rw8 (xA h 163) q) (rw8 (xA h 183) k))) h)) (by
    rw [b247_5, if_pos (by rw [show ii 8 = ii ((8 : Nat) : Int) from rfl]; exact Int32.le_refl _), bP_01, true_and, rI_s]
    rfl) (fun j hj ih => by
    rw [b247_5, if_neg (by rw [show ii 8 = ii (8 : Int) from rfl, ii_le (by omega) (by omega) (by omega) (by omega)]; omega)]
    simp only [(RS.ok hR), (RS.fr hR), true_and, and_true, true_or, or_true, ix8, hR.x163 (show 8 * q + j < 56 by omega), hR.x183 (show 8 * k + j < 192 by omega)]
    have w0 : (∀ i, i < 32 * j → rw8 (xA h 163) q i = true → rw8 (xA h 183) k i = true) → ((xA h 163 (8 * q + j) &&& (xA h 183 (8 * k + j) ^^^ ii (-1))) = ii 0 ↔ ∀ i, i < 32 * (j + 1) → rw8 (xA h 163) q i = true → rw8 (xA h 183) k i = true) := fun g => by
      rw [wb_z]
      constructor
      · intro e i hi a
        by_cases c : i < 32 * j
        · exact g i c a
        · have e2 := e (i - 32 * j) (by omega)
          rw [wb_and, wb_no (by omega)] at e2
          rw [show i = 32 * j + (i - 32 * j) by omega, rw8_at hj (by omega)] at a ⊢
          rw [a, Bool.true_and] at e2
          cases e3 : wb (xA h 183 (8 * k + j)) (i - 32 * j) with
          | true => rfl
          | false => rw [e3] at e2; cases e2
      · intro e i hi
        have := e (32 * j + i) (by omega)
        rw [rw8_at hj hi, rw8_at hj hi] at this
        rw [wb_and, wb_no hi]
        cases a : wb (xA h 163 (8 * q + j)) i with
        | false => rfl
        | true => rw [this a]; rfl
    by_cases g : ∀ i, i < 32 * j → rw8 (xA h 163) q i = true → rw8 (xA h 183) k i = true
    · rw [if_neg (by rw [bP_0]; exact fun n => n g)]
      by_cases c : ∀ i, i < 32 * (j + 1) → rw8 (xA h 163) q i = true → rw8 (xA h 183) k i = true
      · rw [if_neg (fun n => n ((w0 g).mpr c)), b247_51, show ii (j : Nat) + ii 1 = ii ((j + 1 : Nat) : Int) from ii_add _ _, show ii 1 = bP (∀ i, i < 32 * (j + 1) → rw8 (xA h 163) q i = true → rw8 (xA h 183) k i = true) from (bP_t c).symm]
        exact ih
      · rw [if_pos (fun n => c ((w0 g).mp n)), b247_50, b247_51, show ii (j : Nat) + ii 1 = ii ((j + 1 : Nat) : Int) from ii_add _ _, show ii 0 = bP (∀ i, i < 32 * (j + 1) → rw8 (xA h 163) q i = true → rw8 (xA h 183) k i = true) from (bP_f c).symm]
        exact ih
    · rw [if_pos (by rw [bP_0]; exact g), b247_50, b247_51, show ii (j : Nat) + ii 1 = ii ((j + 1 : Nat) : Int) from ii_add _ _, show ii 0 = bP (∀ i, i < 32 * (j + 1) → rw8 (xA h 163) q i = true → rw8 (xA h 183) k i = true) from (bP_f (fun c => g (fun i hi => c i (by omega)))).symm]
      exact ih) (Nat.zero_le _)
  rw [show bP (∀ i, i < 32 * 0 → rw8 (xA h 163) q i = true → rw8 (xA h 183) k i = true) = ii 1 from bP_t (fun i hi => by omega)] at L
  exact L
theorem c248 (hR : RS h) (hk : k < 24) : GoCi (d + 2) 248 [.ref 148, .int (ii k)] h K ↔ K (ii (gainW (rw8 (xA h 163) 6) (rw8 (xA h 183) k) : Nat)) h := by
  rw [e248, b248_0]
  have L := downA (n := 8) (P := fun j => (Go (d + 1) 248 4 [some (.ref 148), some (.int (ii k)), some (.int (ii (cB (fun i => rw8 (xA h 163) 6 i && !rw8 (xA h 183) k i) (32 * j) : Nat))), some (.int (ii (j : Nat)))] [] h (rI K) ↔ K (ii (gainW (rw8 (xA h 163) 6) (rw8 (xA h 183) k) : Nat)) h)) (by
    rw [b248_4, if_pos (by rw [show ii 8 = ii ((8 : Nat) : Int) from rfl]; exact Int32.le_refl _), rI_s]
    rfl) (fun j hj ih => by
    rw [b248_4, if_neg (by rw [show ii 8 = ii (8 : Int) from rfl, ii_le (by omega) (by omega) (by omega) (by omega)]; omega)]
    rw [show ii 48 + ii (j : Nat) = ii ((8 * 6 + j : Nat) : Int) by rw [ii_add]; exact congrArg ii (by omega)]
    simp only [(RS.ok hR), (RS.fr hR), true_and, and_true, true_or, or_true, ix8, hR.x163 (show 8 * 6 + j < 56 by omega), hR.x183 (show 8 * k + j < 192 by omega)]
    rw [c184, ii_add, ii_add]
    rw [show (cB (fun i => rw8 (xA h 163) 6 i && !rw8 (xA h 183) k i) (32 * j) : Int) + (cB (wb (xA h 163 (8 * 6 + j) &&& (xA h 183 (8 * k + j) ^^^ ii (-1)))) 32 : Nat) = ((cB (fun i => rw8 (xA h 163) 6 i && !rw8 (xA h 183) k i) (32 * (j + 1)) : Nat) : Int) by
      rw [show 32 * (j + 1) = 32 * j + 32 by omega, cB_add, cB_cong (u := fun i => rw8 (xA h 163) 6 (32 * j + i) && !rw8 (xA h 183) k (32 * j + i)) (v := wb (xA h 163 (8 * 6 + j) &&& (xA h 183 (8 * k + j) ^^^ ii (-1)))) (fun i hi => by rw [rw8_at hj hi, rw8_at hj hi, wb_and, wb_no hi])]
      omega]
    exact ih) (Nat.zero_le _)
  exact L
theorem wx (w : Nat) (hw : w < 256) : ii (w : Nat) / ii 32 = ii ((w / 32 : Nat) : Int) ∧ irm (ii (w : Nat)) (ii 32) = ii ((w % 32 : Nat) : Int) := ⟨by
  rw [show ii 32 = ii (32 : Int) from rfl, ii_div (by omega) (by omega) (by omega) (by omega)]
  exact congrArg ii (by omega), by
  rw [show ii 32 = ii (32 : Int) from rfl, irm_ii (by omega) (by omega) (by omega) (by omega)]
  exact congrArg ii (by omega)⟩
theorem i32n : (¬ ii 32 = ii 0) = True := by decide
theorem c250 (hR : RS h) (hk : k < 24) (hw : w < 256) : GoCi (d + 2) 250 [.ref 148, .int (ii k), .int (ii w)] h K ↔ K (if rw8 (xA h 183) k w = true then ii 1 else ii 0) h := by
  rw [e250, b250_0]
  simp only [(RS.ok hR), (RS.fr hR), true_and, and_true, true_or, or_true, wx w hw, ix8, hR.x183 (show 8 * k + w / 32 < 192 by omega), i32n]
  rw [c185 (by omega), bool_if, rI_s]
  unfold rw8
  rw [decide_eq_true hw, Bool.true_and]
theorem c251 (hR : RS h) (hk : k < 7) (hw : w < 256) : GoCi (d + 2) 251 [.ref 148, .int (ii k), .int (ii w)] h K ↔ K (if rw8 (xA h 163) k w = true then ii 1 else ii 0) h := by
  rw [e251, b251_0]
  simp only [(RS.ok hR), (RS.fr hR), true_and, and_true, true_or, or_true, wx w hw, ix8, hR.x163 (show 8 * k + w / 32 < 56 by omega), i32n]
  rw [c185 (by omega), bool_if, rI_s]
  unfold rw8
  rw [decide_eq_true hw, Bool.true_and]
theorem b1eq {a b : Bool} : (if a = true then ii 1 else ii 0) = (if b = true then ii 1 else ii 0) ↔ a = b := by
  cases a <;> cases b <;> simp <;> decide
theorem b1z {a : Bool} : (if a = true then ii 1 else ii 0) = ii 0 ↔ a = false := by
  cases a <;> simp <;> decide
end Rp
