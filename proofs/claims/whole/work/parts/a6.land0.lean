/-! LANDS read: numbers, ways -/
def LaQ (h : mHeap) (a : Nat) (l : Ld) (X : Nat → Nat) : Prop := LaS h a ∧ fI h a 0 = ii (ld_n l) ∧ fI h a 1 = ii (ld_so l) ∧ fI h a 2 = ii (ld_q l).length ∧ fI h a 3 = ii (nb (fun q => decide ((la_q l q).1 = 1)) 6) ∧ fI h a 7 = ii (ld_p l).length ∧ fI h a 9 = ii (ld_w l).length ∧ fI h a 11 = ii (ld_t l).length ∧ (∀ q, q < (ld_q l).length → xA h (a + 1) q = ii (la_q l q).2.2.1 ∧ xA h (a + 2) q = ii (la_q l q).2.1 ∧ xA h (a + 3) q = ii (la_q l q).2.2.2) ∧ (∀ k, k < (ld_p l).length → xA h (a + 4) k = ii ((ld_p l).getD k 0)) ∧ (∀ i, i < 36 → xA h (a + 5) i = ii (X i)) ∧ ∀ t, t < (ld_t l).length → xA h (a + 6) t = ii (la_t l t).1 ∧ xA h (a + 7) t = ii (la_t l t).2
def LdC (h : mHeap) (T : List (Nat × Nat)) (i f : Nat) : Prop := St h ∧ TxS h ∧ TxT h T i f ∧ f < 100000 ∧ (f = 0 ∨ i = T.length - 1)
/-- what a number's reading comes to: 0, or a fault -/
def nmF (T : List (Nat × Nat)) (i : Nat) (lo hi : Int) : Nat := if (tk T i).1 < 1001 then flt T i 0 else if (tk T i).1 = 101001 ∨ ((tk T i).1 : Int) - 1001 < lo ∨ hi < ((tk T i).1 : Int) - 1001 then flt T i 1 else 0
def nmV (T : List (Nat × Nat)) (i : Nat) : Nat := (tk T i).1 - 1001
section La0
variable {d a i f : Nat} {h h1 h2 : mHeap} {T : List (Nat × Nat)} {l : Ld} {X : Nat → Nat}
theorem LaQ.eq (hL : LaQ h a l X) (e : ∀ c, a ≤ c → c < a + 8 → h1[c]? = h[c]?) : LaQ h1 a l X := by
  obtain ⟨s, r⟩ := hL
  have e0 := e a (by omega) (by omega)
  have e1 := e (a + 1) (by omega) (by omega)
  have e2 := e (a + 2) (by omega) (by omega)
  have e3 := e (a + 3) (by omega) (by omega)
  have e4 := e (a + 4) (by omega) (by omega)
  have e5 := e (a + 5) (by omega) (by omega)
  have e6 := e (a + 6) (by omega) (by omega)
  have e7 := e (a + 7) (by omega) (by omega)
  refine ⟨⟨s.1, by rw [same_kd e0]; exact s.2.1, by rw [same_kd e1]; exact s.2.2.1, by rw [same_kd e2]; exact s.2.2.2.1, by rw [same_kd e3]; exact s.2.2.2.2.1, by rw [same_kd e4]; exact s.2.2.2.2.2.1, by rw [same_kd e5]; exact s.2.2.2.2.2.2.1, by rw [same_kd e6]; exact s.2.2.2.2.2.2.2.1, by rw [same_kd e7]; exact s.2.2.2.2.2.2.2.2⟩, ?_⟩
  rw [same_fI e0, same_fI e0, same_fI e0, same_fI e0, same_fI e0, same_fI e0, same_fI e0, same_xA e1, same_xA e2, same_xA e3, same_xA e4, same_xA e5, same_xA e6, same_xA e7]
  exact r
theorem LaQ.tx (hL : LaQ h a l X) (G : txG h h1) (ha : 66 ≤ a) : LaQ h1 a l X := hL.eq (fun c g1 g2 => G.1.2.2.2 c (by omega))
theorem LdC.fr {lo n : Nat} (hC : LdC h T i f) (x : Fr lo n h h1) (e : 69 ≤ lo) : LdC h1 T i f := by
  obtain ⟨s, t, x1, b, c⟩ := hC
  refine ⟨x.St (by omega) s, t.sk x.1, ⟨⟨by rw [same_fI (x.2.2.2 65 (by omega))]; exact x1.1.1, fun j hj => by rw [same_xA (x.2.2.2 67 (by omega)), same_xA (x.2.2.2 68 (by omega))]; exact x1.1.2 j hj⟩, by rw [same_fI (x.2.2.2 65 (by omega))]; exact x1.2.1, x1.2.2.1, x1.2.2.2.1, by rw [same_fI (x.2.2.2 65 (by omega))]; exact x1.2.2.2.2.1, x1.2.2.2.2.2⟩, b, c⟩
theorem LdC.tx (hC : LdC h T i f) (G : txG h h1) {i' f' : Nat} (X1 : TxT h1 T i' f') (hf : f' < 100000) (hi : f' = 0 ∨ i' = T.length - 1) : LdC h1 T i' f' := ⟨G.1.St (by decide) hC.1, hC.2.1.sk G.1.1, X1, hf, hi⟩
/-- number, where none stands -/
theorem c114z {K : Int32 → mHeap → Prop} (hT : TxS h) (hX : TxT h T i f) (hf : f < 100000) (hc : (tk T i).1 < 1001) {x1 x2 : Int32} (hK : ∀ h1, txG h h1 → TxT h1 T (T.length - 1) (blm T i f 0) → K (ii (((tk T i).1 : Int) - 1001)) h1) : GoCi (d + 2) 114 [.ref 65, .int x1, .int x2] h K := by
  have a := TxT_at hT hX
  have o9 := (TxS_ok hT).2.2.2.2.2.2.2.2.2.2
  rw [e114, b114_0]
  have ev : ii (((tk T i).1 : Int) - 1) - ii 1000 = ii (((tk T i).1 : Int) - 1001) := by
    rw [ii_sub]
    congr 1
    omega
  simp only [TxS_ok hT, hX.2.1, a, true_and, ev]
  rw [if_neg (by rw [show ii 0 = ii (0 : Int) from rfl, ii_le (by omega) (by omega) (by omega) (by omega)]; omega)]
  refine c112 (d := d) (kind := 0) hT hX hf (fun h1 G X1 => ?_)
  rw [rI_s]
  exact hK h1 G X1
/-- number, alive or not -/
theorem num {K : Int32 → mHeap → Prop} (hE : (tk T (T.length - 1)).1 = 0) (hC : LdC h T i f) {x1 x2 : Int32} {lo hi : Int} (hx : f = 0 → x1 = ii lo ∧ x2 = ii hi ∧ (-1000000 ≤ lo ∧ lo ≤ 1000000) ∧ (-1000000 ≤ hi ∧ hi ≤ 1000000)) (hY : f = 0 → nmF T i lo hi = 0 → ((nmV T i : Nat) : Int) ≤ hi → lo ≤ ((nmV T i : Nat) : Int) → ∀ h1, txG h h1 → LdC h1 T (i + 1) 0 → K (ii (nmV T i : Nat)) h1) (hN : ∀ f' v, ¬ f' = 0 → (f = 0 → nmF T i lo hi = f') → (¬ f = 0 → f' = f) → ∀ h1, txG h h1 → LdC h1 T (T.length - 1) f' → K v h1) : GoCi (d + 2) 114 [.ref 65, .int x1, .int x2] h K := by
  obtain ⟨s, t, X, fl, al⟩ := hC
  by_cases f0 : f = 0
  · obtain ⟨q1, q2, q3, q4⟩ := hx f0
    subst f0
    rw [q1, q2]
    have fl0 := flt_lt X (kind := 0) (by decide)
    have fl1 := flt_lt X (kind := 1) (by decide)
    refine c114 t X (by decide) q3 q4 (fun g h1 G X1 => ?_) (fun g g2 h1 G X1 => ?_) (fun g g2 g3 g4 h1 G X1 => ?_)
    · exact hN (flt T i 0) _ fl0.2 (fun _ => by unfold nmF; rw [if_pos g]) (fun c => absurd rfl c) h1 G ⟨G.1.St (by decide) s, t.sk G.1.1, X1, fl0.1, Or.inr rfl⟩
    · exact hN (flt T i 1) _ fl1.2 (fun _ => by unfold nmF; rw [if_neg (by omega), if_pos g2]) (fun c => absurd rfl c) h1 G ⟨G.1.St (by decide) s, t.sk G.1.1, X1, fl1.1, Or.inr rfl⟩
    · have nxi := nx_in hE X.2.2.1 (by omega)
      rw [nxi.2] at X1
      have ev : ((tk T i).1 : Int) - 1001 = ((nmV T i : Nat) : Int) := by unfold nmV; omega
      rw [ev] at g3 g4 ⊢
      refine hY rfl ?_ g4 g3 h1 G ⟨G.1.St (by decide) s, t.sk G.1.1, X1, by decide, Or.inl rfl⟩
      unfold nmF
      rw [if_neg (by omega), if_neg (by omega)]
  · have ei : i = T.length - 1 := by
      rcases al with g | g
      · exact absurd g f0
      · exact g
    subst ei
    refine c114z t X fl (by rw [hE]; decide) (fun h1 G X1 => ?_)
    have eb : blm T (T.length - 1) f 0 = f := by unfold blm; rw [if_neg f0]
    rw [eb] at X1
    exact hN f _ f0 (fun c => absurd c f0) (fun _ => rfl) h1 G ⟨G.1.St (by decide) s, t.sk G.1.1, X1, fl, Or.inr rfl⟩
theorem putL (hS : LaS h a) {k : Nat} (hk : k = 0 ∨ k = 1 ∨ k = 2 ∨ k = 3 ∨ k = 7 ∨ k = 9 ∨ k = 11) (x : Int32) : okP h a 2 k ∧ Fr a 1 h (sF h a k (.int x)) ∧ (∀ j, fI (sF h a k (.int x)) a j = if j = k then x else fI h a j) ∧ LaS (sF h a k (.int x)) a := by
  have t : tgK (kd h a) k = some 0 := by
    rw [hS.2.1]
    rcases hk with g | g | g | g | g | g | g <;> subst g <;> rfl
  have F : Fr a 1 h (sF h a k (.int x)) := Fr.sF t
  refine ⟨?_, F, fun j => ?_, F.1.LaS hS⟩
  · rw [okP_kd, hS.2.1]; exact ⟨hS.1, rfl, rfl, by show k < 14; omega⟩
  · rw [fI_sF t]
    by_cases c : j = k
    · rw [if_pos ⟨rfl, c.symm⟩, if_pos c]
    · rw [if_neg (fun g => c g.2.symm), if_neg c]
theorem six_ii {i j : Nat} : ii (i : Int) * ii 6 + ii (j : Int) = ii ((6 * i + j : Nat) : Int) := by
  rw [ii_mul, ii_add]
  congr 1
  omega
/-- shorten -/
theorem c39 {K : mHeap → Prop} (hL : LaQ h a l X) (hX : ∀ i, X i ≤ 1000) {i j v : Nat} (hi : i < 6) (hj : j < 6) (hv : v < 100000) (hK : ∀ h1, Fr (a + 5) 1 h h1 → LaQ h1 a l (shorten X i j v) → K h1) : GoCv (d + 1) 39 [.ref a, .int (ii i), .int (ii j), .int (ii v)] h K := by
  have r := row_ok hL.1.2.2.2.2.2.2.1 (show 6 * i + j < 36 by omega) (by omega)
  have vX := hL.2.2.2.2.2.2.2.2.2.2.1 (6 * i + j) (by omega)
  have lX := hX (6 * i + j)
  have a64 := hL.1.1
  rw [e39, b39_0]
  simp only [LaS_ok hL.1, LaS_fR hL.1, true_and, six_ii, r, vX]
  by_cases c : v < X (6 * i + j)
  · rw [if_neg (by rw [ii_le (by omega) (by omega) (by omega) (by omega)]; omega)]
    refine ⟨⟨by omega, trivial⟩, ?_⟩
    rw [rV_s]
    have w := fun b => sI_row (b := b) (v := ii (v : Int)) hL.1.2.2.2.2.2.2.1 (show 6 * i + j < 36 by omega) (by omega)
    have F : Fr (a + 5) 1 h (sI h (a + 5) (ii ((6 * i + j : Nat) : Int)) (ii (v : Int))) := Fr.sI
    generalize sI h (a + 5) (ii ((6 * i + j : Nat) : Int)) (ii (v : Int)) = H at *
    refine hK H F ?_
    obtain ⟨s, r1, r2, r3, r4, r5, r6, r7, r8, r9, r10, r11⟩ := hL
    have e : ∀ c, ¬ c = a + 5 → H[c]? = h[c]? := fun c hc => F.2.2.2 c (by omega)
    refine ⟨F.1.LaS s, by rw [same_fI (e a (by omega))]; exact r1, by rw [same_fI (e a (by omega))]; exact r2, by rw [same_fI (e a (by omega))]; exact r3, by rw [same_fI (e a (by omega))]; exact r4, by rw [same_fI (e a (by omega))]; exact r5, by rw [same_fI (e a (by omega))]; exact r6, by rw [same_fI (e a (by omega))]; exact r7, ?_, ?_, fun k hk => ?_, ?_⟩
    · rw [same_xA (e (a + 1) (by omega)), same_xA (e (a + 2) (by omega)), same_xA (e (a + 3) (by omega))]; exact r8
    · rw [same_xA (e (a + 4) (by omega))]; exact r9
    · rw [w (a + 5), if_pos rfl]
      unfold shorten
      rw [if_pos c]
      unfold upf
      by_cases g : k = 6 * i + j
      · rw [if_pos g, if_pos g]
      · rw [if_neg g, if_neg g]; exact r10 k hk
    · rw [same_xA (e (a + 6) (by omega)), same_xA (e (a + 7) (by omega))]; exact r11
  · rw [if_pos (by rw [ii_le (by omega) (by omega) (by omega) (by omega)]; omega), rV_s]
    refine hK h Fr.rf ?_
    have : shorten X i j v = X := by unfold shorten; rw [if_neg c]
    rw [this]
    exact hL
theorem c41Q {K : Int32 → mHeap → Prop} (hL : LaQ h a l X) {i j : Nat} (hi : i < 6) (hj : j < 6) : GoCi (d + 1) 41 [.ref a, .int (ii i), .int (ii j)] h K ↔ K (ii (X (6 * i + j))) h := by
  have r := row_ok hL.1.2.2.2.2.2.2.1 (show 6 * i + j < 36 by omega) (by omega)
  rw [e41, b41_0, rI_s]
  simp only [LaS_ok hL.1, LaS_fR hL.1, true_and, six_ii, r, hL.2.2.2.2.2.2.2.2.2.2.1 _ (show 6 * i + j < 36 by omega)]
/-- findShortestWays -/
theorem c40 {K : mHeap → Prop} (hL : LaQ h a l X) (hX : ∀ i, X i ≤ 1000) (hp : (ld_p l).length ≤ 6) (hK : ∀ h1, Fr (a + 5) 1 h h1 → LaQ h1 a l (wyB (ld_p l).length (ld_p l).length X) → K h1) : GoCv (d + 2) 40 [.ref a] h K := by
  generalize hn : (ld_p l).length = n at *
  have o2 : ∀ {h'}, LaS h' a → oC h' a = 2 := fun s => (LaS_ok s).2.2.2.2.2.2.2.2.2.2.2.2.2.2
  have leO : ∀ b i (f : Nat → Nat) m, (∀ x, f x ≤ 1000) → ∀ x, wyO m b i f x ≤ 1000 := fun b i f m hf => foldl_inv (I := fun (f : Nat → Nat) => ∀ i, f i ≤ 1000) (fun f j hf => shorten_le hf) _ _ hf
  have leI : ∀ b (f : Nat → Nat) m, (∀ x, f x ≤ 1000) → ∀ x, (List.range m).foldl (fun f i => wyO n b i f) f x ≤ 1000 := fun b f m hf => foldl_inv (I := fun (f : Nat → Nat) => ∀ i, f i ≤ 1000) (fun f i hf => leO b i f n hf) _ _ hf
  have leB : ∀ (f : Nat → Nat) m, (∀ x, f x ≤ 1000) → ∀ x, wyB n m f x ≤ 1000 := fun f m hf => foldl_inv (I := fun (f : Nat → Nat) => ∀ i, f i ≤ 1000) (fun f b hf => leI b f n hf) _ _ hf
  rw [e40, b40_0]
  refine Go_loop (fun b L' h' => Fr (a + 5) 1 h h' ∧ LaQ h' a l (wyB n b X) ∧ ∃ l2 l3, L' = [some (.ref a), some (.int (ii b)), l2, l3]) n ?_ ?_ 0 _ _ (Nat.zero_le _) ⟨Fr.rf, hL, none, none, rfl⟩
  · rintro b L' h' hb ⟨F, Q, l2, l3, rfl⟩ next
    have eb : ii (b : Int) + ii 1 = ii ((b + 1 : Nat) : Int) := by rw [ii_add]; rfl
    have sB : wyB n (b + 1) X = wyI n b (wyB n b X) := by
      unfold wyB
      rw [List.range_succ, List.foldl_append]
      rfl
    have lX := leB X b hX
    generalize wyB n b X = Y at *
    rw [b40_2]
    simp only [LaS_ok Q.1, Q.2.2.2.2.2.1, hn, true_and]
    rw [if_neg (by rw [ii_le (by omega) (by omega) (by omega) (by omega)]; omega)]
    refine Go_loop (fun i L' h' => Fr (a + 5) 1 h h' ∧ LaQ h' a l ((List.range i).foldl (fun f i => wyO n b i f) Y) ∧ ∃ l3, L' = [some (.ref a), some (.int (ii b)), some (.int (ii i)), l3]) n ?_ ?_ 0 _ _ (Nat.zero_le _) ⟨F, Q, l3, rfl⟩
    · rintro i L' h' hi ⟨F, Q, l3, rfl⟩ next2
      have ei : ii (i : Int) + ii 1 = ii ((i + 1 : Nat) : Int) := by rw [ii_add]; rfl
      have sI2 : (List.range (i + 1)).foldl (fun f i => wyO n b i f) Y = wyO n b i ((List.range i).foldl (fun f i => wyO n b i f) Y) := by
        rw [List.range_succ, List.foldl_append]
        rfl
      have lY := leI b Y i lX
      generalize (List.range i).foldl (fun f i => wyO n b i f) Y = Z at *
      rw [b40_12]
      simp only [LaS_ok Q.1, Q.2.2.2.2.2.1, hn, true_and]
      rw [if_neg (by rw [ii_le (by omega) (by omega) (by omega) (by omega)]; omega)]
      refine Go_loop (fun j L' h' => Fr (a + 5) 1 h h' ∧ LaQ h' a l ((List.range j).foldl (fun f j => shorten f i j (f (6 * i + b) + f (6 * b + j))) Z) ∧ L' = [some (.ref a), some (.int (ii b)), some (.int (ii i)), some (.int (ii j))]) n ?_ ?_ 0 _ _ (Nat.zero_le _) ⟨F, Q, rfl⟩
      · rintro j L' h' hj ⟨F, Q, rfl⟩ next3
        have ej : ii (j : Int) + ii 1 = ii ((j + 1 : Nat) : Int) := by rw [ii_add]; rfl
        have sJ2 : (List.range (j + 1)).foldl (fun f j => shorten f i j (f (6 * i + b) + f (6 * b + j))) Z = (fun f j => shorten f i j (f (6 * i + b) + f (6 * b + j))) ((List.range j).foldl (fun f j => shorten f i j (f (6 * i + b) + f (6 * b + j))) Z) j := by
          rw [List.range_succ, List.foldl_append]
          rfl
        have lZ : ∀ x, (List.range j).foldl (fun f j => shorten f i j (f (6 * i + b) + f (6 * b + j))) Z x ≤ 1000 := foldl_inv (I := fun (f : Nat → Nat) => ∀ i, f i ≤ 1000) (fun f j hf => shorten_le hf) _ _ lY
        generalize (List.range j).foldl (fun f j => shorten f i j (f (6 * i + b) + f (6 * b + j))) Z = U at *
        rw [b40_22]
        simp only [LaS_ok Q.1, Q.2.2.2.2.2.1, hn, true_and]
        rw [if_neg (by rw [ii_le (by omega) (by omega) (by omega) (by omega)]; omega)]
        rw [c41Q Q (by omega) (by omega)]
        refine ⟨o2 Q.1, ?_⟩
        rw [c41Q Q (by omega) (by omega)]
        refine ⟨o2 Q.1, ?_⟩
        rw [ii_add]
        have v1 := lZ (6 * i + b)
        have v2 := lZ (6 * b + j)
        refine c39 (d := d) (v := U (6 * i + b) + U (6 * b + j)) Q lZ (by omega) (by omega) (by omega) (fun h1 F1 Q1 => ?_)
        rw [ej]
        refine next3 _ _ ⟨F.tr F1, ?_, rfl⟩
        rw [sJ2]
        exact Q1
      · rintro L' h' ⟨F, Q, rfl⟩
        rw [b40_22]
        simp only [LaS_ok Q.1, Q.2.2.2.2.2.1, hn, true_and]
        rw [if_pos (by rw [ii_le (by omega) (by omega) (by omega) (by omega)]; omega), ei]
        refine next2 _ _ ⟨F, ?_, _, rfl⟩
        rw [sI2]
        exact Q
    · rintro L' h' ⟨F, Q, l3, rfl⟩
      rw [b40_12]
      simp only [LaS_ok Q.1, Q.2.2.2.2.2.1, hn, true_and]
      rw [if_pos (by rw [ii_le (by omega) (by omega) (by omega) (by omega)]; omega), eb]
      refine next _ _ ⟨F, ?_, _, _, rfl⟩
      rw [sB]
      exact Q
  · rintro L' h' ⟨F, Q, l2, l3, rfl⟩
    rw [b40_2]
    simp only [LaS_ok Q.1, Q.2.2.2.2.2.1, hn, true_and]
    rw [if_pos (by rw [ii_le (by omega) (by omega) (by omega) (by omega)]; omega), rV_s]
    exact hK h' F Q
/-- forgetWays -/
theorem c31 {K : mHeap → Prop} (hL : LaR h a l) (hK : ∀ h1, Fr (a + 5) 1 h h1 → LaQ h1 a l wy0 → K h1) : GoCv (d + 2) 31 [.ref a] h K := by
  have a64 := hL.1.1
  rw [e31, b31_0]
  simp only [LaS_ok hL.1, LaS_fR hL.1, true_and]
  refine c325 (by omega) hL.1.2.2.2.2.2.2.1 (by decide) (fun h1 F1 x1 => ?_)
  have up : ∀ {H : mHeap} (Z : Nat → Nat), Fr (a + 5) 1 h H → (∀ i, i < 36 → xA H (a + 5) i = ii (Z i)) → LaQ H a l Z := fun {H} Z F z => by
    obtain ⟨s, r1, r2, r3, r4, r5, r6, r7, r8, r9, r10, r11⟩ := hL
    have e : ∀ c, ¬ c = a + 5 → H[c]? = h[c]? := fun c hc => F.2.2.2 c (by omega)
    refine ⟨F.1.LaS s, by rw [same_fI (e a (by omega))]; exact r1, by rw [same_fI (e a (by omega))]; exact r2, by rw [same_fI (e a (by omega))]; exact r3, by rw [same_fI (e a (by omega))]; exact r4, by rw [same_fI (e a (by omega))]; exact r5, by rw [same_fI (e a (by omega))]; exact r6, by rw [same_fI (e a (by omega))]; exact r7, ?_, ?_, z, ?_⟩
    · rw [same_xA (e (a + 1) (by omega)), same_xA (e (a + 2) (by omega)), same_xA (e (a + 3) (by omega))]; exact r8
    · rw [same_xA (e (a + 4) (by omega))]; exact r9
    · rw [same_xA (e (a + 6) (by omega)), same_xA (e (a + 7) (by omega))]; exact r11
  refine Go_loop (fun k L' h' => Fr (a + 5) 1 h h' ∧ (∀ i, i < 36 → xA h' (a + 5) i = ii ((if i / 6 = i % 6 ∧ i / 6 < k then 0 else 1000 : Nat) : Int)) ∧ L' = [some (.ref a), some (.int (ii k))]) 6 ?_ ?_ 0 _ _ (Nat.zero_le _) ⟨F1, fun i hi => by rw [x1 i hi, if_neg (by omega)]; rfl, rfl⟩
  · rintro k L' h' hk ⟨F, z, rfl⟩ next
    have ek : ii (k : Int) + ii 1 = ii ((k + 1 : Nat) : Int) := by rw [ii_add]; rfl
    have S' := F.1.LaS hL.1
    have r := row_ok S'.2.2.2.2.2.2.1 (show 6 * k + k < 36 by omega) (by omega)
    rw [b31_12]
    rw [if_neg (by rw [show ii 6 = ii ((6 : Nat) : Int) from rfl, ii_le (by omega) (by omega) (by omega) (by omega)]; omega)]
    simp only [LaS_ok S', LaS_fR S', true_and, six_ii, r]
    refine ⟨⟨by omega, trivial⟩, ?_⟩
    have w := fun b => sI_row (b := b) (v := ii 0) S'.2.2.2.2.2.2.1 (show 6 * k + k < 36 by omega) (by omega)
    have F2 : Fr (a + 5) 1 h' (sI h' (a + 5) (ii ((6 * k + k : Nat) : Int)) (ii 0)) := Fr.sI
    rw [ek]
    refine next _ _ ⟨F.tr F2, fun i hi => ?_, rfl⟩
    rw [w (a + 5), if_pos rfl]
    unfold upf
    by_cases g : i = 6 * k + k
    · rw [if_pos g, if_pos (by omega)]; rfl
    · rw [if_neg g, z i hi]
      by_cases g2 : i / 6 = i % 6 ∧ i / 6 < k
      · rw [if_pos g2, if_pos (by omega)]
      · rw [if_neg g2, if_neg (by omega)]
  · rintro L' h' ⟨F, z, rfl⟩
    rw [b31_12, if_pos (by decide), rV_s]
    refine hK h' F (up wy0 F (fun i hi => ?_))
    rw [z i hi]
    unfold wy0
    by_cases g : i / 6 = i % 6
    · rw [if_pos ⟨g, by omega⟩, if_pos g]
    · rw [if_neg (fun q => g q.1), if_neg g]
end La0
