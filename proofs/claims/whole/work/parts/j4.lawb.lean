/-! THE LAW: each call -/
theorem in0 : ∀ v ∈ ([] : List Value), ∃ x, v = .int x := fun v hv => by cases hv
theorem in1 {a : Int32} : ∀ v ∈ [Value.int a], ∃ x, v = .int x := fun v hv => ⟨a, List.mem_singleton.mp hv⟩
theorem inC {a : Int32} {L : List Value} (h : ∀ v ∈ L, ∃ x, v = .int x) : ∀ v ∈ Value.int a :: L, ∃ x, v = .int x := fun v hv => by
  rcases List.mem_cons.mp hv with q | q
  · exact ⟨a, q⟩
  · exact h v q
theorem vFewest_u {P : Pg} {S : List Wd} {z s r r2 : Int} (a : vFewest P S z s r) (b : vFewest P S z s r2) : r = r2 := by
  unfold vFewest at a b
  by_cases c : ((isSe S z ∧ isSa S s) ∧ 0 < ld_n (pg_l P)) ∧ bc z.toNat ≤ 12
  · rw [if_pos c] at a b
    by_cases f : flw (ld_n (pg_l P)) S z.toNat s.toNat
    · obtain ⟨T, t1, t2⟩ := a.1 f
      obtain ⟨U, u1, u2⟩ := b.1 f
      rw [t2, u2, FewIs.uniq t1 u1]
    · rw [a.2 f, b.2 f]
  · rw [if_neg c] at a b
    rw [a, b]
section Lc
variable {d n0 i : Nat} {h : mHeap} {s : Cs} {X : List Int32} {Q : Option Value → mHeap → Prop}
theorem scr {j : Nat} (h0 : h[0]? = some (mI .int X)) (hj : j < X.length) (hX : X.length ≤ 3072) : okA h 0 .int (ii (j : Nat)) ∧ eI h 0 (ii (j : Nat)) = X.getD j 0 := by
  have e : (ii (j : Nat)).toNatClampNeg = j := by rw [ix_ii (by omega) (by omega)]; rfl
  have ea : aI h 0 = X := by unfold aI; rw [h0]
  have et : aT h 0 = .int := by unfold aT; rw [h0]
  refine ⟨⟨et, ?_, by rw [e, ea]; exact hj⟩, ?_⟩
  · rw [ii_lt0 (by omega) (by omega)]; omega
  · unfold eI
    rw [e, ea]
theorem scrk {k : Nat} (h0 : h[0]? = some (mI .int X)) (hi : 6 * i + 6 ≤ X.length) (hX : X.length ≤ 3072) (hk : k < 6) : okA h 0 .int (ii ((6 * i : Nat) : Int) + ii (k : Nat)) ∧ eI h 0 (ii ((6 * i : Nat) : Int) + ii (k : Nat)) = X.getD (6 * i + k) 0 := by
  rw [show ii ((6 * i : Nat) : Int) + ii (k : Nat) = ii ((6 * i + k : Nat) : Int) from ii_add _ _]
  exact scr h0 (by omega) hX
theorem scr5 (h0 : h[0]? = some (mI .int X)) (hi : 6 * i + 6 ≤ X.length) (hX : X.length ≤ 3072) : (okA h 0 .int (ii ((6 * i : Nat) : Int) + ii 1) ∧ eI h 0 (ii ((6 * i : Nat) : Int) + ii 1) = X.getD (6 * i + 1) 0) ∧ (okA h 0 .int (ii ((6 * i : Nat) : Int) + ii 2) ∧ eI h 0 (ii ((6 * i : Nat) : Int) + ii 2) = X.getD (6 * i + 2) 0) ∧ (okA h 0 .int (ii ((6 * i : Nat) : Int) + ii 3) ∧ eI h 0 (ii ((6 * i : Nat) : Int) + ii 3) = X.getD (6 * i + 3) 0) ∧ (okA h 0 .int (ii ((6 * i : Nat) : Int) + ii 4) ∧ eI h 0 (ii ((6 * i : Nat) : Int) + ii 4) = X.getD (6 * i + 4) 0) ∧ (okA h 0 .int (ii ((6 * i : Nat) : Int) + ii 5) ∧ eI h 0 (ii ((6 * i : Nat) : Int) + ii 5) = X.getD (6 * i + 5) 0) := ⟨scrk (k := 1) h0 hi hX (by decide), scrk (k := 2) h0 hi hX (by decide), scrk (k := 3) h0 hi hX (by decide), scrk (k := 4) h0 hi hX (by decide), scrk (k := 5) h0 hi hX (by decide)⟩
theorem LW.c (hL : LW X n0 h s i) : oC h 64 = 11 ∧ TbS h ∧ PgR h 97 (cs_P s) ∧ SyR h (cs_S s) ∧ mo_f (pg_m (cs_P s)) < 256 ∧ pg_x (cs_P s) < 2147483648 := by
  obtain ⟨⟨⟨_, a2, _⟩, ⟨b1, _⟩, ⟨c1, c2, _⟩, _⟩, _⟩ := hL
  exact ⟨oC_kd a2, a2, c1, b1, c2.f8 (pg_106 c1).2.2.2, c1.2.2.2.2.2.2.2.2.2.2.2.2⟩
theorem law_196 (hL : LW X n0 h s i) (hi : 6 * i + 6 ≤ X.length) (hX : X.length ≤ 3072) (nx : ∀ h2 s', LW X n0 h2 s' (i + 1) → Go (d + 60) 328 1263 [some (.ref 0), some (.ref 64), some (.ref 148), some (.int (ii ((6 * i : Nat) : Int)))] [] h2 Q) : Go (d + 60) 328 196 [some (.ref 0), some (.ref 64), some (.ref 148), some (.int (ii ((6 * i : Nat) : Int)))] [] h Q := by
  obtain ⟨o11, hT, hP, hS, hm, hx⟩ := hL.c
  have hC := hL.1
  have S := fun (h : mHeap) (h0 : h[0]? = some (mI .int X)) => scr5 (i := i) h0 hi hX
  rw [b328_196]
  simp only [S h hL.2.2.1, o11, true_and]
  refine GoCi_mono (law_call (D := d + 60) (y := 135) (y2 := 193) (V := fun r s' => r = (aFeed (cs_B s) (cs_n s) (X.getD (6 * i + 1) 0) (X.getD (6 * i + 2) 0) (X.getD (6 * i + 3) 0) (X.getD (6 * i + 4) 0) (X.getD (6 * i + 5) 0)).1 ∧ s' = sTx s (aFeed (cs_B s) (cs_n s) (X.getD (6 * i + 1) 0) (X.getD (6 * i + 2) 0) (X.getD (6 * i + 3) 0) (X.getD (6 * i + 4) 0) (X.getD (6 * i + 5) 0)).2.1 (aFeed (cs_B s) (cs_n s) (X.getD (6 * i + 1) 0) (X.getD (6 * i + 2) 0) (X.getD (6 * i + 3) 0) (X.getD (6 * i + 4) 0) (X.getD (6 * i + 5) 0)).2.2) hL (fun K hK => c135 hC (fun h1 n => hK h1 _ _ n ⟨rfl, rfl⟩)) (fun h1 r s' hI cs v K hK => by obtain ⟨er, es⟩ := v; subst er; subst es; exact c193 hI cs hK) rfl (inC (inC (inC (inC in1))))) (fun v1 h1 ⟨⟨z1, o12⟩, g⟩ => ?_)
  simp only [S h1 z1, o12, true_and]
  refine GoCi_mono g (fun v2 h2 ⟨ev, s', L'⟩ => ?_)
  rw [if_pos ev]
  exact nx h2 s' L'
theorem law_259 (hL : LW X n0 h s i) (hi : 6 * i + 6 ≤ X.length) (hX : X.length ≤ 3072) (nx : ∀ h2 s', LW X n0 h2 s' (i + 1) → Go (d + 60) 328 1263 [some (.ref 0), some (.ref 64), some (.ref 148), some (.int (ii ((6 * i : Nat) : Int)))] [] h2 Q) : Go (d + 60) 328 259 [some (.ref 0), some (.ref 64), some (.ref 148), some (.int (ii ((6 * i : Nat) : Int)))] [] h Q := by
  obtain ⟨o11, hT, hP, hS, hm, hx⟩ := hL.c
  have hC := hL.1
  have S := fun (h : mHeap) (h0 : h[0]? = some (mI .int X)) => scr5 (i := i) h0 hi hX
  obtain ⟨x1, p1, q1, e1⟩ := ii_of (X.getD (6 * i + 1) 0)
  simp only [e1] at S
  have i1 : i32 x1 := ⟨p1, q1⟩
  rw [b328_259]
  simp only [S h hL.2.2.1, o11, true_and]
  refine GoCi_mono (law_call (D := d + 60) (y := 136) (y2 := 195) (V := fun r s' => r = (aEnd (cs_n s) x1).1 ∧ s' = (sTx s (cs_B s) (aEnd (cs_n s) x1).2)) hL (fun K hK => c136 hC i1 (fun h1 n => hK h1 _ _ n ⟨rfl, rfl⟩)) (fun h1 r s' hI cs v K hK => by obtain ⟨er, es⟩ := v; subst er; subst es; exact c195 hI cs i1 hK) rfl in1) (fun v1 h1 ⟨⟨z1, o12⟩, g⟩ => ?_)
  simp only [S h1 z1, o12, true_and]
  refine GoCi_mono g (fun v2 h2 ⟨ev, s', L'⟩ => ?_)
  rw [if_pos ev]
  exact nx h2 s' L'
theorem law_282 (hL : LW X n0 h s i) (hi : 6 * i + 6 ≤ X.length) (hX : X.length ≤ 3072) (nx : ∀ h2 s', LW X n0 h2 s' (i + 1) → Go (d + 60) 328 1263 [some (.ref 0), some (.ref 64), some (.ref 148), some (.int (ii ((6 * i : Nat) : Int)))] [] h2 Q) : Go (d + 60) 328 282 [some (.ref 0), some (.ref 64), some (.ref 148), some (.int (ii ((6 * i : Nat) : Int)))] [] h Q := by
  obtain ⟨o11, hT, hP, hS, hm, hx⟩ := hL.c
  have hC := hL.1
  have S := fun (h : mHeap) (h0 : h[0]? = some (mI .int X)) => scr5 (i := i) h0 hi hX
  rw [b328_282]
  simp only [o11, true_and]
  refine GoCi_mono (law_call (D := d + 60) (y := 137) (y2 := 226) (V := fun r s' => r = (aLand s).1 ∧ s' = (sTx (sPg s (aLand s).2) (cs_B s) 0)) hL (fun K hK => c137 hC (fun h1 n => hK h1 _ _ n ⟨rfl, rfl⟩)) (fun h1 r s' hI cs v K hK => by obtain ⟨er, es⟩ := v; subst er; subst es; exact c226 hI cs hK) rfl in0) (fun v1 h1 ⟨⟨z1, o12⟩, g⟩ => ?_)
  simp only [o12, true_and]
  refine GoCi_mono g (fun v2 h2 ⟨ev, s', L'⟩ => ?_)
  rw [if_pos ev]
  exact nx h2 s' L'
theorem law_295 (hL : LW X n0 h s i) (hi : 6 * i + 6 ≤ X.length) (hX : X.length ≤ 3072) (nx : ∀ h2 s', LW X n0 h2 s' (i + 1) → Go (d + 60) 328 1263 [some (.ref 0), some (.ref 64), some (.ref 148), some (.int (ii ((6 * i : Nat) : Int)))] [] h2 Q) : Go (d + 60) 328 295 [some (.ref 0), some (.ref 64), some (.ref 148), some (.int (ii ((6 * i : Nat) : Int)))] [] h Q := by
  obtain ⟨o11, hT, hP, hS, hm, hx⟩ := hL.c
  have hC := hL.1
  have S := fun (h : mHeap) (h0 : h[0]? = some (mI .int X)) => scr5 (i := i) h0 hi hX
  rw [b328_295]
  simp only [o11, true_and]
  refine GoCi_mono (law_call (D := d + 60) (y := 138) (y2 := 237) (V := fun r s' => aSay s r s') hL (fun K hK => c138 hC (fun h1 r s' n a => hK h1 r s' n a)) (fun h1 r s' hI cs v K hK => c237 hI cs v hK) rfl in0) (fun v1 h1 ⟨⟨z1, o12⟩, g⟩ => ?_)
  simp only [o12, true_and]
  refine GoCi_mono g (fun v2 h2 ⟨ev, s', L'⟩ => ?_)
  rw [if_pos ev]
  exact nx h2 s' L'
theorem law_308 (hL : LW X n0 h s i) (hi : 6 * i + 6 ≤ X.length) (hX : X.length ≤ 3072) (nx : ∀ h2 s', LW X n0 h2 s' (i + 1) → Go (d + 60) 328 1263 [some (.ref 0), some (.ref 64), some (.ref 148), some (.int (ii ((6 * i : Nat) : Int)))] [] h2 Q) : Go (d + 60) 328 308 [some (.ref 0), some (.ref 64), some (.ref 148), some (.int (ii ((6 * i : Nat) : Int)))] [] h Q := by
  obtain ⟨o11, hT, hP, hS, hm, hx⟩ := hL.c
  have hC := hL.1
  have S := fun (h : mHeap) (h0 : h[0]? = some (mI .int X)) => scr5 (i := i) h0 hi hX
  rw [b328_308]
  simp only [o11, true_and]
  refine GoCi_mono (law_call (D := d + 60) (y := 139) (y2 := 239) (V := fun r s' => aRul s r s') hL (fun K hK => c139 hC (fun h1 r s' n a => hK h1 r s' n a)) (fun h1 r s' hI cs v K hK => c239 hI cs v hK) rfl in0) (fun v1 h1 ⟨⟨z1, o12⟩, g⟩ => ?_)
  simp only [o12, true_and]
  refine GoCi_mono g (fun v2 h2 ⟨ev, s', L'⟩ => ?_)
  rw [if_pos ev]
  exact nx h2 s' L'
theorem law_321 (hL : LW X n0 h s i) (hi : 6 * i + 6 ≤ X.length) (hX : X.length ≤ 3072) (nx : ∀ h2 s', LW X n0 h2 s' (i + 1) → Go (d + 60) 328 1263 [some (.ref 0), some (.ref 64), some (.ref 148), some (.int (ii ((6 * i : Nat) : Int)))] [] h2 Q) : Go (d + 60) 328 321 [some (.ref 0), some (.ref 64), some (.ref 148), some (.int (ii ((6 * i : Nat) : Int)))] [] h Q := by
  obtain ⟨o11, hT, hP, hS, hm, hx⟩ := hL.c
  have hC := hL.1
  have S := fun (h : mHeap) (h0 : h[0]? = some (mI .int X)) => scr5 (i := i) h0 hi hX
  obtain ⟨x1, p1, q1, e1⟩ := ii_of (X.getD (6 * i + 1) 0)
  obtain ⟨x2, p2, q2, e2⟩ := ii_of (X.getD (6 * i + 2) 0)
  simp only [e1, e2] at S
  have i1 : i32 x1 := ⟨p1, q1⟩
  have i2 : i32 x2 := ⟨p2, q2⟩
  rw [b328_321]
  simp only [S h hL.2.2.1, o11, true_and]
  refine GoCi_mono (law_call (D := d + 60) (y := 140) (y2 := 254) (V := fun r s' => r = vPerson (cs_P s) x1 x2 ∧ s' = s) hL (fun K hK => c140 hC i1 i2 (fun h1 n => hK h1 _ _ n ⟨rfl, rfl⟩)) (fun h1 r s' hI cs v K hK => by obtain ⟨er, es⟩ := v; subst er; subst es; exact (c254 (hI.w cs) cs.1.2 i1 i2).mpr (hK h1 hI)) rfl (inC in1)) (fun v1 h1 ⟨⟨z1, o12⟩, g⟩ => ?_)
  simp only [S h1 z1, o12, true_and]
  refine GoCi_mono g (fun v2 h2 ⟨ev, s', L'⟩ => ?_)
  rw [if_pos ev]
  exact nx h2 s' L'
theorem law_354 (hL : LW X n0 h s i) (hi : 6 * i + 6 ≤ X.length) (hX : X.length ≤ 3072) (nx : ∀ h2 s', LW X n0 h2 s' (i + 1) → Go (d + 60) 328 1263 [some (.ref 0), some (.ref 64), some (.ref 148), some (.int (ii ((6 * i : Nat) : Int)))] [] h2 Q) : Go (d + 60) 328 354 [some (.ref 0), some (.ref 64), some (.ref 148), some (.int (ii ((6 * i : Nat) : Int)))] [] h Q := by
  obtain ⟨o11, hT, hP, hS, hm, hx⟩ := hL.c
  have hC := hL.1
  have S := fun (h : mHeap) (h0 : h[0]? = some (mI .int X)) => scr5 (i := i) h0 hi hX
  obtain ⟨x1, p1, q1, e1⟩ := ii_of (X.getD (6 * i + 1) 0)
  simp only [e1] at S
  have i1 : i32 x1 := ⟨p1, q1⟩
  rw [b328_354]
  simp only [S h hL.2.2.1, o11, true_and]
  refine GoCi_mono (law_call (D := d + 60) (y := 141) (y2 := 255) (V := fun r s' => r = vFact (cs_P s) x1 ∧ s' = s) hL (fun K hK => (c141 hT hP hm i1).mpr (hK h _ _ (Nx.rf hC) ⟨rfl, rfl⟩)) (fun h1 r s' hI cs v K hK => by obtain ⟨er, es⟩ := v; subst er; subst es; exact (c255 (hI.w cs) i1).mpr (hK h1 hI)) rfl in1) (fun v1 h1 ⟨⟨z1, o12⟩, g⟩ => ?_)
  simp only [S h1 z1, o12, true_and]
  refine GoCi_mono g (fun v2 h2 ⟨ev, s', L'⟩ => ?_)
  rw [if_pos ev]
  exact nx h2 s' L'
theorem law_377 (hL : LW X n0 h s i) (hi : 6 * i + 6 ≤ X.length) (hX : X.length ≤ 3072) (nx : ∀ h2 s', LW X n0 h2 s' (i + 1) → Go (d + 60) 328 1263 [some (.ref 0), some (.ref 64), some (.ref 148), some (.int (ii ((6 * i : Nat) : Int)))] [] h2 Q) : Go (d + 60) 328 377 [some (.ref 0), some (.ref 64), some (.ref 148), some (.int (ii ((6 * i : Nat) : Int)))] [] h Q := by
  obtain ⟨o11, hT, hP, hS, hm, hx⟩ := hL.c
  have hC := hL.1
  have S := fun (h : mHeap) (h0 : h[0]? = some (mI .int X)) => scr5 (i := i) h0 hi hX
  obtain ⟨x1, p1, q1, e1⟩ := ii_of (X.getD (6 * i + 1) 0)
  simp only [e1] at S
  have i1 : i32 x1 := ⟨p1, q1⟩
  rw [b328_377]
  simp only [S h hL.2.2.1, o11, true_and]
  refine GoCi_mono (law_call (D := d + 60) (y := 142) (y2 := 256) (V := fun r s' => r = vPlace (cs_P s) x1 ∧ s' = s) hL (fun K hK => (c142 hT hP i1).mpr (hK h _ _ (Nx.rf hC) ⟨rfl, rfl⟩)) (fun h1 r s' hI cs v K hK => by obtain ⟨er, es⟩ := v; subst er; subst es; exact (c256 (hI.w cs) i1).mpr (hK h1 hI)) rfl in1) (fun v1 h1 ⟨⟨z1, o12⟩, g⟩ => ?_)
  simp only [S h1 z1, o12, true_and]
  refine GoCi_mono g (fun v2 h2 ⟨ev, s', L'⟩ => ?_)
  rw [if_pos ev]
  exact nx h2 s' L'
theorem law_400 (hL : LW X n0 h s i) (hi : 6 * i + 6 ≤ X.length) (hX : X.length ≤ 3072) (nx : ∀ h2 s', LW X n0 h2 s' (i + 1) → Go (d + 60) 328 1263 [some (.ref 0), some (.ref 64), some (.ref 148), some (.int (ii ((6 * i : Nat) : Int)))] [] h2 Q) : Go (d + 60) 328 400 [some (.ref 0), some (.ref 64), some (.ref 148), some (.int (ii ((6 * i : Nat) : Int)))] [] h Q := by
  obtain ⟨o11, hT, hP, hS, hm, hx⟩ := hL.c
  have hC := hL.1
  have S := fun (h : mHeap) (h0 : h[0]? = some (mI .int X)) => scr5 (i := i) h0 hi hX
  obtain ⟨x1, p1, q1, e1⟩ := ii_of (X.getD (6 * i + 1) 0)
  obtain ⟨x2, p2, q2, e2⟩ := ii_of (X.getD (6 * i + 2) 0)
  simp only [e1, e2] at S
  have i1 : i32 x1 := ⟨p1, q1⟩
  have i2 : i32 x2 := ⟨p2, q2⟩
  rw [b328_400]
  simp only [S h hL.2.2.1, o11, true_and]
  refine GoCi_mono (law_call (D := d + 60) (y := 143) (y2 := 259) (V := fun r s' => r = vWay (cs_P s) x1 x2 ∧ s' = s) hL (fun K hK => (c143 hT hP i1 i2).mpr (hK h _ _ (Nx.rf hC) ⟨rfl, rfl⟩)) (fun h1 r s' hI cs v K hK => by obtain ⟨er, es⟩ := v; subst er; subst es; exact c259 hI cs i1 i2 hK) rfl (inC in1)) (fun v1 h1 ⟨⟨z1, o12⟩, g⟩ => ?_)
  simp only [S h1 z1, o12, true_and]
  refine GoCi_mono g (fun v2 h2 ⟨ev, s', L'⟩ => ?_)
  rw [if_pos ev]
  exact nx h2 s' L'
theorem law_433 (hL : LW X n0 h s i) (hi : 6 * i + 6 ≤ X.length) (hX : X.length ≤ 3072) (nx : ∀ h2 s', LW X n0 h2 s' (i + 1) → Go (d + 60) 328 1263 [some (.ref 0), some (.ref 64), some (.ref 148), some (.int (ii ((6 * i : Nat) : Int)))] [] h2 Q) : Go (d + 60) 328 433 [some (.ref 0), some (.ref 64), some (.ref 148), some (.int (ii ((6 * i : Nat) : Int)))] [] h Q := by
  obtain ⟨o11, hT, hP, hS, hm, hx⟩ := hL.c
  have hC := hL.1
  have S := fun (h : mHeap) (h0 : h[0]? = some (mI .int X)) => scr5 (i := i) h0 hi hX
  obtain ⟨x1, p1, q1, e1⟩ := ii_of (X.getD (6 * i + 1) 0)
  obtain ⟨x2, p2, q2, e2⟩ := ii_of (X.getD (6 * i + 2) 0)
  simp only [e1, e2] at S
  have i1 : i32 x1 := ⟨p1, q1⟩
  have i2 : i32 x2 := ⟨p2, q2⟩
  rw [b328_433]
  simp only [S h hL.2.2.1, o11, true_and]
  refine GoCi_mono (law_call (D := d + 60) (y := 144) (y2 := 260) (V := fun r s' => r = vSo (cs_P s) (cs_S s) x1 x2 ∧ s' = s) hL (fun K hK => (c144 hT hP hS i1 i2).mpr (hK h _ _ (Nx.rf hC) ⟨rfl, rfl⟩)) (fun h1 r s' hI cs v K hK => by obtain ⟨er, es⟩ := v; subst er; subst es; exact (c260 (hI.w cs) i1 i2).mpr (hK h1 hI)) rfl (inC in1)) (fun v1 h1 ⟨⟨z1, o12⟩, g⟩ => ?_)
  simp only [S h1 z1, o12, true_and]
  refine GoCi_mono g (fun v2 h2 ⟨ev, s', L'⟩ => ?_)
  rw [if_pos ev]
  exact nx h2 s' L'
theorem law_466 (hL : LW X n0 h s i) (hi : 6 * i + 6 ≤ X.length) (hX : X.length ≤ 3072) (nx : ∀ h2 s', LW X n0 h2 s' (i + 1) → Go (d + 60) 328 1263 [some (.ref 0), some (.ref 64), some (.ref 148), some (.int (ii ((6 * i : Nat) : Int)))] [] h2 Q) : Go (d + 60) 328 466 [some (.ref 0), some (.ref 64), some (.ref 148), some (.int (ii ((6 * i : Nat) : Int)))] [] h Q := by
  obtain ⟨o11, hT, hP, hS, hm, hx⟩ := hL.c
  have hC := hL.1
  have S := fun (h : mHeap) (h0 : h[0]? = some (mI .int X)) => scr5 (i := i) h0 hi hX
  obtain ⟨x1, p1, q1, e1⟩ := ii_of (X.getD (6 * i + 1) 0)
  simp only [e1] at S
  have i1 : i32 x1 := ⟨p1, q1⟩
  rw [b328_466]
  simp only [S h hL.2.2.1, o11, true_and]
  refine GoCi_mono (law_call (D := d + 60) (y := 145) (y2 := 261) (V := fun r s' => r = vTrue (cs_P s) (cs_S s) x1 ∧ s' = s) hL (fun K hK => (c145 hT hP hS hm i1).mpr (hK h _ _ (Nx.rf hC) ⟨rfl, rfl⟩)) (fun h1 r s' hI cs v K hK => by obtain ⟨er, es⟩ := v; subst er; subst es; exact (c261 (hI.w cs) i1).mpr (hK h1 hI)) rfl in1) (fun v1 h1 ⟨⟨z1, o12⟩, g⟩ => ?_)
  simp only [S h1 z1, o12, true_and]
  refine GoCi_mono g (fun v2 h2 ⟨ev, s', L'⟩ => ?_)
  rw [if_pos ev]
  exact nx h2 s' L'
theorem law_489 (hL : LW X n0 h s i) (hi : 6 * i + 6 ≤ X.length) (hX : X.length ≤ 3072) (nx : ∀ h2 s', LW X n0 h2 s' (i + 1) → Go (d + 60) 328 1263 [some (.ref 0), some (.ref 64), some (.ref 148), some (.int (ii ((6 * i : Nat) : Int)))] [] h2 Q) : Go (d + 60) 328 489 [some (.ref 0), some (.ref 64), some (.ref 148), some (.int (ii ((6 * i : Nat) : Int)))] [] h Q := by
  obtain ⟨o11, hT, hP, hS, hm, hx⟩ := hL.c
  have hC := hL.1
  have S := fun (h : mHeap) (h0 : h[0]? = some (mI .int X)) => scr5 (i := i) h0 hi hX
  obtain ⟨x1, p1, q1, e1⟩ := ii_of (X.getD (6 * i + 1) 0)
  obtain ⟨x2, p2, q2, e2⟩ := ii_of (X.getD (6 * i + 2) 0)
  simp only [e1, e2] at S
  have i1 : i32 x1 := ⟨p1, q1⟩
  have i2 : i32 x2 := ⟨p2, q2⟩
  rw [b328_489]
  simp only [S h hL.2.2.1, o11, true_and]
  refine GoCi_mono (law_call (D := d + 60) (y := 146) (y2 := 263) (V := fun r s' => r = vKnows (cs_P s) (cs_S s) x1 x2 ∧ s' = s) hL (fun K hK => (c146 hT hP hS i1 i2).mpr (hK h _ _ (Nx.rf hC) ⟨rfl, rfl⟩)) (fun h1 r s' hI cs v K hK => by obtain ⟨er, es⟩ := v; subst er; subst es; exact (c263 (hI.w cs) i1 i2).mpr (hK h1 hI)) rfl (inC in1)) (fun v1 h1 ⟨⟨z1, o12⟩, g⟩ => ?_)
  simp only [S h1 z1, o12, true_and]
  refine GoCi_mono g (fun v2 h2 ⟨ev, s', L'⟩ => ?_)
  rw [if_pos ev]
  exact nx h2 s' L'
theorem law_522 (hL : LW X n0 h s i) (hi : 6 * i + 6 ≤ X.length) (hX : X.length ≤ 3072) (nx : ∀ h2 s', LW X n0 h2 s' (i + 1) → Go (d + 60) 328 1263 [some (.ref 0), some (.ref 64), some (.ref 148), some (.int (ii ((6 * i : Nat) : Int)))] [] h2 Q) : Go (d + 60) 328 522 [some (.ref 0), some (.ref 64), some (.ref 148), some (.int (ii ((6 * i : Nat) : Int)))] [] h Q := by
  obtain ⟨o11, hT, hP, hS, hm, hx⟩ := hL.c
  have hC := hL.1
  have S := fun (h : mHeap) (h0 : h[0]? = some (mI .int X)) => scr5 (i := i) h0 hi hX
  obtain ⟨x1, p1, q1, e1⟩ := ii_of (X.getD (6 * i + 1) 0)
  obtain ⟨x2, p2, q2, e2⟩ := ii_of (X.getD (6 * i + 2) 0)
  simp only [e1, e2] at S
  have i1 : i32 x1 := ⟨p1, q1⟩
  have i2 : i32 x2 := ⟨p2, q2⟩
  rw [b328_522]
  simp only [S h hL.2.2.1, o11, true_and]
  refine GoCi_mono (law_call (D := d + 60) (y := 147) (y2 := 264) (V := fun r s' => r = vPoss (cs_P s) x1 x2 ∧ s' = s) hL (fun K hK => (c147 hT hP i1 i2).mpr (hK h _ _ (Nx.rf hC) ⟨rfl, rfl⟩)) (fun h1 r s' hI cs v K hK => by obtain ⟨er, es⟩ := v; subst er; subst es; exact (c264 (hI.w cs) i1 i2).mpr (hK h1 hI)) rfl (inC in1)) (fun v1 h1 ⟨⟨z1, o12⟩, g⟩ => ?_)
  simp only [S h1 z1, o12, true_and]
  refine GoCi_mono g (fun v2 h2 ⟨ev, s', L'⟩ => ?_)
  rw [if_pos ev]
  exact nx h2 s' L'
theorem law_555 (hL : LW X n0 h s i) (hi : 6 * i + 6 ≤ X.length) (hX : X.length ≤ 3072) (nx : ∀ h2 s', LW X n0 h2 s' (i + 1) → Go (d + 60) 328 1263 [some (.ref 0), some (.ref 64), some (.ref 148), some (.int (ii ((6 * i : Nat) : Int)))] [] h2 Q) : Go (d + 60) 328 555 [some (.ref 0), some (.ref 64), some (.ref 148), some (.int (ii ((6 * i : Nat) : Int)))] [] h Q := by
  obtain ⟨o11, hT, hP, hS, hm, hx⟩ := hL.c
  have hC := hL.1
  have S := fun (h : mHeap) (h0 : h[0]? = some (mI .int X)) => scr5 (i := i) h0 hi hX
  obtain ⟨x1, p1, q1, e1⟩ := ii_of (X.getD (6 * i + 1) 0)
  simp only [e1] at S
  have i1 : i32 x1 := ⟨p1, q1⟩
  rw [b328_555]
  simp only [S h hL.2.2.1, o11, true_and]
  refine GoCi_mono (law_call (D := d + 60) (y := 148) (y2 := 265) (V := fun r s' => r = vGain (cs_P s) (cs_S s) x1 ∧ s' = s) hL (fun K hK => (c148 hT hP hS i1).mpr (hK h _ _ (Nx.rf hC) ⟨rfl, rfl⟩)) (fun h1 r s' hI cs v K hK => by obtain ⟨er, es⟩ := v; subst er; subst es; exact (c265 (hI.w cs) i1).mpr (hK h1 hI)) rfl in1) (fun v1 h1 ⟨⟨z1, o12⟩, g⟩ => ?_)
  simp only [S h1 z1, o12, true_and]
  refine GoCi_mono g (fun v2 h2 ⟨ev, s', L'⟩ => ?_)
  rw [if_pos ev]
  exact nx h2 s' L'
theorem law_578 (hL : LW X n0 h s i) (hi : 6 * i + 6 ≤ X.length) (hX : X.length ≤ 3072) (nx : ∀ h2 s', LW X n0 h2 s' (i + 1) → Go (d + 60) 328 1263 [some (.ref 0), some (.ref 64), some (.ref 148), some (.int (ii ((6 * i : Nat) : Int)))] [] h2 Q) : Go (d + 60) 328 578 [some (.ref 0), some (.ref 64), some (.ref 148), some (.int (ii ((6 * i : Nat) : Int)))] [] h Q := by
  obtain ⟨o11, hT, hP, hS, hm, hx⟩ := hL.c
  have hC := hL.1
  have S := fun (h : mHeap) (h0 : h[0]? = some (mI .int X)) => scr5 (i := i) h0 hi hX
  obtain ⟨x1, p1, q1, e1⟩ := ii_of (X.getD (6 * i + 1) 0)
  simp only [e1] at S
  have i1 : i32 x1 := ⟨p1, q1⟩
  rw [b328_578]
  simp only [S h hL.2.2.1, o11, true_and]
  refine GoCi_mono (law_call (D := d + 60) (y := 149) (y2 := 266) (V := fun r s' => r = vShown (cs_P s) (cs_S s) x1 ∧ s' = s) hL (fun K hK => (c149 hT hP hS i1).mpr (hK h _ _ (Nx.rf hC) ⟨rfl, rfl⟩)) (fun h1 r s' hI cs v K hK => by obtain ⟨er, es⟩ := v; subst er; subst es; exact (c266 (hI.w cs) i1).mpr (hK h1 hI)) rfl in1) (fun v1 h1 ⟨⟨z1, o12⟩, g⟩ => ?_)
  simp only [S h1 z1, o12, true_and]
  refine GoCi_mono g (fun v2 h2 ⟨ev, s', L'⟩ => ?_)
  rw [if_pos ev]
  exact nx h2 s' L'
theorem law_601 (hL : LW X n0 h s i) (hi : 6 * i + 6 ≤ X.length) (hX : X.length ≤ 3072) (nx : ∀ h2 s', LW X n0 h2 s' (i + 1) → Go (d + 60) 328 1263 [some (.ref 0), some (.ref 64), some (.ref 148), some (.int (ii ((6 * i : Nat) : Int)))] [] h2 Q) : Go (d + 60) 328 601 [some (.ref 0), some (.ref 64), some (.ref 148), some (.int (ii ((6 * i : Nat) : Int)))] [] h Q := by
  obtain ⟨o11, hT, hP, hS, hm, hx⟩ := hL.c
  have hC := hL.1
  have S := fun (h : mHeap) (h0 : h[0]? = some (mI .int X)) => scr5 (i := i) h0 hi hX
  obtain ⟨x1, p1, q1, e1⟩ := ii_of (X.getD (6 * i + 1) 0)
  obtain ⟨x2, p2, q2, e2⟩ := ii_of (X.getD (6 * i + 2) 0)
  simp only [e1, e2] at S
  have i1 : i32 x1 := ⟨p1, q1⟩
  have i2 : i32 x2 := ⟨p2, q2⟩
  rw [b328_601]
  simp only [S h hL.2.2.1, o11, true_and]
  refine GoCi_mono (law_call (D := d + 60) (y := 150) (y2 := 273) (V := fun r s' => r = (aCross (cs_P s) (cs_S s) x1 x2).1 ∧ s' = (sPg s (aCross (cs_P s) (cs_S s) x1 x2).2)) hL (fun K hK => c150 hC i1 i2 (fun h1 n => hK h1 _ _ n ⟨rfl, rfl⟩)) (fun h1 r s' hI cs v K hK => by obtain ⟨er, es⟩ := v; subst er; subst es; exact c273 hI cs i1 i2 hK) rfl (inC in1)) (fun v1 h1 ⟨⟨z1, o12⟩, g⟩ => ?_)
  simp only [S h1 z1, o12, true_and]
  refine GoCi_mono g (fun v2 h2 ⟨ev, s', L'⟩ => ?_)
  rw [if_pos ev]
  exact nx h2 s' L'
theorem law_634 (hL : LW X n0 h s i) (hi : 6 * i + 6 ≤ X.length) (hX : X.length ≤ 3072) (nx : ∀ h2 s', LW X n0 h2 s' (i + 1) → Go (d + 60) 328 1263 [some (.ref 0), some (.ref 64), some (.ref 148), some (.int (ii ((6 * i : Nat) : Int)))] [] h2 Q) : Go (d + 60) 328 634 [some (.ref 0), some (.ref 64), some (.ref 148), some (.int (ii ((6 * i : Nat) : Int)))] [] h Q := by
  obtain ⟨o11, hT, hP, hS, hm, hx⟩ := hL.c
  have hC := hL.1
  have S := fun (h : mHeap) (h0 : h[0]? = some (mI .int X)) => scr5 (i := i) h0 hi hX
  obtain ⟨x1, p1, q1, e1⟩ := ii_of (X.getD (6 * i + 1) 0)
  obtain ⟨x2, p2, q2, e2⟩ := ii_of (X.getD (6 * i + 2) 0)
  obtain ⟨x3, p3, q3, e3⟩ := ii_of (X.getD (6 * i + 3) 0)
  simp only [e1, e2, e3] at S
  have i1 : i32 x1 := ⟨p1, q1⟩
  have i2 : i32 x2 := ⟨p2, q2⟩
  have i3 : i32 x3 := ⟨p3, q3⟩
  rw [b328_634]
  simp only [S h hL.2.2.1, o11, true_and]
  refine GoCi_mono (law_call (D := d + 60) (y := 151) (y2 := 274) (V := fun r s' => r = (aTell (cs_P s) (cs_S s) x1 x2 x3).1 ∧ s' = (sPg s (aTell (cs_P s) (cs_S s) x1 x2 x3).2)) hL (fun K hK => c151 hC i1 i2 i3 (fun h1 n => hK h1 _ _ n ⟨rfl, rfl⟩)) (fun h1 r s' hI cs v K hK => by obtain ⟨er, es⟩ := v; subst er; subst es; exact c274 hI cs i1 i2 i3 hK) rfl (inC (inC in1))) (fun v1 h1 ⟨⟨z1, o12⟩, g⟩ => ?_)
  simp only [S h1 z1, o12, true_and]
  refine GoCi_mono g (fun v2 h2 ⟨ev, s', L'⟩ => ?_)
  rw [if_pos ev]
  exact nx h2 s' L'
theorem law_677 (hL : LW X n0 h s i) (hi : 6 * i + 6 ≤ X.length) (hX : X.length ≤ 3072) (nx : ∀ h2 s', LW X n0 h2 s' (i + 1) → Go (d + 60) 328 1263 [some (.ref 0), some (.ref 64), some (.ref 148), some (.int (ii ((6 * i : Nat) : Int)))] [] h2 Q) : Go (d + 60) 328 677 [some (.ref 0), some (.ref 64), some (.ref 148), some (.int (ii ((6 * i : Nat) : Int)))] [] h Q := by
  obtain ⟨o11, hT, hP, hS, hm, hx⟩ := hL.c
  have hC := hL.1
  have S := fun (h : mHeap) (h0 : h[0]? = some (mI .int X)) => scr5 (i := i) h0 hi hX
  obtain ⟨x1, p1, q1, e1⟩ := ii_of (X.getD (6 * i + 1) 0)
  obtain ⟨x2, p2, q2, e2⟩ := ii_of (X.getD (6 * i + 2) 0)
  simp only [e1, e2] at S
  have i1 : i32 x1 := ⟨p1, q1⟩
  have i2 : i32 x2 := ⟨p2, q2⟩
  rw [b328_677]
  simp only [S h hL.2.2.1, o11, true_and]
  refine GoCi_mono (law_call (D := d + 60) (y := 152) (y2 := 275) (V := fun r s' => r = (aLook (cs_P s) x1 x2).1 ∧ s' = (sPg s (aLook (cs_P s) x1 x2).2)) hL (fun K hK => c152 hC i1 i2 (fun h1 n => hK h1 _ _ n ⟨rfl, rfl⟩)) (fun h1 r s' hI cs v K hK => by obtain ⟨er, es⟩ := v; subst er; subst es; exact c275 hI cs i1 i2 hK) rfl (inC in1)) (fun v1 h1 ⟨⟨z1, o12⟩, g⟩ => ?_)
  simp only [S h1 z1, o12, true_and]
  refine GoCi_mono g (fun v2 h2 ⟨ev, s', L'⟩ => ?_)
  rw [if_pos ev]
  exact nx h2 s' L'
theorem law_710 (hL : LW X n0 h s i) (hi : 6 * i + 6 ≤ X.length) (hX : X.length ≤ 3072) (nx : ∀ h2 s', LW X n0 h2 s' (i + 1) → Go (d + 60) 328 1263 [some (.ref 0), some (.ref 64), some (.ref 148), some (.int (ii ((6 * i : Nat) : Int)))] [] h2 Q) : Go (d + 60) 328 710 [some (.ref 0), some (.ref 64), some (.ref 148), some (.int (ii ((6 * i : Nat) : Int)))] [] h Q := by
  obtain ⟨o11, hT, hP, hS, hm, hx⟩ := hL.c
  have hC := hL.1
  have S := fun (h : mHeap) (h0 : h[0]? = some (mI .int X)) => scr5 (i := i) h0 hi hX
  rw [b328_710]
  simp only [o11, true_and]
  refine GoCi_mono (law_call (D := d + 60) (y := 153) (y2 := 278) (V := fun r s' => r = (aMid (cs_P s)).1 ∧ s' = (sPg s (aMid (cs_P s)).2)) hL (fun K hK => c153 hC (fun h1 n => hK h1 _ _ n ⟨rfl, rfl⟩)) (fun h1 r s' hI cs v K hK => by obtain ⟨er, es⟩ := v; subst er; subst es; exact c278 hI cs hK) rfl in0) (fun v1 h1 ⟨⟨z1, o12⟩, g⟩ => ?_)
  simp only [o12, true_and]
  refine GoCi_mono g (fun v2 h2 ⟨ev, s', L'⟩ => ?_)
  rw [if_pos ev]
  exact nx h2 s' L'
theorem law_723 (hL : LW X n0 h s i) (hi : 6 * i + 6 ≤ X.length) (hX : X.length ≤ 3072) (nx : ∀ h2 s', LW X n0 h2 s' (i + 1) → Go (d + 60) 328 1263 [some (.ref 0), some (.ref 64), some (.ref 148), some (.int (ii ((6 * i : Nat) : Int)))] [] h2 Q) : Go (d + 60) 328 723 [some (.ref 0), some (.ref 64), some (.ref 148), some (.int (ii ((6 * i : Nat) : Int)))] [] h Q := by
  obtain ⟨o11, hT, hP, hS, hm, hx⟩ := hL.c
  have hC := hL.1
  have S := fun (h : mHeap) (h0 : h[0]? = some (mI .int X)) => scr5 (i := i) h0 hi hX
  rw [b328_723]
  simp only [o11, true_and]
  refine GoCi_mono (law_call (D := d + 60) (y := 154) (y2 := 271) (V := fun r s' => r = (aUndo (cs_P s)).1 ∧ s' = (sPg s (aUndo (cs_P s)).2)) hL (fun K hK => c154 hC (fun h1 n => hK h1 _ _ n ⟨rfl, rfl⟩)) (fun h1 r s' hI cs v K hK => by obtain ⟨er, es⟩ := v; subst er; subst es; exact c271 hI cs hK) rfl in0) (fun v1 h1 ⟨⟨z1, o12⟩, g⟩ => ?_)
  simp only [o12, true_and]
  refine GoCi_mono g (fun v2 h2 ⟨ev, s', L'⟩ => ?_)
  rw [if_pos ev]
  exact nx h2 s' L'
theorem law_736 (hL : LW X n0 h s i) (hi : 6 * i + 6 ≤ X.length) (hX : X.length ≤ 3072) (nx : ∀ h2 s', LW X n0 h2 s' (i + 1) → Go (d + 60) 328 1263 [some (.ref 0), some (.ref 64), some (.ref 148), some (.int (ii ((6 * i : Nat) : Int)))] [] h2 Q) : Go (d + 60) 328 736 [some (.ref 0), some (.ref 64), some (.ref 148), some (.int (ii ((6 * i : Nat) : Int)))] [] h Q := by
  obtain ⟨o11, hT, hP, hS, hm, hx⟩ := hL.c
  have hC := hL.1
  have S := fun (h : mHeap) (h0 : h[0]? = some (mI .int X)) => scr5 (i := i) h0 hi hX
  obtain ⟨x1, p1, q1, e1⟩ := ii_of (X.getD (6 * i + 1) 0)
  obtain ⟨x2, p2, q2, e2⟩ := ii_of (X.getD (6 * i + 2) 0)
  simp only [e1, e2] at S
  have i1 : i32 x1 := ⟨p1, q1⟩
  have i2 : i32 x2 := ⟨p2, q2⟩
  rw [b328_736]
  simp only [S h hL.2.2.1, o11, true_and]
  refine GoCi_mono (law_call (D := d + 60) (y := 155) (y2 := 282) (V := fun r s' => r = (aRun s x1 x2).1 ∧ s' = (sPg s (aRun s x1 x2).2)) hL (fun K hK => c155 hC i1 i2 (fun h1 n => hK h1 _ _ n ⟨rfl, rfl⟩)) (fun h1 r s' hI cs v K hK => by obtain ⟨er, es⟩ := v; subst er; subst es; exact c282 hI cs i1 i2 hK) rfl (inC in1)) (fun v1 h1 ⟨⟨z1, o12⟩, g⟩ => ?_)
  simp only [S h1 z1, o12, true_and]
  refine GoCi_mono g (fun v2 h2 ⟨ev, s', L'⟩ => ?_)
  rw [if_pos ev]
  exact nx h2 s' L'
theorem law_769 (hL : LW X n0 h s i) (hi : 6 * i + 6 ≤ X.length) (hX : X.length ≤ 3072) (nx : ∀ h2 s', LW X n0 h2 s' (i + 1) → Go (d + 60) 328 1263 [some (.ref 0), some (.ref 64), some (.ref 148), some (.int (ii ((6 * i : Nat) : Int)))] [] h2 Q) : Go (d + 60) 328 769 [some (.ref 0), some (.ref 64), some (.ref 148), some (.int (ii ((6 * i : Nat) : Int)))] [] h Q := by
  obtain ⟨o11, hT, hP, hS, hm, hx⟩ := hL.c
  have hC := hL.1
  have S := fun (h : mHeap) (h0 : h[0]? = some (mI .int X)) => scr5 (i := i) h0 hi hX
  obtain ⟨x1, p1, q1, e1⟩ := ii_of (X.getD (6 * i + 1) 0)
  obtain ⟨x2, p2, q2, e2⟩ := ii_of (X.getD (6 * i + 2) 0)
  simp only [e1, e2] at S
  have i1 : i32 x1 := ⟨p1, q1⟩
  have i2 : i32 x2 := ⟨p2, q2⟩
  rw [b328_769]
  simp only [S h hL.2.2.1, o11, true_and]
  refine GoCi_mono (law_call (D := d + 60) (y := 156) (y2 := 285) (V := fun r s' => r = vFollows (cs_P s) (cs_S s) x1 x2 ∧ s' = s) hL (fun K hK => c156 hC i1 i2 (fun h1 n => hK h1 _ _ n ⟨rfl, rfl⟩)) (fun h1 r s' hI cs v K hK => by obtain ⟨er, es⟩ := v; subst er; subst es; exact (c285 (hI.w cs) i1 i2).mpr (hK h1 hI)) rfl (inC in1)) (fun v1 h1 ⟨⟨z1, o12⟩, g⟩ => ?_)
  simp only [S h1 z1, o12, true_and]
  refine GoCi_mono g (fun v2 h2 ⟨ev, s', L'⟩ => ?_)
  rw [if_pos ev]
  exact nx h2 s' L'
theorem law_802 (hL : LW X n0 h s i) (hi : 6 * i + 6 ≤ X.length) (hX : X.length ≤ 3072) (nx : ∀ h2 s', LW X n0 h2 s' (i + 1) → Go (d + 60) 328 1263 [some (.ref 0), some (.ref 64), some (.ref 148), some (.int (ii ((6 * i : Nat) : Int)))] [] h2 Q) : Go (d + 60) 328 802 [some (.ref 0), some (.ref 64), some (.ref 148), some (.int (ii ((6 * i : Nat) : Int)))] [] h Q := by
  obtain ⟨o11, hT, hP, hS, hm, hx⟩ := hL.c
  have hC := hL.1
  have S := fun (h : mHeap) (h0 : h[0]? = some (mI .int X)) => scr5 (i := i) h0 hi hX
  obtain ⟨x1, p1, q1, e1⟩ := ii_of (X.getD (6 * i + 1) 0)
  obtain ⟨x2, p2, q2, e2⟩ := ii_of (X.getD (6 * i + 2) 0)
  simp only [e1, e2] at S
  have i1 : i32 x1 := ⟨p1, q1⟩
  have i2 : i32 x2 := ⟨p2, q2⟩
  rw [b328_802]
  simp only [S h hL.2.2.1, o11, true_and]
  refine GoCi_mono (law_call (D := d + 60) (y := 157) (y2 := 286) (V := fun r s' => vFewest (cs_P s) (cs_S s) x1 x2 r ∧ s' = s) hL (fun K hK => c157 hC i1 i2 (fun h1 r n f => hK h1 r s n ⟨f, rfl⟩)) (fun h1 r s' hI cs v K hK => by obtain ⟨f, es⟩ := v; subst es; exact c286 (hI.w cs) i1 i2 (fun r2 f2 => by rw [vFewest_u f2 f]; exact hK h1 hI)) rfl (inC in1)) (fun v1 h1 ⟨⟨z1, o12⟩, g⟩ => ?_)
  simp only [S h1 z1, o12, true_and]
  refine GoCi_mono g (fun v2 h2 ⟨ev, s', L'⟩ => ?_)
  rw [if_pos ev]
  exact nx h2 s' L'
theorem law_835 (hL : LW X n0 h s i) (hi : 6 * i + 6 ≤ X.length) (hX : X.length ≤ 3072) (nx : ∀ h2 s', LW X n0 h2 s' (i + 1) → Go (d + 60) 328 1263 [some (.ref 0), some (.ref 64), some (.ref 148), some (.int (ii ((6 * i : Nat) : Int)))] [] h2 Q) : Go (d + 60) 328 835 [some (.ref 0), some (.ref 64), some (.ref 148), some (.int (ii ((6 * i : Nat) : Int)))] [] h Q := by
  obtain ⟨o11, hT, hP, hS, hm, hx⟩ := hL.c
  have hC := hL.1
  have S := fun (h : mHeap) (h0 : h[0]? = some (mI .int X)) => scr5 (i := i) h0 hi hX
  obtain ⟨x1, p1, q1, e1⟩ := ii_of (X.getD (6 * i + 1) 0)
  obtain ⟨x2, p2, q2, e2⟩ := ii_of (X.getD (6 * i + 2) 0)
  simp only [e1, e2] at S
  have i1 : i32 x1 := ⟨p1, q1⟩
  have i2 : i32 x2 := ⟨p2, q2⟩
  rw [b328_835]
  simp only [S h hL.2.2.1, o11, true_and]
  refine GoCi_mono (law_call (D := d + 60) (y := 158) (y2 := 287) (V := fun r s' => r = vOpp (cs_P s) (cs_S s) x1 x2 ∧ s' = s) hL (fun K hK => c158 hC i1 i2 (fun h1 n => hK h1 _ _ n ⟨rfl, rfl⟩)) (fun h1 r s' hI cs v K hK => by obtain ⟨er, es⟩ := v; subst er; subst es; exact (c287 (hI.w cs) i1 i2).mpr (hK h1 hI)) rfl (inC in1)) (fun v1 h1 ⟨⟨z1, o12⟩, g⟩ => ?_)
  simp only [S h1 z1, o12, true_and]
  refine GoCi_mono g (fun v2 h2 ⟨ev, s', L'⟩ => ?_)
  rw [if_pos ev]
  exact nx h2 s' L'
theorem law_868 (hL : LW X n0 h s i) (hi : 6 * i + 6 ≤ X.length) (hX : X.length ≤ 3072) (nx : ∀ h2 s', LW X n0 h2 s' (i + 1) → Go (d + 60) 328 1263 [some (.ref 0), some (.ref 64), some (.ref 148), some (.int (ii ((6 * i : Nat) : Int)))] [] h2 Q) : Go (d + 60) 328 868 [some (.ref 0), some (.ref 64), some (.ref 148), some (.int (ii ((6 * i : Nat) : Int)))] [] h Q := by
  obtain ⟨o11, hT, hP, hS, hm, hx⟩ := hL.c
  have hC := hL.1
  have S := fun (h : mHeap) (h0 : h[0]? = some (mI .int X)) => scr5 (i := i) h0 hi hX
  obtain ⟨x1, p1, q1, e1⟩ := ii_of (X.getD (6 * i + 1) 0)
  obtain ⟨x2, p2, q2, e2⟩ := ii_of (X.getD (6 * i + 2) 0)
  simp only [e1, e2] at S
  have i1 : i32 x1 := ⟨p1, q1⟩
  have i2 : i32 x2 := ⟨p2, q2⟩
  rw [b328_868]
  simp only [S h hL.2.2.1, o11, true_and]
  refine GoCi_mono (law_call (D := d + 60) (y := 159) (y2 := 288) (V := fun r s' => r = vWhen (cs_P s) (cs_S s) x1 x2 ∧ s' = s) hL (fun K hK => c159 hC i1 i2 (fun h1 n => hK h1 _ _ n ⟨rfl, rfl⟩)) (fun h1 r s' hI cs v K hK => by obtain ⟨er, es⟩ := v; subst er; subst es; exact (c288 (hI.w cs) i1 i2).mpr (hK h1 hI)) rfl (inC in1)) (fun v1 h1 ⟨⟨z1, o12⟩, g⟩ => ?_)
  simp only [S h1 z1, o12, true_and]
  refine GoCi_mono g (fun v2 h2 ⟨ev, s', L'⟩ => ?_)
  rw [if_pos ev]
  exact nx h2 s' L'
theorem law_901 (hL : LW X n0 h s i) (hi : 6 * i + 6 ≤ X.length) (hX : X.length ≤ 3072) (nx : ∀ h2 s', LW X n0 h2 s' (i + 1) → Go (d + 60) 328 1263 [some (.ref 0), some (.ref 64), some (.ref 148), some (.int (ii ((6 * i : Nat) : Int)))] [] h2 Q) : Go (d + 60) 328 901 [some (.ref 0), some (.ref 64), some (.ref 148), some (.int (ii ((6 * i : Nat) : Int)))] [] h Q := by
  obtain ⟨o11, hT, hP, hS, hm, hx⟩ := hL.c
  have hC := hL.1
  have S := fun (h : mHeap) (h0 : h[0]? = some (mI .int X)) => scr5 (i := i) h0 hi hX
  obtain ⟨x1, p1, q1, e1⟩ := ii_of (X.getD (6 * i + 1) 0)
  obtain ⟨x2, p2, q2, e2⟩ := ii_of (X.getD (6 * i + 2) 0)
  simp only [e1, e2] at S
  have i1 : i32 x1 := ⟨p1, q1⟩
  have i2 : i32 x2 := ⟨p2, q2⟩
  rw [b328_901]
  simp only [S h hL.2.2.1, o11, true_and]
  refine GoCi_mono (law_call (D := d + 60) (y := 160) (y2 := 293) (V := fun r s' => r = vLeast (cs_P s) (cs_S s) x1 x2 ∧ s' = s) hL (fun K hK => c160 hC i1 i2 (fun h1 n => hK h1 _ _ n ⟨rfl, rfl⟩)) (fun h1 r s' hI cs v K hK => by obtain ⟨er, es⟩ := v; subst er; subst es; exact c293 hI cs i1 i2 hK) rfl (inC in1)) (fun v1 h1 ⟨⟨z1, o12⟩, g⟩ => ?_)
  simp only [S h1 z1, o12, true_and]
  refine GoCi_mono g (fun v2 h2 ⟨ev, s', L'⟩ => ?_)
  rw [if_pos ev]
  exact nx h2 s' L'
theorem law_934 (hL : LW X n0 h s i) (hi : 6 * i + 6 ≤ X.length) (hX : X.length ≤ 3072) (nx : ∀ h2 s', LW X n0 h2 s' (i + 1) → Go (d + 60) 328 1263 [some (.ref 0), some (.ref 64), some (.ref 148), some (.int (ii ((6 * i : Nat) : Int)))] [] h2 Q) : Go (d + 60) 328 934 [some (.ref 0), some (.ref 64), some (.ref 148), some (.int (ii ((6 * i : Nat) : Int)))] [] h Q := by
  obtain ⟨o11, hT, hP, hS, hm, hx⟩ := hL.c
  have hC := hL.1
  have S := fun (h : mHeap) (h0 : h[0]? = some (mI .int X)) => scr5 (i := i) h0 hi hX
  obtain ⟨x1, p1, q1, e1⟩ := ii_of (X.getD (6 * i + 1) 0)
  obtain ⟨x2, p2, q2, e2⟩ := ii_of (X.getD (6 * i + 2) 0)
  simp only [e1, e2] at S
  have i1 : i32 x1 := ⟨p1, q1⟩
  have i2 : i32 x2 := ⟨p2, q2⟩
  rw [b328_934]
  simp only [S h hL.2.2.1, o11, true_and]
  refine GoCi_mono (law_call (D := d + 60) (y := 161) (y2 := 298) (V := fun r s' => r = vPlan (cs_P s) (cs_S s) x1 x2 ∧ s' = s) hL (fun K hK => c161 hC i1 i2 (fun h1 n => hK h1 _ _ n ⟨rfl, rfl⟩)) (fun h1 r s' hI cs v K hK => by obtain ⟨er, es⟩ := v; subst er; subst es; exact c298 hI cs i1 i2 hK) rfl (inC in1)) (fun v1 h1 ⟨⟨z1, o12⟩, g⟩ => ?_)
  simp only [S h1 z1, o12, true_and]
  refine GoCi_mono g (fun v2 h2 ⟨ev, s', L'⟩ => ?_)
  rw [if_pos ev]
  exact nx h2 s' L'
theorem law_967 (hL : LW X n0 h s i) (hi : 6 * i + 6 ≤ X.length) (hX : X.length ≤ 3072) (nx : ∀ h2 s', LW X n0 h2 s' (i + 1) → Go (d + 60) 328 1263 [some (.ref 0), some (.ref 64), some (.ref 148), some (.int (ii ((6 * i : Nat) : Int)))] [] h2 Q) : Go (d + 60) 328 967 [some (.ref 0), some (.ref 64), some (.ref 148), some (.int (ii ((6 * i : Nat) : Int)))] [] h Q := by
  obtain ⟨o11, hT, hP, hS, hm, hx⟩ := hL.c
  have hC := hL.1
  have S := fun (h : mHeap) (h0 : h[0]? = some (mI .int X)) => scr5 (i := i) h0 hi hX
  obtain ⟨x1, p1, q1, e1⟩ := ii_of (X.getD (6 * i + 1) 0)
  obtain ⟨x2, p2, q2, e2⟩ := ii_of (X.getD (6 * i + 2) 0)
  simp only [e1, e2] at S
  have i1 : i32 x1 := ⟨p1, q1⟩
  have i2 : i32 x2 := ⟨p2, q2⟩
  rw [b328_967]
  simp only [S h hL.2.2.1, o11, true_and]
  refine GoCi_mono (law_call (D := d + 60) (y := 162) (y2 := 301) (V := fun r s' => r = vWalk (cs_P s) (cs_S s) x1 x2 ∧ s' = s) hL (fun K hK => c162 hC i1 i2 (fun h1 n => hK h1 _ _ n ⟨rfl, rfl⟩)) (fun h1 r s' hI cs v K hK => by obtain ⟨er, es⟩ := v; subst er; subst es; exact c301 hI cs i1 i2 hK) rfl (inC in1)) (fun v1 h1 ⟨⟨z1, o12⟩, g⟩ => ?_)
  simp only [S h1 z1, o12, true_and]
  refine GoCi_mono g (fun v2 h2 ⟨ev, s', L'⟩ => ?_)
  rw [if_pos ev]
  exact nx h2 s' L'
theorem law_1000 (hL : LW X n0 h s i) (hi : 6 * i + 6 ≤ X.length) (hX : X.length ≤ 3072) (nx : ∀ h2 s', LW X n0 h2 s' (i + 1) → Go (d + 60) 328 1263 [some (.ref 0), some (.ref 64), some (.ref 148), some (.int (ii ((6 * i : Nat) : Int)))] [] h2 Q) : Go (d + 60) 328 1000 [some (.ref 0), some (.ref 64), some (.ref 148), some (.int (ii ((6 * i : Nat) : Int)))] [] h Q := by
  obtain ⟨o11, hT, hP, hS, hm, hx⟩ := hL.c
  have hC := hL.1
  have S := fun (h : mHeap) (h0 : h[0]? = some (mI .int X)) => scr5 (i := i) h0 hi hX
  obtain ⟨x1, p1, q1, e1⟩ := ii_of (X.getD (6 * i + 1) 0)
  obtain ⟨x2, p2, q2, e2⟩ := ii_of (X.getD (6 * i + 2) 0)
  simp only [e1, e2] at S
  have i1 : i32 x1 := ⟨p1, q1⟩
  have i2 : i32 x2 := ⟨p2, q2⟩
  rw [b328_1000]
  simp only [S h hL.2.2.1, o11, true_and]
  refine GoCi_mono (law_call (D := d + 60) (y := 163) (y2 := 302) (V := fun r s' => r = vBought (cs_P s) (cs_S s) x1 x2 ∧ s' = s) hL (fun K hK => c163 hC i1 i2 (fun h1 n => hK h1 _ _ n ⟨rfl, rfl⟩)) (fun h1 r s' hI cs v K hK => by obtain ⟨er, es⟩ := v; subst er; subst es; exact c302 hI cs i1 i2 hK) rfl (inC in1)) (fun v1 h1 ⟨⟨z1, o12⟩, g⟩ => ?_)
  simp only [S h1 z1, o12, true_and]
  refine GoCi_mono g (fun v2 h2 ⟨ev, s', L'⟩ => ?_)
  rw [if_pos ev]
  exact nx h2 s' L'
theorem law_1033 (hL : LW X n0 h s i) (hi : 6 * i + 6 ≤ X.length) (hX : X.length ≤ 3072) (nx : ∀ h2 s', LW X n0 h2 s' (i + 1) → Go (d + 60) 328 1263 [some (.ref 0), some (.ref 64), some (.ref 148), some (.int (ii ((6 * i : Nat) : Int)))] [] h2 Q) : Go (d + 60) 328 1033 [some (.ref 0), some (.ref 64), some (.ref 148), some (.int (ii ((6 * i : Nat) : Int)))] [] h Q := by
  obtain ⟨o11, hT, hP, hS, hm, hx⟩ := hL.c
  have hC := hL.1
  have S := fun (h : mHeap) (h0 : h[0]? = some (mI .int X)) => scr5 (i := i) h0 hi hX
  obtain ⟨x1, p1, q1, e1⟩ := ii_of (X.getD (6 * i + 1) 0)
  obtain ⟨x2, p2, q2, e2⟩ := ii_of (X.getD (6 * i + 2) 0)
  simp only [e1, e2] at S
  have i1 : i32 x1 := ⟨p1, q1⟩
  have i2 : i32 x2 := ⟨p2, q2⟩
  have T := fun (f : Bool) => law_call (D := d + 60) (y := 164) (y2 := 303) (as := [.int (ii x1), .int (if f = true then ii 1 else ii 0)]) (V := fun r s' => r = (aTri (cs_P s) (cs_S s) x1 f).1 ∧ s' = sPg s (aTri (cs_P s) (cs_S s) x1 f).2) hL (fun K hK => c164 hC i1 (fun h1 n => hK h1 _ _ n ⟨rfl, rfl⟩)) (fun h1 r s' hI cs v K hK => by obtain ⟨er, es⟩ := v; subst er; subst es; exact c303 hI cs i1 hK) rfl (inC in1)
  rw [b328_1033]
  simp only [S h hL.2.2.1, true_and]
  by_cases c : ii x2 = ii 0
  · have T := T false
    rw [if_neg Bool.false_ne_true] at T
    rw [if_pos c, b328_1052]
    refine ⟨o11, GoCi_mono T (fun v1 h1 ⟨⟨z1, o12⟩, g⟩ => ?_)⟩
    simp only [S h1 z1, true_and]
    rw [if_pos c, b328_1074]
    refine ⟨o12, GoCi_mono g (fun v2 h2 ⟨ev, s', L'⟩ => ?_)⟩
    rw [if_pos ev]
    exact nx h2 s' L'
  · have T := T true
    rw [if_pos rfl] at T
    rw [if_neg c, b328_1052]
    refine ⟨o11, GoCi_mono T (fun v1 h1 ⟨⟨z1, o12⟩, g⟩ => ?_)⟩
    simp only [S h1 z1, true_and]
    rw [if_neg c, b328_1074]
    refine ⟨o12, GoCi_mono g (fun v2 h2 ⟨ev, s', L'⟩ => ?_)⟩
    rw [if_pos ev]
    exact nx h2 s' L'
theorem law_1082 (hL : LW X n0 h s i) (hi : 6 * i + 6 ≤ X.length) (hX : X.length ≤ 3072) (nx : ∀ h2 s', LW X n0 h2 s' (i + 1) → Go (d + 60) 328 1263 [some (.ref 0), some (.ref 64), some (.ref 148), some (.int (ii ((6 * i : Nat) : Int)))] [] h2 Q) : Go (d + 60) 328 1082 [some (.ref 0), some (.ref 64), some (.ref 148), some (.int (ii ((6 * i : Nat) : Int)))] [] h Q := by
  obtain ⟨o11, hT, hP, hS, hm, hx⟩ := hL.c
  have hC := hL.1
  have S := fun (h : mHeap) (h0 : h[0]? = some (mI .int X)) => scr5 (i := i) h0 hi hX
  obtain ⟨x1, p1, q1, e1⟩ := ii_of (X.getD (6 * i + 1) 0)
  simp only [e1] at S
  have i1 : i32 x1 := ⟨p1, q1⟩
  rw [b328_1082]
  simp only [S h hL.2.2.1, o11, true_and]
  refine GoCi_mono (law_call (D := d + 60) (y := 165) (y2 := 306) (V := fun r s' => r = vSets (cs_P s) (cs_S s) x1 ∧ s' = s) hL (fun K hK => c165 hC i1 (fun h1 n => hK h1 _ _ n ⟨rfl, rfl⟩)) (fun h1 r s' hI cs v K hK => by obtain ⟨er, es⟩ := v; subst er; subst es; exact (c306 hI cs i1).mpr (hK h1 hI)) rfl in1) (fun v1 h1 ⟨⟨z1, o12⟩, g⟩ => ?_)
  simp only [S h1 z1, o12, true_and]
  refine GoCi_mono g (fun v2 h2 ⟨ev, s', L'⟩ => ?_)
  rw [if_pos ev]
  exact nx h2 s' L'
theorem law_1105 (hL : LW X n0 h s i) (hi : 6 * i + 6 ≤ X.length) (hX : X.length ≤ 3072) (nx : ∀ h2 s', LW X n0 h2 s' (i + 1) → Go (d + 60) 328 1263 [some (.ref 0), some (.ref 64), some (.ref 148), some (.int (ii ((6 * i : Nat) : Int)))] [] h2 Q) : Go (d + 60) 328 1105 [some (.ref 0), some (.ref 64), some (.ref 148), some (.int (ii ((6 * i : Nat) : Int)))] [] h Q := by
  obtain ⟨o11, hT, hP, hS, hm, hx⟩ := hL.c
  have hC := hL.1
  have S := fun (h : mHeap) (h0 : h[0]? = some (mI .int X)) => scr5 (i := i) h0 hi hX
  obtain ⟨x1, p1, q1, e1⟩ := ii_of (X.getD (6 * i + 1) 0)
  simp only [e1] at S
  have i1 : i32 x1 := ⟨p1, q1⟩
  rw [b328_1105]
  simp only [S h hL.2.2.1, o11, true_and]
  refine GoCi_mono (law_call (D := d + 60) (y := 166) (y2 := 307) (V := fun r s' => r = vNext (cs_P s) (cs_S s) x1 ∧ s' = s) hL (fun K hK => c166 hC i1 (fun h1 n => hK h1 _ _ n ⟨rfl, rfl⟩)) (fun h1 r s' hI cs v K hK => by obtain ⟨er, es⟩ := v; subst er; subst es; exact c307 hI cs i1 hK) rfl in1) (fun v1 h1 ⟨⟨z1, o12⟩, g⟩ => ?_)
  simp only [S h1 z1, o12, true_and]
  refine GoCi_mono g (fun v2 h2 ⟨ev, s', L'⟩ => ?_)
  rw [if_pos ev]
  exact nx h2 s' L'
theorem law_1128 (hL : LW X n0 h s i) (hi : 6 * i + 6 ≤ X.length) (hX : X.length ≤ 3072) (nx : ∀ h2 s', LW X n0 h2 s' (i + 1) → Go (d + 60) 328 1263 [some (.ref 0), some (.ref 64), some (.ref 148), some (.int (ii ((6 * i : Nat) : Int)))] [] h2 Q) : Go (d + 60) 328 1128 [some (.ref 0), some (.ref 64), some (.ref 148), some (.int (ii ((6 * i : Nat) : Int)))] [] h Q := by
  obtain ⟨o11, hT, hP, hS, hm, hx⟩ := hL.c
  have hC := hL.1
  have S := fun (h : mHeap) (h0 : h[0]? = some (mI .int X)) => scr5 (i := i) h0 hi hX
  obtain ⟨x1, p1, q1, e1⟩ := ii_of (X.getD (6 * i + 1) 0)
  simp only [e1] at S
  have i1 : i32 x1 := ⟨p1, q1⟩
  rw [b328_1128]
  simp only [S h hL.2.2.1, o11, true_and]
  refine GoCi_mono (law_call (D := d + 60) (y := 167) (y2 := 308) (V := fun r s' => r = (aSeed (cs_P s) x1).1 ∧ s' = (sPg s (aSeed (cs_P s) x1).2)) hL (fun K hK => c167 hC i1 (fun h1 n => hK h1 _ _ n ⟨rfl, rfl⟩)) (fun h1 r s' hI cs v K hK => by obtain ⟨er, es⟩ := v; subst er; subst es; exact c308 hI cs i1 hK) rfl in1) (fun v1 h1 ⟨⟨z1, o12⟩, g⟩ => ?_)
  simp only [S h1 z1, o12, true_and]
  refine GoCi_mono g (fun v2 h2 ⟨ev, s', L'⟩ => ?_)
  rw [if_pos ev]
  exact nx h2 s' L'
theorem law_1151 (hL : LW X n0 h s i) (hi : 6 * i + 6 ≤ X.length) (hX : X.length ≤ 3072) (nx : ∀ h2 s', LW X n0 h2 s' (i + 1) → Go (d + 60) 328 1263 [some (.ref 0), some (.ref 64), some (.ref 148), some (.int (ii ((6 * i : Nat) : Int)))] [] h2 Q) : Go (d + 60) 328 1151 [some (.ref 0), some (.ref 64), some (.ref 148), some (.int (ii ((6 * i : Nat) : Int)))] [] h Q := by
  obtain ⟨o11, hT, hP, hS, hm, hx⟩ := hL.c
  have hC := hL.1
  have S := fun (h : mHeap) (h0 : h[0]? = some (mI .int X)) => scr5 (i := i) h0 hi hX
  obtain ⟨x1, p1, q1, e1⟩ := ii_of (X.getD (6 * i + 1) 0)
  obtain ⟨x2, p2, q2, e2⟩ := ii_of (X.getD (6 * i + 2) 0)
  obtain ⟨x3, p3, q3, e3⟩ := ii_of (X.getD (6 * i + 3) 0)
  simp only [e1, e2, e3] at S
  have i1 : i32 x1 := ⟨p1, q1⟩
  have i2 : i32 x2 := ⟨p2, q2⟩
  have i3 : i32 x3 := ⟨p3, q3⟩
  rw [b328_1151]
  simp only [S h hL.2.2.1, o11, true_and]
  refine GoCi_mono (law_call (D := d + 60) (y := 168) (y2 := 311) (V := fun r s' => r = vYears (cs_P s) (cs_S s) x1 x2 x3 ∧ s' = s) hL (fun K hK => c168 hC i1 i2 i3 (fun h1 n => hK h1 _ _ n ⟨rfl, rfl⟩)) (fun h1 r s' hI cs v K hK => by obtain ⟨er, es⟩ := v; subst er; subst es; exact c311 hI cs hx i1 i2 i3 hK) rfl (inC (inC in1))) (fun v1 h1 ⟨⟨z1, o12⟩, g⟩ => ?_)
  simp only [S h1 z1, o12, true_and]
  refine GoCi_mono g (fun v2 h2 ⟨ev, s', L'⟩ => ?_)
  rw [if_pos ev]
  exact nx h2 s' L'
theorem law_1194 (hL : LW X n0 h s i) (hi : 6 * i + 6 ≤ X.length) (hX : X.length ≤ 3072) (nx : ∀ h2 s', LW X n0 h2 s' (i + 1) → Go (d + 60) 328 1263 [some (.ref 0), some (.ref 64), some (.ref 148), some (.int (ii ((6 * i : Nat) : Int)))] [] h2 Q) : Go (d + 60) 328 1194 [some (.ref 0), some (.ref 64), some (.ref 148), some (.int (ii ((6 * i : Nat) : Int)))] [] h Q := by
  obtain ⟨o11, hT, hP, hS, hm, hx⟩ := hL.c
  have hC := hL.1
  have S := fun (h : mHeap) (h0 : h[0]? = some (mI .int X)) => scr5 (i := i) h0 hi hX
  obtain ⟨x1, p1, q1, e1⟩ := ii_of (X.getD (6 * i + 1) 0)
  simp only [e1] at S
  have i1 : i32 x1 := ⟨p1, q1⟩
  rw [b328_1194]
  simp only [S h hL.2.2.1, o11, true_and]
  refine GoCi_mono (law_call (D := d + 60) (y := 169) (y2 := 312) (V := fun r s' => r = vCount s x1 ∧ s' = s) hL (fun K hK => (c169 hC i1).mpr (hK h _ _ (Nx.rf hC) ⟨rfl, rfl⟩)) (fun h1 r s' hI cs v K hK => by obtain ⟨er, es⟩ := v; subst er; subst es; exact (c312 hI cs i1).mpr (hK h1 hI)) rfl in1) (fun v1 h1 ⟨⟨z1, o12⟩, g⟩ => ?_)
  simp only [S h1 z1, o12, true_and]
  refine GoCi_mono g (fun v2 h2 ⟨ev, s', L'⟩ => ?_)
  rw [if_pos ev]
  exact nx h2 s' L'
theorem law_1217 (hL : LW X n0 h s i) (hi : 6 * i + 6 ≤ X.length) (hX : X.length ≤ 3072) (nx : ∀ h2 s', LW X n0 h2 s' (i + 1) → Go (d + 60) 328 1263 [some (.ref 0), some (.ref 64), some (.ref 148), some (.int (ii ((6 * i : Nat) : Int)))] [] h2 Q) : Go (d + 60) 328 1217 [some (.ref 0), some (.ref 64), some (.ref 148), some (.int (ii ((6 * i : Nat) : Int)))] [] h Q := by
  obtain ⟨o11, hT, hP, hS, hm, hx⟩ := hL.c
  have hC := hL.1
  have S := fun (h : mHeap) (h0 : h[0]? = some (mI .int X)) => scr5 (i := i) h0 hi hX
  obtain ⟨x1, p1, q1, e1⟩ := ii_of (X.getD (6 * i + 1) 0)
  simp only [e1] at S
  have i1 : i32 x1 := ⟨p1, q1⟩
  rw [b328_1217]
  simp only [S h hL.2.2.1, o11, true_and]
  refine GoCi_mono (law_call (D := d + 60) (y := 170) (y2 := 315) (V := fun r s' => r = (aImg s x1).1 ∧ s' = (sIm s (aImg s x1).2)) hL (fun K hK => c170 hC i1 (fun h1 n => hK h1 _ _ n ⟨rfl, rfl⟩)) (fun h1 r s' hI cs v K hK => by obtain ⟨er, es⟩ := v; subst er; subst es; exact c315 hI cs i1 hK) rfl in1) (fun v1 h1 ⟨⟨z1, o12⟩, g⟩ => ?_)
  simp only [S h1 z1, o12, true_and]
  refine GoCi_mono g (fun v2 h2 ⟨ev, s', L'⟩ => ?_)
  rw [if_pos ev]
  exact nx h2 s' L'
theorem law_1240 (hL : LW X n0 h s i) (hi : 6 * i + 6 ≤ X.length) (hX : X.length ≤ 3072) (nx : ∀ h2 s', LW X n0 h2 s' (i + 1) → Go (d + 60) 328 1263 [some (.ref 0), some (.ref 64), some (.ref 148), some (.int (ii ((6 * i : Nat) : Int)))] [] h2 Q) : Go (d + 60) 328 1240 [some (.ref 0), some (.ref 64), some (.ref 148), some (.int (ii ((6 * i : Nat) : Int)))] [] h Q := by
  obtain ⟨o11, hT, hP, hS, hm, hx⟩ := hL.c
  have hC := hL.1
  have S := fun (h : mHeap) (h0 : h[0]? = some (mI .int X)) => scr5 (i := i) h0 hi hX
  obtain ⟨x1, p1, q1, e1⟩ := ii_of (X.getD (6 * i + 1) 0)
  simp only [e1] at S
  have i1 : i32 x1 := ⟨p1, q1⟩
  rw [b328_1240]
  simp only [S h hL.2.2.1, o11, true_and]
  refine GoCi_mono (law_call (D := d + 60) (y := 171) (y2 := 316) (V := fun r s' => r = (aBack s x1).1 ∧ s' = (sPg s (aBack s x1).2)) hL (fun K hK => c171 hC i1 (fun h1 n => hK h1 _ _ n ⟨rfl, rfl⟩)) (fun h1 r s' hI cs v K hK => by obtain ⟨er, es⟩ := v; subst er; subst es; exact c316 hI cs i1 hK) rfl in1) (fun v1 h1 ⟨⟨z1, o12⟩, g⟩ => ?_)
  simp only [S h1 z1, o12, true_and]
  refine GoCi_mono g (fun v2 h2 ⟨ev, s', L'⟩ => ?_)
  rw [if_pos ev]
  exact nx h2 s' L'
end Lc
