/-! WHAT ONE CALLS: image, back -/
def aImg (s : Cs) (z : Int) : Int × (Nat → Option Pg) := if 0 ≤ z ∧ z < 4 then (mo_d (pg_m (cs_P s)), upf (cs_I s) z.toNat (some (cs_P s))) else (-1, cs_I s)
def aBack (s : Cs) (z : Int) : Int × Pg := if 0 ≤ z ∧ z < 4 then (match cs_I s z.toNat with | none => (-1, cs_P s) | some Q => ((mo_d (pg_m Q) : Int), Q)) else (-1, cs_P s)
section Img1
variable {d : Nat} {h h1 h2 : mHeap} {s s1 s2 : Cs} {x y z : Int} {P P' Q : Pg} {m m' : Mo} {S : List Wd} {I : Nat → Option Pg} {p q k : Nat}
/-- a new page among the images -/
theorem CI.nw (hC : CI h s) (hk : k < 4) (hn : cs_I s k = none) (hq : 202 ≤ q) (hP : PgR h q P') (hPI : PgI (cs_S s) P') (hh : hiP h q) (hD : PgD h 97 q) (hD2 : ∀ j r, j < 4 → xR h 124 j = some r → PgD h r q) : NxG 0 0 h (sR h 124 (ii k) q) (sIm s (upf (cs_I s) k (some P'))) := by
  obtain ⟨c1, c2, c3⟩ := hC.2.2.1
  obtain ⟨f1, f2, f3, f4⟩ := id hC.2.2.2.2.1
  have g1 := hC.2.2.2.2.2
  have ix : (ii (k : Nat)).toNatClampNeg = k := by rw [ix_ii (by omega) (by omega)]; rfl
  have e : ∀ a, ¬ a = 124 → (sR h 124 (ii k) q)[a]? = h[a]? := fun a g => by rw [sR_get, if_neg (fun c => g c.symm)]
  have xr : ∀ b, xR (sR h 124 (ii k) q) b = if 124 = b then upf (xR h 124) k (some q) else xR h b := fun b => by
    rw [xR_sR (by rw [f1]) (by rw [ix, f1]; exact hk), ix]
  have xo : ∀ b, ¬ b = 124 → xR (sR h 124 (ii k) q) b = xR h b := fun b g => by rw [xr, if_neg (fun c => g c.symm)]
  have pd : ∀ a b, 97 ≤ a → ¬ a = 105 → 97 ≤ b → ¬ b = 105 → PgD h a b → PgD (sR h 124 (ii k) q) a b := fun a b ha ha2 hb hb2 D => by
    unfold PgD
    rw [xo (a + 19) (by omega), xo (b + 19) (by omega)]
    exact D
  have pr : ∀ r R, PgR h r R → (r = 97 ∨ 202 ≤ r) → hiP h r → PgR (sR h 124 (ii k) q) r R := fun r R hr hrr hhr => PgR_eq hr (fun a ha => e a (fun g => by
    rcases ha with (u | u | ⟨i, b, hi, hb, u⟩) | u
    · omega
    · omega
    · have := hhr.2 i b hi hb
      omega
    · rcases hhr.1 with v | v <;> omega))
  have hp : ∀ r, 97 ≤ r → ¬ r = 105 → hiP h r → hiP (sR h 124 (ii k) q) r := fun r h1 h2 hhr => ⟨by rw [fR_kd, kd_sR, ← fR_kd]; exact hhr.1, fun i b hi hb => hhr.2 i b hi (by rw [← xo (r + 19) (by omega)]; exact hb)⟩
  refine ⟨hC.hi (fun a _ g => e a g) (by rw [len_sR]; exact g1) ?_ (pr 97 _ c1 (Or.inl rfl) c3) ⟨by rw [kd_sR]; exact f1, fun j hj hn => ?_, fun j R hj hR => ?_, fun i j a b hi hj ne e1 e2 => ?_⟩, ⟨by rw [len_sR]; exact Nat.le_refl _, by rw [len_sR]; omega, by rw [sl_sR]; exact Nat.le_refl _, by rw [sl_sR]; omega⟩, fun a g g' => e a (by omega)⟩
  · exact CiR_eq (T := fun a => a = 124) hC.2.1.2 g1 (fun a _ ht => e a ht) (fun a ht => Or.inl (by omega))
  · rw [xr, if_pos rfl]
    unfold upf at hn ⊢
    by_cases c : j = k
    · rw [if_pos c] at hn; cases hn
    · rw [if_neg c] at hn
      rw [if_neg c]
      exact f2 j hj hn
  · rw [xr, if_pos rfl]
    unfold upf at hR ⊢
    by_cases c : j = k
    · rw [if_pos c] at hR
      cases hR
      refine ⟨q, by rw [if_pos c], hq, pr q _ hP (Or.inr hq) hh, hPI, pd 97 q (by omega) (by omega) (by omega) (by omega) hD, hp q (by omega) (by omega) hh⟩
    · rw [if_neg c] at hR
      obtain ⟨r, r1, r2, r3, r4, r5, r6⟩ := f3 j R hj hR
      exact ⟨r, by rw [if_neg c]; exact r1, r2, pr r _ r3 (Or.inr r2) r6, r4, pd 97 r (by omega) (by omega) (by omega) (by omega) r5, hp r (by omega) (by omega) r6⟩
  · have r2 : ∀ j r, j < 4 → xR h 124 j = some r → 202 ≤ r := fun j r hj hr => by
      cases o : cs_I s j with
      | none => rw [f2 j hj o] at hr; cases hr
      | some R =>
        obtain ⟨r', r1, r2, _⟩ := f3 j R hj o
        rw [r1] at hr
        cases hr
        exact r2
    rw [xr, if_pos rfl] at e1 e2
    unfold upf at e1 e2
    by_cases ci : i = k
    · rw [if_pos ci] at e1
      cases e1
      rw [if_neg (fun g => ne (ci.trans g.symm))] at e2
      have := r2 j b hj e2
      exact pd _ b (by omega) (by omega) (by omega) (by omega) (hD2 j b hj e2).sym
    · rw [if_neg ci] at e1
      have := r2 i a hi e1
      by_cases cj : j = k
      · rw [if_pos cj] at e2
        cases e2
        exact pd a _ (by omega) (by omega) (by omega) (by omega) (hD2 i a hi e1)
      · rw [if_neg cj] at e2
        have := r2 j b hj e2
        exact pd a b (by omega) (by omega) (by omega) (by omega) (f4 i j a b hi hj ne e1 e2)
theorem upf_upf {α : Type} {f : Nat → α} {k : Nat} {a b : α} : upf (upf f k a) k b = upf f k b := by
  funext i
  unfold upf
  by_cases c : i = k
  · rw [if_pos c, if_pos c]
  · rw [if_neg c, if_neg c, if_neg c]
theorem c170_36 {K : Int32 → mHeap → Prop} (hC : CI h s) (hk : k < 4) (hq : xR h 124 k = some q) (hI : cs_I s k = some Q) {o : Option Value} (hK : ∀ h1, NxG 200 940 h h1 (sIm s (upf (cs_I s) k (some (cs_P s)))) → K (ii (mo_d (pg_m (cs_P s)) : Nat)) h1) : Go (d + 5) 170 36 [some (.ref 64), o, some (.ref q)] [] h (rI K) := by
  obtain ⟨⟨a1, hT, _⟩, ⟨hS, _⟩, ⟨hP, hPI, hh⟩, _, ⟨f1, f2, f3, f4⟩, g1⟩ := id hC
  obtain ⟨q', q1, q2, q3, q4, q5, q6⟩ := f3 k Q hk hI
  rw [hq] at q1
  cases q1
  rw [b170_36]
  simp only [TbS_ok hT, PgS_okF q3.1, true_and]
  refine c56 a1 q3 hP q5.sym (fun h1 y1 y2 y3 y4 => ?_)
  have N1 := hC.im hk hq hI y2 y3 y1 hPI (by rw [y4]; exact hh.1)
  obtain ⟨⟨_, hT1, _⟩, _, ⟨hP1, _, _⟩, _⟩ := id N1.1
  have hP1 : PgR h1 97 (cs_P s) := hP1
  have M1 := hP1.2.2.2.1
  simp only [TbS_ok hT1, PgS_okF hP1.1, MoS_okF M1.1, M1.2.1, true_and, rI_s]
  exact hK h1 N1
/-- image -/
theorem c170 {K : Int32 → mHeap → Prop} (hC : CI h s) (hx : i32 x) (hK : ∀ h1, Nx h h1 (sIm s (aImg s x).2) → K (ii (aImg s x).1) h1) : GoCi (d + 6) 170 [.ref 64, .int (ii x)] h K := by
  have r0 := hK h
  obtain ⟨⟨a1, hT, _⟩, ⟨hS, _⟩, ⟨hP, hPI, hh⟩, _, ⟨f1, f2, f3, f4⟩, g1⟩ := id hC
  rw [e170, b170_0, show ii 4 = ii ((4 : Nat) : Int) from rfl, c180 (by decide) hx]
  by_cases c : 0 ≤ x ∧ x < ((4 : Nat) : Int)
  rotate_left
  · rw [if_neg c, if_neg (by simp), rI_s]
    rw [show aImg s x = (-1, cs_I s) from if_neg c] at r0
    exact r0 (Nx.rf hC)
  rw [if_pos c, if_pos (by decide)]
  have ev : aImg s x = _ := if_pos c
  rw [ev] at hK
  obtain ⟨k, rfl⟩ := nat_of c.1
  rw [Int.toNat_natCast] at hK
  have hk : k < 4 := by omega
  have ix : (ii (k : Nat)).toNatClampNeg = k := by rw [ix_ii (by omega) (by omega)]; rfl
  have nn : ¬ ii (k : Nat) < 0 := by rw [ii_lt0 (by omega) (by omega)]; omega
  simp only [TbS_ok hT, true_and]
  cases o : cs_I s k with
  | none =>
    refine Or.inl ⟨?_, ?_⟩
    · rw [nuR_kd, f1, ix]
      exact ⟨⟨rfl, rfl⟩, nn, hk, f2 k hk o⟩
    refine ⟨_, rfl, by omega, ?_⟩
    refine new_Pg (by omega) (fun h2 l2 s2 e2 P2 x2 y2 => ?_)
    have N2 := hC.gr (h1 := h2) (n := 21) (m := 175) ⟨by omega, by omega, by omega, by omega⟩ e2 (by decide) (by decide)
    have N2a : NxG 21 175 h h2 s := ⟨N2.1, ⟨by omega, by omega, by omega, by omega⟩, N2.2.2⟩
    have C2 := N2.1
    obtain ⟨⟨_, hT2, _⟩, _, ⟨hP2, _, hh2⟩, _, ⟨u1, u2, u3, u4⟩, _⟩ := id C2
    have DD : ∀ p R, PgR h2 p R → PgR h p R → (∀ a, a = p + 19 → xR h2 a = xR h a) → PgD h2 p h.length := fun p R w1 w2 w3 => by
      have lp := PgS_lt w2.1
      refine ⟨by omega, fun i j b hi hj hb hb2 => ?_, fun i hi hb => ?_, fun j hj hb => ?_⟩
      · rw [x2 j hj] at hb2; cases hb2
      · rw [w3 _ rfl] at hb
        have := MoS_lt (w2.1.2.2.2.2.2.1 i _ hi hb).1.S
        omega
      · rw [x2 j hj] at hb; cases hb
    have N3 := C2.nw hk o (by omega) P2 PgI_pg0 ⟨by rw [y2]; omega, fun i b hi hb => by rw [x2 i hi] at hb; cases hb⟩ (DD 97 _ hP2 hP (fun a ha => same_xR (e2 a (by have := PgS_lt hP.1; omega)))) (fun j r hj hr => by
      rw [same_xR (e2 124 (by omega))] at hr
      cases oj : cs_I s j with
      | none => rw [f2 j hj oj] at hr; cases hr
      | some R =>
        obtain ⟨r1, v1, v2, v3, v4, v5, v6⟩ := f3 j R hj oj
        rw [hr] at v1
        cases v1
        have lr := PgS_lt v3.1
        exact DD r R (PgR_eq v3 (fun a ha => e2 a (PgR_lt v3 ha))) v3 (fun a ha => same_xR (e2 a (by omega))))
    simp only [TbS_ok hT2, true_and]
    refine ⟨?_, ?_⟩
    · rw [okS_kd, u1, ix]
      exact ⟨by omega, by omega, rfl, rfl, oC_kd P2.1.2.1, nn, hk⟩
    · have kq : xR (sR h2 124 (ii (k : Nat)) h.length) 124 k = some h.length := by
        rw [xR_sR (by rw [u1]) (by rw [ix, u1]; exact hk), if_pos rfl, ix]
        unfold upf
        rw [if_pos rfl]
      refine c170_36 (Q := pg0) N3.1 hk kq (by
        show upf (cs_I s) k (some pg0) k = some pg0
        unfold upf
        rw [if_pos rfl]) (fun h1 N1 => ?_)
      have N1 : NxG 200 940 _ h1 (sIm s (upf (upf (cs_I s) k (some pg0)) k (some (cs_P s)))) := N1
      rw [upf_upf] at N1
      exact hK h1 (((N2a.tr N3).tr N1).nx (by decide) (by decide))
  | some Q =>
    obtain ⟨q, q1, q2, q3, q4, q5, q6⟩ := f3 k Q hk o
    have er : eR h 124 (ii (k : Nat)) = q := by
      have : xR h 124 k = some q := q1
      unfold xR at this
      unfold eR
      rw [ix, this]
      rfl
    refine Or.inr ⟨?_, ?_, ?_⟩
    · rw [okR_kd, f1, ix, q1]
      exact ⟨⟨rfl, rfl⟩, nn, by show 64 ≤ q; omega⟩
    · rw [er]; omega
    · rw [er]
      exact c170_36 hC hk q1 o (fun h1 N1 => hK h1 (N1.nx (by decide) (by decide)))
/-- back -/
theorem c171 {K : Int32 → mHeap → Prop} (hC : CI h s) (hx : i32 x) (hK : ∀ h1, Nx h h1 (sPg s (aBack s x).2) → K (ii (aBack s x).1) h1) : GoCi (d + 6) 171 [.ref 64, .int (ii x)] h K := by
  have r0 := hK h
  obtain ⟨⟨a1, hT, _⟩, ⟨hS, _⟩, ⟨hP, hPI, hh⟩, _, ⟨f1, f2, f3, f4⟩, g1⟩ := id hC
  rw [e171, b171_0, show ii 4 = ii ((4 : Nat) : Int) from rfl, c180 (by decide) hx]
  by_cases c : 0 ≤ x ∧ x < ((4 : Nat) : Int)
  rotate_left
  · rw [if_neg c, if_neg (by simp), rI_s]
    rw [show aBack s x = (-1, cs_P s) from if_neg c] at r0
    exact r0 (Nx.rf hC)
  rw [if_pos c, if_pos (by decide)]
  have ev : aBack s x = _ := if_pos c
  rw [ev] at hK
  obtain ⟨k, rfl⟩ := nat_of c.1
  rw [Int.toNat_natCast] at hK
  have hk : k < 4 := by omega
  have ix : (ii (k : Nat)).toNatClampNeg = k := by rw [ix_ii (by omega) (by omega)]; rfl
  have nn : ¬ ii (k : Nat) < 0 := by rw [ii_lt0 (by omega) (by omega)]; omega
  simp only [TbS_ok hT, true_and]
  cases o : cs_I s k with
  | none =>
    rw [o] at hK
    refine Or.inl ⟨?_, ?_⟩
    · rw [nuR_kd, f1, ix]
      exact ⟨⟨rfl, rfl⟩, nn, hk, f2 k hk o⟩
    rw [rI_s]
    exact hK h (Nx.rf hC)
  | some Q =>
    rw [o] at hK
    obtain ⟨q, q1, q2, q3, q4, q5, q6⟩ := f3 k Q hk o
    have er : eR h 124 (ii (k : Nat)) = q := by
      have : xR h 124 k = some q := q1
      unfold xR at this
      unfold eR
      rw [ix, this]
      rfl
    refine Or.inr ⟨?_, ?_, ?_⟩
    · rw [okR_kd, f1, ix, q1]
      exact ⟨⟨rfl, rfl⟩, nn, by show 64 ≤ q; omega⟩
    · rw [er]; omega
    · rw [er]
      simp only [PgS_okF hP.1, true_and]
      refine c56 a1 hP q3 q5 (fun h1 y1 y2 y3 y4 => ?_)
      have N1 := hC.pgG y2 y3 y1 q4 (by rw [y4]; exact q6.1)
      obtain ⟨⟨_, hT1, _⟩, _, ⟨hP1, _, _⟩, _⟩ := id N1.1
      have hP1 : PgR h1 97 Q := hP1
      have M1 := hP1.2.2.2.1
      simp only [TbS_ok hT1, PgS_okF hP1.1, MoS_okF M1.1, M1.2.1, true_and, rI_s]
      exact hK h1 (N1.nx (by decide) (by decide))
end Img1
