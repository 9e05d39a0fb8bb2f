/-! LANDS read: clause by clause -/
def fulC (k : Nat) (l : Ld) : Prop := (k = 302 ∧ 6 ≤ (ld_p l).length) ∨ (k = 303 ∧ 10 ≤ (ld_w l).length) ∨ (k = 304 ∧ 8 ≤ (ld_t l).length) ∨ (k = 305 ∧ 6 ≤ (ld_q l).length)
noncomputable def lcS (T : List (Nat × Nat)) (i nth : Nat) (l : Ld) : Nat ⊕ (Nat × Ld) :=
  if (tk T i).1 < 301 ∨ 305 < (tk T i).1 then .inl (flt T i 0)
  else @ite _ (40 ≤ nth ∨ ¬ ((tk T i).1 = 301 ↔ nth = 0) ∨ fulC (tk T i).1 l) (Classical.propDecidable _) (.inl (flt T i 4))
    (if (tk T i).1 = 301 then fcR T (i + 1) l else if (tk T i).1 = 302 then plR T (i + 1) l else if (tk T i).1 = 303 then paR T (i + 1) l else if (tk T i).1 = 304 then tuR T (i + 1) l else peR T (i + 1) l)
noncomputable def laL (T : List (Nat × Nat)) : Nat → Nat → Nat → Ld → Nat ⊕ Ld
  | 0, _, _, _ => .inl 0
  | g + 1, i, nth, l => match lcS T i nth l with
    | .inl f => .inl f
    | .inr (i1, l1) => if (tk T i1).1 = 60 then laL T g (i1 + 1) (nth + 1) l1 else if (tk T i1).1 = 0 then .inr l1 else .inl (flt T i1 0)
section La3
variable {d a i f : Nat} {h h1 h2 : mHeap} {T : List (Nat × Nat)} {l : Ld} {X : Nat → Nat}
theorem nm_ok {lo hi : Int} (e : nmF T i lo hi = 0) : lo ≤ ((nmV T i : Nat) : Int) ∧ ((nmV T i : Nat) : Int) ≤ hi := by
  unfold nmF at e
  by_cases c : (tk T i).1 < 1001
  · rw [if_pos c] at e
    exact absurd e (by unfold flt; omega)
  rw [if_neg c] at e
  by_cases c2 : (tk T i).1 = 101001 ∨ ((tk T i).1 : Int) - 1001 < lo ∨ hi < ((tk T i).1 : Int) - 1001
  · rw [if_pos c2] at e
    exact absurd e (by unfold flt; omega)
  · unfold nmV
    omega
theorem mem_app1 {α : Type} {x y : α} {L : List α} (hx : x ∈ L ++ [y]) : x ∈ L ∨ x = y := by
  rw [List.mem_append, List.mem_singleton] at hx
  exact hx
/-- a land stays well made -/
theorem lcS_ok {nth i' : Nat} {l' : Ld} (ok : LdOk l) (h0 : nth = 0 → l = ld0) (hn : ¬ nth = 0 → 1 ≤ ld_n l) (e : lcS T i nth l = .inr (i', l')) : LdOk l' ∧ i < i' ∧ 1 ≤ ld_n l' := by
  unfold lcS at e
  by_cases c0 : (tk T i).1 < 301 ∨ 305 < (tk T i).1
  · rw [if_pos c0] at e; cases e
  rw [if_neg c0] at e
  by_cases c1 : 40 ≤ nth ∨ ¬ ((tk T i).1 = 301 ↔ nth = 0) ∨ fulC (tk T i).1 l
  · rw [if_pos c1] at e; cases e
  rw [if_neg c1] at e
  have nf : ¬ fulC (tk T i).1 l := fun g => c1 (Or.inr (Or.inr g))
  have iff1 : (tk T i).1 = 301 ↔ nth = 0 := by
    by_cases g : (tk T i).1 = 301 ↔ nth = 0
    · exact g
    · exact absurd (Or.inr (Or.inl g)) c1
  obtain ⟨o1, o2, o3, o4, o5, o6, o7, o8, o9, o10⟩ := ok
  by_cases k1 : (tk T i).1 = 301
  · rw [if_pos k1] at e
    have l0 := h0 (iff1.mp k1)
    subst l0
    unfold fcR at e
    by_cases n1 : nmF T (i + 1) 1 8 = 0
    · rw [if_pos n1] at e
      by_cases n2 : nmF T (i + 1 + 1) 0 (((2 ^ nmV T (i + 1) : Nat) : Int) - 1) = 0
      · rw [if_pos n2] at e
        have b1 := nm_ok n1
        have b2 := nm_ok n2
        generalize nmV T (i + 1) = v1 at *
        generalize nmV T (i + 1 + 1) = v2 at *
        cases e
        refine ⟨⟨by show v1 ≤ 8; omega, ?_, o3, o4, o5, o6, fun q hq => (by cases hq), fun q hq => (by cases hq), fun q hq => (by cases hq), fun q hq => (by cases hq)⟩, by omega, by show 1 ≤ v1; omega⟩
        show v2 < 2 ^ v1
        have := Nat.two_pow_pos v1
        omega
      · rw [if_neg n2] at e; cases e
    · rw [if_neg n1] at e; cases e
  rw [if_neg k1] at e
  have hn1 := hn (fun g => k1 (iff1.mpr g))
  by_cases k2 : (tk T i).1 = 302
  · rw [if_pos k2] at e
    have fl : (ld_p l).length < 6 := by
      by_cases g : (ld_p l).length < 6
      · exact g
      · exact absurd (Or.inl ⟨k2, by omega⟩) nf
    unfold plR at e
    by_cases n1 : nmF T (i + 1) 0 ((ld_n l : Int) - 1) = 0
    · rw [if_pos n1] at e
      have b1 := nm_ok n1
      generalize nmV T (i + 1) = v1 at *
      cases e
      refine ⟨⟨o1, o2, o3, by show (ld_p l ++ [v1]).length ≤ 6; rw [List.length_append]; exact fl, o5, o6, o7, fun q hq => ?_, fun w hw => ?_, o10⟩, by omega, hn1⟩
      · rcases mem_app1 hq with g | g
        · exact o8 q g
        · rw [g]; show v1 < ld_n l; omega
      · have := o9 w hw
        have lx : (ld_p l ++ [v1]).length = (ld_p l).length + 1 := List.length_append
        exact ⟨by show w.1 < (ld_p l ++ [v1]).length; omega, by show w.2.1 < (ld_p l ++ [v1]).length; omega, this.2.2⟩
    · rw [if_neg n1] at e; cases e
  rw [if_neg k2] at e
  by_cases k3 : (tk T i).1 = 303
  · rw [if_pos k3] at e
    have fl : (ld_w l).length < 10 := by
      by_cases g : (ld_w l).length < 10
      · exact g
      · exact absurd (Or.inr (Or.inl ⟨k3, by omega⟩)) nf
    unfold paR at e
    by_cases n1 : nmF T (i + 1) 0 (((ld_p l).length : Int) - 1) = 0
    · rw [if_pos n1] at e
      by_cases ce : (tk T (i + 1 + 1)).1 = 1001 + nmV T (i + 1)
      · rw [if_pos ce] at e; cases e
      rw [if_neg ce] at e
      by_cases n2 : nmF T (i + 1 + 1) 0 (((ld_p l).length : Int) - 1) = 0
      · rw [if_pos n2] at e
        by_cases n3 : nmF T (i + 1 + 1 + 1) 1 9 = 0
        · rw [if_pos n3] at e
          have b1 := nm_ok n1
          have b2 := nm_ok n2
          have b3 := nm_ok n3
          have ne : ¬ nmV T (i + 1) = nmV T (i + 1 + 1) := fun g => ce (by
            have c1 : ¬ (tk T (i + 1 + 1)).1 < 1001 := fun q => by
              unfold nmF at n2
              rw [if_pos q] at n2
              exact absurd n2 (by unfold flt; omega)
            rw [g]
            unfold nmV
            omega)
          generalize nmV T (i + 1) = v1 at *
          generalize nmV T (i + 1 + 1) = v2 at *
          generalize nmV T (i + 1 + 1 + 1) = v3 at *
          cases e
          refine ⟨⟨o1, o2, o3, o4, by show (ld_w l ++ [(v1, v2, v3)]).length ≤ 10; rw [List.length_append]; exact fl, o6, o7, o8, fun w hw => ?_, o10⟩, by omega, hn1⟩
          rcases mem_app1 hw with g | g
          · exact o9 w g
          · rw [g]
            exact ⟨by show v1 < (ld_p l).length; omega, by show v2 < (ld_p l).length; omega, ne, by show 1 ≤ v3; omega, by show v3 ≤ 9; omega⟩
        · rw [if_neg n3] at e; cases e
      · rw [if_neg n2] at e; cases e
    · rw [if_neg n1] at e; cases e
  rw [if_neg k3] at e
  by_cases k4 : (tk T i).1 = 304
  · rw [if_pos k4] at e
    have fl : (ld_t l).length < 8 := by
      by_cases g : (ld_t l).length < 8
      · exact g
      · exact absurd (Or.inr (Or.inr (Or.inl ⟨k4, by omega⟩))) nf
    unfold tuR at e
    by_cases n1 : nmF T (i + 1) 0 ((ld_n l : Int) - 1) = 0
    · rw [if_pos n1] at e
      by_cases n2 : nmF T (i + 1 + 1) 1 99 = 0
      · rw [if_pos n2] at e
        have b1 := nm_ok n1
        have b2 := nm_ok n2
        generalize nmV T (i + 1) = v1 at *
        generalize nmV T (i + 1 + 1) = v2 at *
        cases e
        refine ⟨⟨o1, o2, o3, o4, o5, by show (ld_t l ++ [(v1, v2)]).length ≤ 8; rw [List.length_append]; exact fl, o7, o8, o9, fun t ht => ?_⟩, by omega, hn1⟩
        rcases mem_app1 ht with g | g
        · exact o10 t g
        · rw [g]
          exact ⟨by show v1 < ld_n l; omega, by show 1 ≤ v2; omega, by show v2 ≤ 99; omega⟩
      · rw [if_neg n2] at e; cases e
    · rw [if_neg n1] at e; cases e
  rw [if_neg k4] at e
  have fl : (ld_q l).length < 6 := by
    by_cases g : (ld_q l).length < 6
    · exact g
    · exact absurd (Or.inr (Or.inr (Or.inr ⟨by omega, by omega⟩))) nf
  unfold peR at e
  by_cases n1 : nmF T (i + 1) 0 1 = 0
  · rw [if_pos n1] at e
    by_cases n2 : nmF T (i + 1 + 1) 1 128 = 0
    · rw [if_pos n2] at e
      by_cases n3 : nmF T (i + 1 + 1 + 1) 0 (((2 ^ ld_n l : Nat) : Int) - 1) = 0
      · rw [if_pos n3] at e
        by_cases n4 : nmF T (i + 1 + 1 + 1 + 1) 0 99 = 0
        · rw [if_pos n4] at e
          have b1 := nm_ok n1
          have b2 := nm_ok n2
          have b3 := nm_ok n3
          have b4 := nm_ok n4
          have p2 := Nat.two_pow_pos (ld_n l)
          generalize nmV T (i + 1) = v1 at *
          generalize nmV T (i + 1 + 1) = v2 at *
          generalize nmV T (i + 1 + 1 + 1) = v3 at *
          generalize nmV T (i + 1 + 1 + 1 + 1) = v4 at *
          cases e
          refine ⟨⟨o1, o2, by show (ld_q l ++ [(v1, v2, v3, v4)]).length ≤ 6; rw [List.length_append]; exact fl, o4, o5, o6, fun q hq => ?_, o8, o9, o10⟩, by omega, hn1⟩
          rcases mem_app1 hq with g | g
          · exact o7 q g
          · rw [g]
            exact ⟨by show v1 ≤ 1; omega, ⟨by show 1 ≤ v2; omega, by show v2 ≤ 128; omega⟩, by show v3 < 2 ^ ld_n l; omega, by show v4 ≤ 99; omega⟩
        · rw [if_neg n4] at e; cases e
      · rw [if_neg n3] at e; cases e
    · rw [if_neg n2] at e; cases e
  · rw [if_neg n1] at e; cases e
/-- isFull -/
theorem c33 {K : Int32 → mHeap → Prop} (hL : LaQ h a l X) (ok : LdOk l) {k : Nat} (hk : 301 ≤ k ∧ k ≤ 305) (hK : K (@ite _ (fulC k l) (Classical.propDecidable _) (ii 1) (ii 0)) h) : GoCi (d + 1) 33 [.ref a, .int (ii ((k : Int) - 1))] h K := by
  have eq : ∀ z : Int, 0 ≤ z → z < 1000 → (ii ((k : Int) - 1) = ii z ↔ (k : Int) = z + 1) := fun z z0 z1 => by
    rw [ii_eq (by omega) (by omega) (by omega) (by omega)]
    omega
  have o3 := ok.2.2.1
  have o4 := ok.2.2.2.1
  have o5 := ok.2.2.2.2.1
  have o6 := ok.2.2.2.2.2.1
  rw [e33, b33_0]
  simp only [rI_s, true_or, or_true, true_and, LaS_ok hL.1, hL.2.2.2.2.2.1, hL.2.2.2.2.2.2.1, hL.2.2.2.2.2.2.2.1, hL.2.2.2.1]
  have fin : ∀ (m c : Nat), m < 100 → c < 100 → (fulC k l ↔ c ≤ m) → (if ii (m : Int) < ii (c : Int) then K (ii 0) h else K (ii 1) h) := fun m c hm hc hf => by
    by_cases g : m < c
    · rw [if_pos (by rw [ii_lt (by omega) (by omega) (by omega) (by omega)]; omega)]
      rw [if_neg (fun q => by have := hf.mp q; omega)] at hK
      exact hK
    · rw [if_neg (by rw [ii_lt (by omega) (by omega) (by omega) (by omega)]; omega)]
      rw [if_pos (hf.mpr (by omega))] at hK
      exact hK
  by_cases k2 : k = 302
  · rw [if_pos ((eq 301 (by decide) (by decide)).mpr (by omega))]
    exact fin _ 6 (by omega) (by decide) ⟨fun g => by rcases g with g | g | g | g <;> omega, fun g => Or.inl ⟨k2, g⟩⟩
  rw [if_neg (fun q => by have := (eq 301 (by decide) (by decide)).mp q; omega)]
  by_cases k3 : k = 303
  · rw [if_pos ((eq 302 (by decide) (by decide)).mpr (by omega))]
    exact fin _ 10 (by omega) (by decide) ⟨fun g => by rcases g with g | g | g | g <;> omega, fun g => Or.inr (Or.inl ⟨k3, g⟩)⟩
  rw [if_neg (fun q => by have := (eq 302 (by decide) (by decide)).mp q; omega)]
  by_cases k4 : k = 304
  · rw [if_pos ((eq 303 (by decide) (by decide)).mpr (by omega))]
    exact fin _ 8 (by omega) (by decide) ⟨fun g => by rcases g with g | g | g | g <;> omega, fun g => Or.inr (Or.inr (Or.inl ⟨k4, g⟩))⟩
  rw [if_neg (fun q => by have := (eq 303 (by decide) (by decide)).mp q; omega)]
  by_cases k5 : k = 305
  · rw [if_pos ((eq 304 (by decide) (by decide)).mpr (by omega))]
    exact fin _ 6 (by omega) (by decide) ⟨fun g => by rcases g with g | g | g | g <;> omega, fun g => Or.inr (Or.inr (Or.inr ⟨k5, g⟩))⟩
  rw [if_neg (fun q => by have := (eq 304 (by decide) (by decide)).mp q; omega)]
  rw [if_neg (fun g => by rcases g with g | g | g | g <;> omega)] at hK
  exact hK
/-- readClause -/
theorem c32 {K : mHeap → Prop} (hE : (tk T (T.length - 1)).1 = 0) (hC : LdC h T i 0) (hL : LaQ h a l (wyP l)) (ok : LdOk l) (ha : 69 ≤ a) {nth : Nat} (hn : nth < 100000) (hK : ∀ h1, laO T a l h h1 i (lcS T i nth l) → K h1) : GoCv (d + 4) 32 [.ref a, .ref 65, .int (ii nth)] h K := by
  have o9 : ∀ {h' : mHeap}, TxS h' → oC h' 65 = 9 := fun t => (TxS_ok t).2.2.2.2.2.2.2.2.2.2
  have o2 : ∀ {h'}, LaS h' a → oC h' a = 2 := fun s => (LaS_ok s).2.2.2.2.2.2.2.2.2.2.2.2.2.2
  have X := hC.2.2.1
  have tb := (X.2.2.2.2.2 i X.2.2.1).1
  have fails : ∀ kind h1, kind < 8 → lcS T i nth l = .inl (flt T i kind) → txG h h1 → TxT h1 T (T.length - 1) (blm T i 0 kind) → K h1 := fun kind h1 hk e G X1 => by
    have fl := flt_lt X hk
    exact hK h1 ⟨laF.txG G, Or.inr ⟨flt T i kind, fl.2, e, hC.tx G X1 fl.1 (Or.inr rfl), hL.tx G (by omega)⟩⟩
  rw [e32, b32_0]
  refine ⟨o9 hC.2.1, ?_⟩
  rw [c107 hC.2.1 X]
  have bad : (tk T i).1 < 301 ∨ 305 < (tk T i).1 → ∀ l0 l2 l3, Go (d + 3) 32 19 [l0, some (.ref 65), l2, l3] [] h (rV K) := fun c l0 l2 l3 => by
    rw [b32_19]
    refine ⟨o9 hC.2.1, ?_⟩
    refine c112 (d := d + 2) (kind := 0) hC.2.1 X (by decide) (fun h1 G X1 => ?_)
    rw [rV_s]
    exact fails 0 h1 (by decide) (by unfold lcS; rw [if_pos c]) G X1
  by_cases c0 : (tk T i).1 < 301
  · rw [if_pos (by rw [show ii 300 = ii (300 : Int) from rfl, ii_lt (by omega) (by omega) (by omega) (by omega)]; omega)]
    exact bad (Or.inl c0) _ _ _
  rw [if_neg (by rw [show ii 300 = ii (300 : Int) from rfl, ii_lt (by omega) (by omega) (by omega) (by omega)]; omega)]
  by_cases c5 : 305 < (tk T i).1
  · rw [if_neg (by rw [show ii 304 = ii (304 : Int) from rfl, ii_le (by omega) (by omega) (by omega) (by omega)]; omega)]
    exact bad (Or.inr c5) _ _ _
  rw [if_pos (by rw [show ii 304 = ii (304 : Int) from rfl, ii_le (by omega) (by omega) (by omega) (by omega)]; omega)]
  have eqt : ∀ z : Int, 0 ≤ z → z < 1000 → (ii (((tk T i).1 : Int) - 1) = ii z ↔ ((tk T i).1 : Int) = z + 1) := fun z z0 z1 => by
    rw [ii_eq (by omega) (by omega) (by omega) (by omega)]
    omega
  have full : (40 ≤ nth ∨ ¬ ((tk T i).1 = 301 ↔ nth = 0) ∨ fulC (tk T i).1 l) → ∀ l0 l2 l3, Go (d + 3) 32 63 [l0, some (.ref 65), l2, l3] [] h (rV K) := fun c l0 l2 l3 => by
    rw [b32_63]
    refine ⟨o9 hC.2.1, ?_⟩
    refine c112 (d := d + 2) (kind := 4) hC.2.1 X (by decide) (fun h1 G X1 => ?_)
    rw [rV_s]
    exact fails 4 h1 (by decide) (by unfold lcS; rw [if_neg (by omega), if_pos c]) G X1
  by_cases c40 : 40 ≤ nth
  · rw [if_pos (by rw [show ii 40 = ii ((40 : Nat) : Int) from rfl, ii_le (by omega) (by omega) (by omega) (by omega)]; omega)]
    exact full (Or.inl c40) _ _ _
  rw [if_neg (by rw [show ii 40 = ii ((40 : Nat) : Int) from rfl, ii_le (by omega) (by omega) (by omega) (by omega)]; omega)]
  -- the two tests are the same
  have two : ∀ l2, ((tk T i).1 = 301 ↔ nth = 0) → Go (d + 3) 32 52 [some (.ref a), some (.ref 65), l2, some (.int (ii (((tk T i).1 : Int) - 1)))] [.int (ii 1), .int (ii 1)] h (rV K) := fun l2 e => by
    rw [b32_52, if_neg (fun g => g rfl)]
    refine ⟨o2 hL.1, ?_⟩
    refine c33 (d := d + 2) hL ok (by omega) ?_
    by_cases cf : fulC (tk T i).1 l
    · rw [if_pos cf, if_neg (by decide)]
      exact full (Or.inr (Or.inr cf)) _ _ _
    rw [if_neg cf, if_pos rfl]
    refine ⟨o9 hC.2.1, ?_⟩
    refine c108 (d := d + 2) hC.2.1 X (fun h1 G X1 => ?_)
    have nxi := nx_in hE X.2.2.1 (by omega)
    rw [nxi.2] at X1
    have C1 := hC.tx G X1 (by decide) (Or.inl rfl)
    have L1 := hL.tx G (by omega)
    have nc : ¬ (40 ≤ nth ∨ ¬ ((tk T i).1 = 301 ↔ nth = 0) ∨ fulC (tk T i).1 l) := by
      rintro (q | q | q)
      · exact c40 q
      · exact q e
      · exact cf q
    have els : lcS T i nth l = (if (tk T i).1 = 301 then fcR T (i + 1) l else if (tk T i).1 = 302 then plR T (i + 1) l else if (tk T i).1 = 303 then paR T (i + 1) l else if (tk T i).1 = 304 then tuR T (i + 1) l else peR T (i + 1) l) := by
      unfold lcS
      rw [if_neg (by omega), if_neg nc]
    have go : ∀ r h2, lcS T i nth l = r → laO T a l h1 h2 (i + 1) r → K h2 := fun r h2 e2 o => by
      refine hK h2 ⟨(laF.txG G).tr o.1, ?_⟩
      rw [e2]
      rcases o.2 with ⟨i', l', q1, q2, q3⟩ | q
      · exact Or.inl ⟨i', l', q1, by omega, q3⟩
      · exact Or.inr q
    by_cases k1 : (tk T i).1 = 301
    · rw [if_pos ((eqt 300 (by decide) (by decide)).mpr (by omega))]
      rw [if_pos k1] at els
      refine ⟨o2 L1.1, c34 hE C1 L1 ha (fun h2 o => ?_)⟩
      rw [rV_s]; exact go _ h2 els o
    rw [if_neg (fun q => by have := (eqt 300 (by decide) (by decide)).mp q; omega)]
    rw [if_neg k1] at els
    by_cases k2 : (tk T i).1 = 302
    · rw [if_pos ((eqt 301 (by decide) (by decide)).mpr (by omega))]
      rw [if_pos k2] at els
      refine ⟨o2 L1.1, c36 hE C1 L1 ok (by
        by_cases g : (ld_p l).length < 6
        · exact g
        · exact absurd (Or.inl ⟨k2, by omega⟩) cf) ha (fun h2 o => ?_)⟩
      rw [rV_s]; exact go _ h2 els o
    rw [if_neg (fun q => by have := (eqt 301 (by decide) (by decide)).mp q; omega)]
    rw [if_neg k2] at els
    by_cases k3 : (tk T i).1 = 303
    · rw [if_pos ((eqt 302 (by decide) (by decide)).mpr (by omega))]
      rw [if_pos k3] at els
      refine ⟨o2 L1.1, c37 hE C1 L1 ok ha (fun h2 o => ?_)⟩
      rw [rV_s]; exact go _ h2 els o
    rw [if_neg (fun q => by have := (eqt 302 (by decide) (by decide)).mp q; omega)]
    rw [if_neg k3] at els
    by_cases k4 : (tk T i).1 = 304
    · rw [if_pos ((eqt 303 (by decide) (by decide)).mpr (by omega))]
      rw [if_pos k4] at els
      refine ⟨o2 L1.1, c38 hE C1 L1 ok (by
        by_cases g : (ld_t l).length < 8
        · exact g
        · exact absurd (Or.inr (Or.inr (Or.inl ⟨k4, by omega⟩))) cf) ha (fun h2 o => ?_)⟩
      rw [rV_s]; exact go _ h2 els o
    rw [if_neg (fun q => by have := (eqt 303 (by decide) (by decide)).mp q; omega)]
    rw [if_neg k4] at els
    rw [if_pos ((eqt 304 (by decide) (by decide)).mpr (by omega))]
    refine ⟨o2 L1.1, c35 hE C1 L1 ok (by
      by_cases g : (ld_q l).length < 6
      · exact g
      · exact absurd (Or.inr (Or.inr (Or.inr ⟨by omega, by omega⟩))) cf) ha (fun h2 o => ?_)⟩
    rw [rV_s]; exact go _ h2 els o
  have not2 : ∀ (l2 : Option Value) (s0 s1 : Int32), ¬ s0 = s1 → ¬ ((tk T i).1 = 301 ↔ nth = 0) → Go (d + 3) 32 52 [some (.ref a), some (.ref 65), l2, some (.int (ii (((tk T i).1 : Int) - 1)))] [.int s1, .int s0] h (rV K) := fun l2 s0 s1 ns ne => by
    rw [b32_52, if_pos ns]
    exact full (Or.inr (Or.inl ne)) _ _ _
  have z0 : ii (nth : Int) = ii 0 ↔ nth = 0 := by
    rw [show ii 0 = ii ((0 : Nat) : Int) from rfl, ii_eq (by omega) (by omega) (by omega) (by omega)]
    omega
  by_cases k1 : (tk T i).1 = 301
  · rw [if_neg (fun q => q ((eqt 300 (by decide) (by decide)).mpr (by omega))), b32_43]
    by_cases n0 : nth = 0
    · rw [if_neg (fun q => q (z0.mpr n0))]
      exact two _ ⟨fun _ => n0, fun _ => k1⟩
    · rw [if_pos (fun q => n0 (z0.mp q))]
      exact not2 _ _ _ (by decide) (fun g => n0 (g.mp k1))
  · rw [if_pos (fun q => by have := (eqt 300 (by decide) (by decide)).mp q; omega), b32_43]
    by_cases n0 : nth = 0
    · rw [if_neg (fun q => q (z0.mpr n0))]
      exact not2 _ _ _ (by decide) (fun g => k1 (g.mpr n0))
    · rw [if_pos (fun q => n0 (z0.mp q))]
      have e : (tk T i).1 = 301 ↔ nth = 0 := ⟨fun g => absurd g k1, fun g => absurd g n0⟩
      have t := two (some (.int (ii (nth : Int)))) e
      rw [b32_52, if_neg (fun g => g rfl)] at t ⊢
      exact t
end La3
