/-! RULES read: a sum -/
def rrR (T : List (Nat × Nat)) (h h1 : mHeap) (O : List Nat) (r : Nat ⊕ (Nat × Nat × List Nat)) : Prop := rrF h h1 ∧ ((∃ i' n' W, r = .inr (i', n', W) ∧ RrC h1 T i' n' 0 ∧ RrO h1 (O ++ W)) ∨ (∃ f' n' O', ¬ f' = 0 ∧ r = .inl f' ∧ RrC h1 T (T.length - 1) n' f' ∧ RrO h1 O'))
def rrD (T : List (Nat × Nat)) (h h1 : mHeap) (f : Nat) : Prop := rrF h h1 ∧ ∃ n' O', RrC h1 T (T.length - 1) n' f ∧ RrO h1 O'
def pL (c : Nat) : List Nat := if c = 0 then [] else [c - 1]
section Rr1
variable {d i n f : Nat} {h h1 h2 : mHeap} {T : List (Nat × Nat)} {O : List Nat}
theorem pL_le (c : Nat) : (pL c).length ≤ 1 := by
  unfold pL
  split <;> simp
/-- what comes out of a sum: how far, how many, how long -/
theorem suL_ok : ∀ g i n p W i' n' W', suL T g i n p W = .inr (i', n', W') → i ≤ i' ∧ n ≤ n' ∧ W'.length + 2 * n = W.length + p.length + 2 * n'
  | 0, i, n, p, W, i', n', W', e => by
    have e' : (Sum.inr (i, n, W ++ p) : Nat ⊕ (Nat × Nat × List Nat)) = .inr (i', n', W') := e
    cases e'
    rw [List.length_append]
    omega
  | g + 1, i, n, p, W, i', n', W', e => by
    unfold suL at e
    by_cases c1 : (tk T i).1 = 43 ∨ (tk T i).1 = 48 ∨ (tk T i).1 = 38
    · rw [if_pos c1] at e
      by_cases c : itF T isVa (i + 1) n = 0
      · rw [if_pos c] at e
        have := suL_ok g _ _ _ _ _ _ _ e
        rw [List.length_append] at this
        have l2 : [(tk T (i + 1)).1 - 1, (tk T i).1 - 1].length = 2 := rfl
        omega
      · rw [if_neg c] at e; cases e
    rw [if_neg c1] at e
    by_cases c2 : (tk T i).1 = 44 ∨ (tk T i).1 = 46
    · rw [if_pos c2] at e
      by_cases c : itF T isVa (i + 1) n = 0
      · rw [if_pos c] at e
        have := suL_ok g _ _ _ _ _ _ _ e
        rw [List.length_append, List.length_append] at this
        have l1 : [(tk T (i + 1)).1 - 1].length = 1 := rfl
        have l2 : [(tk T i).1 - 1].length = 1 := rfl
        omega
      · rw [if_neg c] at e; cases e
    rw [if_neg c2] at e
    cases e
    rw [List.length_append]
    omega
theorem suS_ok {i' n' : Nat} {W' : List Nat} (e : suS T i n = .inr (i', n', W')) : i < i' ∧ n < n' ∧ W'.length + 2 * n + 1 = 2 * n' := by
  unfold suS at e
  by_cases c : itF T isVa i n = 0
  · rw [if_pos c] at e
    have := suL_ok _ _ _ _ _ _ _ _ e
    have l1 : [(tk T i).1 - 1].length = 1 := rfl
    have l0 : ([] : List Nat).length = 0 := rfl
    omega
  · rw [if_neg c] at e; cases e
/-- emit what stands for nothing or for a sign -/
theorem em {K : mHeap → Prop} (hC : RrC h T i n f) (hO : RrO h O) {c : Nat} (hc : c ≤ 101001) (hK : ∀ h1 O', rrF h h1 → RrC h1 T i n f → RrO h1 O' → (O.length < 400 → O' = O ++ pL c) → K h1) : GoCv (d + 1) 78 [.ref 119, .int (ii ((c : Int) - 1))] h K := by
  by_cases c0 : c = 0
  · subst c0
    exact c78n (hK h O rrF.rf hC hO (fun _ => by unfold pL; rw [if_pos rfl, List.append_nil]))
  · have e : ii ((c : Int) - 1) = ii ((c - 1 : Nat) : Int) := by
      congr 1
      omega
    rw [e]
    refine c78 hC hO (by omega) (fun h1 F1 C1 O1 O2 => ?_)
    by_cases l : O.length < 400
    · exact hK h1 _ F1 C1 (O1 l) (fun _ => by unfold pL; rw [if_neg c0])
    · exact hK h1 O F1 C1 (O2 l) (fun g => absurd g l)
/-- the end of a sum -/
theorem end74 {K : mHeap → Prop} (hC : RrC h T i n f) (hO : RrO h O) {c : Nat} (hc : c ≤ 101001) {l2 l3 : Option Value} (hK : ∀ h1 O', rrF h h1 → RrC h1 T i n f → RrO h1 O' → (O.length < 400 → O' = O ++ pL c) → K h1) : Go (d + 1) 74 138 [some (.ref 119), some (.int (ii ((c : Int) - 1))), l2, l3] [] h (rV K) := by
  rw [b74_138]
  refine ⟨(RrS_ok hC.2.2.2.1).2.2.2.2.2.2.2.2.2.2.2, ?_⟩
  refine em hC hO hc (fun h1 O' a b c2 e => ?_)
  rw [rV_s]
  exact hK h1 O' a b c2 e
theorem dead74 {K : mHeap → Prop} (hE : (tk T (T.length - 1)).1 = 0) (hC : RrC h T (T.length - 1) n f) (hO : RrO h O) {c : Nat} (hc : c ≤ 101001) {x2 : Int32} {l3 : Option Value} (hK : ∀ h1, rrD T h h1 f → K h1) : Go (d + 2) 74 22 [some (.ref 119), some (.int (ii ((c : Int) - 1))), some (.int x2), l3] [] h (rV K) := by
  have fin : ∀ l3, Go (d + 2) 74 138 [some (.ref 119), some (.int (ii ((c : Int) - 1))), some (.int x2), l3] [] h (rV K) := fun l3 => end74 (d := d + 1) hC hO hc (fun h1 O' a b c2 _ => hK h1 ⟨a, n, O', b, c2⟩)
  rw [b74_22]
  by_cases g : ii 400 ≤ x2
  · rw [if_pos g]; exact fin _
  rw [if_neg g]
  simp only [RrS_ok hC.2.2.2.1, true_and]
  refine ⟨(TxS_ok hC.2.1).2.2.2.2.2.2.2.2.2.2, ?_⟩
  rw [c107 hC.2.1 hC.2.2.1, hE]
  rw [if_neg (by decide), if_neg (by decide), if_pos (by decide), if_neg (by decide), if_pos (by decide)]
  exact fin _
theorem va0 : ¬ isVa 0 := by
  rintro (g | g)
  · exact absurd g (by decide)
  · exact absurd g.1 (by decide)
/-- readSum, once all has failed -/
theorem c74d {K : mHeap → Prop} (hE : (tk T (T.length - 1)).1 = 0) (hC : RrC h T (T.length - 1) n f) (hO : RrO h O) (nf : ¬ f = 0) (hK : ∀ h1, rrD T h h1 f → K h1) : GoCv (d + 4) 74 [.ref 119] h K := by
  have o6 := (RrS_ok hC.2.2.2.1).2.2.2.2.2.2.2.2.2.2.2
  rw [e74, b74_0]
  simp only [RrS_ok hC.2.2.2.1, true_and]
  refine ⟨(TxS_ok hC.2.1).2.2.2.2.2.2.2.2.2.2, ?_⟩
  rw [c107 hC.2.1 hC.2.2.1, isVa_t (by rw [hE]; decide)]
  refine ⟨o6, ?_⟩
  refine c77 (d := d + 1) hC hO hE (Or.inr rfl) va0 (fun g => absurd g nf) (fun f' nf' _ ef h1 F1 C1 O1 => ?_)
  have ef' := ef nf
  subst ef'
  refine ⟨(RrS_ok C1.2.2.2.1).2.2.2.2.2.2.2.2.2.2.2, ?_⟩
  refine em (d := d + 2) C1 O1 (by rw [hE]; decide) (fun h2 O2 F2 C2 R2 _ => ?_)
  exact dead74 (d := d + 1) (c := 0) hE C2 R2 (by decide) (fun h3 D => hK h3 ⟨F1.tr (F2.tr D.1), D.2⟩)
/-- readSum -/
theorem c74 {K : mHeap → Prop} (hE : (tk T (T.length - 1)).1 = 0) (hC : RrC h T i n 0) (hO : RrO h O) (hroom : O.length + 2 * (60 - n) ≤ 400) (hK : ∀ h1, rrR T h h1 O (suS T i n) → K h1) : GoCv (d + 4) 74 [.ref 119] h K := by
  have o6 := (RrS_ok hC.2.2.2.1).2.2.2.2.2.2.2.2.2.2.2
  have hX := hC.2.2.1
  have tb := (hX.2.2.2.2.2 i hX.2.2.1).1
  have hT := hX.2.2.2.1
  rw [e74, b74_0]
  simp only [RrS_ok hC.2.2.2.1, true_and]
  refine ⟨(TxS_ok hC.2.1).2.2.2.2.2.2.2.2.2.2, ?_⟩
  rw [c107 hC.2.1 hX, isVa_t tb]
  refine ⟨o6, ?_⟩
  -- the loop, with what it still has to do
  have lp : ∀ g i' n' c W x2 l3 (h' : mHeap), T.length ≤ g + i' → rrF h h' → RrC h' T i' n' 0 → RrO h' (O ++ W) → c ≤ 101001 → n ≤ n' → W.length + (pL c).length + 2 * n + 1 = 2 * n' → x2 + i + 1 ≤ i' → (∀ h1, rrR T h h1 O (suL T g i' n' (pL c) W) → K h1) → Go (d + 3) 74 22 [some (.ref 119), some (.int (ii ((c : Int) - 1))), some (.int (ii (x2 : Nat))), l3] [] h' (rV K) := by
    intro g
    induction g with
    | zero =>
      intro i' n' c W x2 l3 h' hg F C R hc hn hW hx hk
      have := C.2.2.1.2.2.1
      omega
    | succ g ih =>
      intro i' n' c W x2 l3 h' hg F C R hc hn hW hx hk
      have X := C.2.2.1
      have hi' := X.2.2.1
      have tb' := (X.2.2.2.2.2 i' hi').1
      have o9 := (TxS_ok C.2.1).2.2.2.2.2.2.2.2.2.2
      have n60 := C.2.2.2.2.2.1
      have pl := pL_le c
      have OW : (O ++ W).length = O.length + W.length := List.length_append
      have ex : ii (x2 : Int) + ii 1 = ii ((x2 + 1 : Nat) : Int) := by rw [ii_add]; rfl
      have eq : ∀ z : Int, 0 ≤ z → z < 1000 → (ii (((tk T i').1 : Int) - 1) = ii z ↔ ((tk T i').1 : Int) = z + 1) := fun z z0 z1 => by
        rw [ii_eq (by omega) (by omega) (by omega) (by omega)]
        omega
      -- the end
      have stop : suL T (g + 1) i' n' (pL c) W = .inr (i', n', W ++ pL c) → ∀ l3, Go (d + 3) 74 138 [some (.ref 119), some (.int (ii ((c : Int) - 1))), some (.int (ii (x2 : Nat))), l3] [] h' (rV K) := fun es l3 => by
        refine end74 (d := d + 2) C R hc (fun h1 O' F1 C1 R1 e1 => ?_)
        rw [es] at hk
        refine hk h1 ⟨F.tr F1, Or.inl ⟨i', n', W ++ pL c, rfl, C1, ?_⟩⟩
        by_cases cl : (O ++ W).length < 400
        · rw [e1 cl, List.append_assoc] at R1
          exact R1
        · exfalso
          have : n' ≤ 60 := n60
          omega
      -- times, by, rest
      have mul : ((tk T i').1 = 43 ∨ (tk T i').1 = 48 ∨ (tk T i').1 = 38) → Go (d + 3) 74 55 [some (.ref 119), some (.int (ii ((c : Int) - 1))), some (.int (ii (x2 : Nat))), some (.int (ii (((tk T i').1 : Int) - 1)))] [] h' (rV K) := fun c1 => by
        have nxi := nx_in hE hi' (by omega)
        rw [b74_55]
        simp only [RrS_ok C.2.2.2.1, true_and]
        refine ⟨o9, ?_⟩
        refine c108 (d := d + 2) C.2.1 X (fun h1 G X1 => ?_)
        rw [nxi.2] at X1
        have C1 := C.tx G X1 (by decide)
        have R1 := R.tx G
        have F1 := F.tr (rrF.txG G)
        have tb1 := (X1.2.2.2.2.2 (i' + 1) nxi.1).1
        simp only [RrS_ok C1.2.2.2.1, true_and]
        refine ⟨(TxS_ok C1.2.1).2.2.2.2.2.2.2.2.2.2, ?_⟩
        rw [c107 C1.2.1 X1, isVa_t tb1]
        refine ⟨(RrS_ok C1.2.2.2.1).2.2.2.2.2.2.2.2.2.2.2, ?_⟩
        have es : suL T (g + 1) i' n' (pL c) W = (if itF T isVa (i' + 1) n' = 0 then suL T g (i' + 2) (n' + 1) (pL c) (W ++ [(tk T (i' + 1)).1 - 1, (tk T i').1 - 1]) else .inl (itF T isVa (i' + 1) n')) := by
          rw [suL, if_pos c1]
        rw [es] at hk
        refine c77 (d := d + 1) C1 R1 hE (Or.inl rfl) va0 (fun _ it h2 F2 li C2 R2 => ?_) (fun f' nf' it _ h2 F2 C2 R2 => ?_)
        · rw [if_pos it] at hk
          have nv : 1 ≤ (tk T (i' + 1)).1 := by
            by_cases z : 1 ≤ (tk T (i' + 1)).1
            · exact z
            · exfalso
              unfold itF at it
              rw [if_neg (by rw [show (tk T (i' + 1)).1 = 0 by omega]; exact va0)] at it
              exact (flt_lt X1 (kind := 0) (by decide)).2 it
          have n61 := C2.2.2.2.2.2.1
          refine ⟨(RrS_ok C2.2.2.2.1).2.2.2.2.2.2.2.2.2.2.2, ?_⟩
          refine em (d := d + 2) C2 R2 tb1 (fun h3 O3 F3 C3 R3 e3 => ?_)
          have e3' := e3 (by omega)
          have p1 : pL (tk T (i' + 1)).1 = [(tk T (i' + 1)).1 - 1] := by unfold pL; rw [if_neg (by omega)]
          rw [p1] at e3'
          subst e3'
          refine ⟨(RrS_ok C3.2.2.2.1).2.2.2.2.2.2.2.2.2.2.2, ?_⟩
          refine em (d := d + 2) C3 R3 tb' (fun h4 O4 F4 C4 R4 e4 => ?_)
          have e4' := e4 (by rw [List.length_append]; show (O ++ W).length + 1 < 400; omega)
          have p2 : pL (tk T i').1 = [(tk T i').1 - 1] := by unfold pL; rw [if_neg (by omega)]
          rw [p2] at e4'
          subst e4'
          rw [b74_132, ex]
          refine ih (i' + 2) (n' + 1) c (W ++ [(tk T (i' + 1)).1 - 1, (tk T i').1 - 1]) (x2 + 1) _ h4 (by omega) (F1.tr (F2.tr (F3.tr F4))) C4 ?_ hc (by omega) ?_ (by omega) hk
          · have : O ++ W ++ [(tk T (i' + 1)).1 - 1] ++ [(tk T i').1 - 1] = O ++ (W ++ [(tk T (i' + 1)).1 - 1, (tk T i').1 - 1]) := by
              rw [List.append_assoc, List.append_assoc]; rfl
            rw [this] at R4
            exact R4
          · rw [List.length_append]
            show W.length + 2 + (pL c).length + 2 * n + 1 = 2 * (n' + 1)
            omega
        · have it' := it rfl
          rw [if_neg (by rw [it']; exact nf')] at hk
          refine ⟨(RrS_ok C2.2.2.2.1).2.2.2.2.2.2.2.2.2.2.2, ?_⟩
          refine em (d := d + 2) C2 R2 tb1 (fun h3 O3 F3 C3 R3 _ => ?_)
          refine ⟨(RrS_ok C3.2.2.2.1).2.2.2.2.2.2.2.2.2.2.2, ?_⟩
          refine em (d := d + 2) C3 R3 tb' (fun h4 O4 F4 C4 R4 _ => ?_)
          rw [b74_132]
          refine dead74 (d := d + 1) hE C4 R4 hc (fun h5 D => hk h5 ⟨F1.tr (F2.tr (F3.tr (F4.tr D.1))), Or.inr ?_⟩)
          obtain ⟨n5, O5, C5, R5⟩ := D.2
          exact ⟨f', n5, O5, nf', by rw [it'], C5, R5⟩
      -- plus, minus
      have add : ¬ ((tk T i').1 = 43 ∨ (tk T i').1 = 48 ∨ (tk T i').1 = 38) → ((tk T i').1 = 44 ∨ (tk T i').1 = 46) → Go (d + 3) 74 100 [some (.ref 119), some (.int (ii ((c : Int) - 1))), some (.int (ii (x2 : Nat))), some (.int (ii (((tk T i').1 : Int) - 1)))] [] h' (rV K) := fun c0 c1 => by
        have nxi := nx_in hE hi' (by omega)
        rw [b74_100]
        simp only [RrS_ok C.2.2.2.1, true_and]
        refine ⟨o9, ?_⟩
        refine c108 (d := d + 2) C.2.1 X (fun h1 G X1 => ?_)
        rw [nxi.2] at X1
        have C1 := C.tx G X1 (by decide)
        have R1 := R.tx G
        have F1 := F.tr (rrF.txG G)
        have tb1 := (X1.2.2.2.2.2 (i' + 1) nxi.1).1
        refine ⟨(RrS_ok C1.2.2.2.1).2.2.2.2.2.2.2.2.2.2.2, ?_⟩
        refine em (d := d + 2) C1 R1 hc (fun h2 O2 F2 C2 R2 e2 => ?_)
        have es : suL T (g + 1) i' n' (pL c) W = (if itF T isVa (i' + 1) n' = 0 then suL T g (i' + 2) (n' + 1) [(tk T i').1 - 1] (W ++ pL c ++ [(tk T (i' + 1)).1 - 1]) else .inl (itF T isVa (i' + 1) n')) := by
          rw [suL, if_neg c0, if_pos c1]
        rw [es] at hk
        have X2 := C2.2.2.1
        simp only [RrS_ok C2.2.2.2.1, true_and]
        refine ⟨(TxS_ok C2.2.1).2.2.2.2.2.2.2.2.2.2, ?_⟩
        rw [c107 C2.2.1 X2, isVa_t tb1]
        refine ⟨(RrS_ok C2.2.2.2.1).2.2.2.2.2.2.2.2.2.2.2, ?_⟩
        refine c77 (d := d + 1) C2 R2 hE (Or.inl rfl) va0 (fun _ it h3 F3 li C3 R3 => ?_) (fun f' nf' it _ h3 F3 C3 R3 => ?_)
        · rw [if_pos it] at hk
          have nv : 1 ≤ (tk T (i' + 1)).1 := by
            by_cases z : 1 ≤ (tk T (i' + 1)).1
            · exact z
            · exfalso
              unfold itF at it
              rw [if_neg (by rw [show (tk T (i' + 1)).1 = 0 by omega]; exact va0)] at it
              exact (flt_lt X1 (kind := 0) (by decide)).2 it
          have n61 := C3.2.2.2.2.2.1
          have e2' := e2 (by omega)
          subst e2'
          refine ⟨(RrS_ok C3.2.2.2.1).2.2.2.2.2.2.2.2.2.2.2, ?_⟩
          refine em (d := d + 2) C3 R3 tb1 (fun h4 O4 F4 C4 R4 e4 => ?_)
          have e4' := e4 (by rw [List.length_append]; omega)
          have p1 : pL (tk T (i' + 1)).1 = [(tk T (i' + 1)).1 - 1] := by unfold pL; rw [if_neg (by omega)]
          have p2 : pL (tk T i').1 = [(tk T i').1 - 1] := by unfold pL; rw [if_neg (by omega)]
          rw [p1] at e4'
          subst e4'
          rw [b74_132, ex]
          rw [← p2] at hk
          refine ih (i' + 2) (n' + 1) (tk T i').1 (W ++ pL c ++ [(tk T (i' + 1)).1 - 1]) (x2 + 1) _ h4 (by omega) (F1.tr (F2.tr (F3.tr F4))) C4 ?_ tb' (by omega) ?_ (by omega) hk
          · have : O ++ W ++ pL c ++ [(tk T (i' + 1)).1 - 1] = O ++ (W ++ pL c ++ [(tk T (i' + 1)).1 - 1]) := by
              rw [List.append_assoc, List.append_assoc, List.append_assoc]
            rw [this] at R4
            exact R4
          · rw [p2, List.length_append, List.length_append]
            show W.length + (pL c).length + 1 + 1 + 2 * n + 1 = 2 * (n' + 1)
            omega
        · have it' := it rfl
          rw [if_neg (by rw [it']; exact nf')] at hk
          refine ⟨(RrS_ok C3.2.2.2.1).2.2.2.2.2.2.2.2.2.2.2, ?_⟩
          refine em (d := d + 2) C3 R3 tb1 (fun h4 O4 F4 C4 R4 _ => ?_)
          rw [b74_132]
          refine dead74 (d := d + 1) hE C4 R4 tb' (fun h5 D => hk h5 ⟨F1.tr (F2.tr (F3.tr (F4.tr D.1))), Or.inr ?_⟩)
          obtain ⟨n5, O5, C5, R5⟩ := D.2
          exact ⟨f', n5, O5, nf', by rw [it'], C5, R5⟩
      rw [b74_22]
      rw [if_neg (by rw [show ii 400 = ii ((400 : Nat) : Int) from rfl, ii_le (by omega) (by omega) (by omega) (by omega)]; omega)]
      simp only [RrS_ok C.2.2.2.1, true_and]
      refine ⟨o9, ?_⟩
      rw [c107 C.2.1 X]
      by_cases t1 : (tk T i').1 = 43
      · rw [if_pos ((eq 42 (by decide) (by decide)).mpr (by omega))]
        exact mul (Or.inl t1)
      rw [if_neg (fun q => by have := (eq 42 (by decide) (by decide)).mp q; omega)]
      by_cases t2 : (tk T i').1 = 48
      · rw [if_pos ((eq 47 (by decide) (by decide)).mpr (by omega))]
        exact mul (Or.inr (Or.inl t2))
      rw [if_neg (fun q => by have := (eq 47 (by decide) (by decide)).mp q; omega)]
      by_cases t3 : (tk T i').1 = 38
      · rw [if_neg (fun q => q ((eq 37 (by decide) (by decide)).mpr (by omega)))]
        exact mul (Or.inr (Or.inr t3))
      rw [if_pos (fun q => by have := (eq 37 (by decide) (by decide)).mp q; omega)]
      by_cases t4 : (tk T i').1 = 44
      · rw [if_pos ((eq 43 (by decide) (by decide)).mpr (by omega))]
        exact add (by omega) (Or.inl t4)
      rw [if_neg (fun q => by have := (eq 43 (by decide) (by decide)).mp q; omega)]
      by_cases t5 : (tk T i').1 = 46
      · rw [if_neg (fun q => q ((eq 45 (by decide) (by decide)).mpr (by omega)))]
        exact add (by omega) (Or.inr t5)
      rw [if_pos (fun q => by have := (eq 45 (by decide) (by decide)).mp q; omega)]
      exact stop (by rw [suL, if_neg (by omega), if_neg (by omega)]) _
  refine c77 (d := d + 1) hC hO hE (Or.inl rfl) va0 (fun _ it h1 F1 li C1 R1 => ?_) (fun f' nf' it _ h1 F1 C1 R1 => ?_)
  · have nv : 1 ≤ (tk T i).1 := by
      by_cases z : 1 ≤ (tk T i).1
      · exact z
      · exfalso
        unfold itF at it
        rw [if_neg (by rw [show (tk T i).1 = 0 by omega]; exact va0)] at it
        exact (flt_lt hX (kind := 0) (by decide)).2 it
    have n61 := C1.2.2.2.2.2.1
    refine ⟨(RrS_ok C1.2.2.2.1).2.2.2.2.2.2.2.2.2.2.2, ?_⟩
    refine em (d := d + 2) C1 R1 tb (fun h2 O2 F2 C2 R2 e2 => ?_)
    have e2' := e2 (by omega)
    have p1 : pL (tk T i).1 = [(tk T i).1 - 1] := by unfold pL; rw [if_neg (by omega)]
    rw [p1] at e2'
    subst e2'
    refine lp T.length (i + 1) (n + 1) 0 [(tk T i).1 - 1] 0 none h2 (by omega) (F1.tr F2) C2 R2 (by decide) (by omega) ?_ (by omega) (fun h3 r => hK h3 ?_)
    · show 1 + (pL 0).length + 2 * n + 1 = 2 * (n + 1)
      have : (pL 0).length = 0 := rfl
      omega
    · unfold suS
      rw [if_pos it]
      exact r
  · have it' := it rfl
    refine ⟨(RrS_ok C1.2.2.2.1).2.2.2.2.2.2.2.2.2.2.2, ?_⟩
    refine em (d := d + 2) C1 R1 tb (fun h2 O2 F2 C2 R2 _ => ?_)
    refine dead74 (d := d + 1) (c := 0) hE C2 R2 (by decide) (fun h3 D => hK h3 ⟨F1.tr (F2.tr D.1), Or.inr ?_⟩)
    obtain ⟨n5, O5, C5, R5⟩ := D.2
    exact ⟨f', n5, O5, nf', by unfold suS; rw [if_neg (by rw [it']; exact nf'), it'], C5, R5⟩
end Rr1
