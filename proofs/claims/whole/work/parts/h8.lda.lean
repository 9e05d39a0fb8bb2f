/-! THE REFERENCE: a land's numbers -/
abbrev ldF : List Nat := [28, 29]
abbrev ldR : List Nat := [164, 165, 166, 167, 168, 169, 170, 171, 172, 173, 174]
def Tx (h : mHeap) (B : Bt) (n : Nat) : Prop := RS h ∧ RTx h B n ∧ Byt B n
def LaU (h : mHeap) (B : Bt) (n : Nat) (T : List (Nat × Nat)) (st : Nat ⊕ Nat) : Prop := match st with
  | .inl f => Pd h n f
  | .inr i => (∃ p, fI h 148 28 = ii (p : Nat) ∧ AtT B n T p i) ∧ fI h 148 29 = ii 0
def amS (T : List (Nat × Nat)) (st : Nat ⊕ Nat) (lo hi : Int) : Nat ⊕ Nat := match st with
  | .inl f => .inl f
  | .inr i => if nmF T i lo hi = 0 then .inr (i + 1) else .inl (nmF T i lo hi)
def RLn (h : mHeap) (l : Ld) : Prop := (xA h 164 0 = ii (ld_n l : Nat) ∧ xA h 164 1 = ii (ld_so l : Nat) ∧ xA h 164 2 = ii ((ld_q l).length : Nat) ∧ xA h 164 3 = ii ((ld_p l).length : Nat) ∧ xA h 164 4 = ii ((ld_w l).length : Nat) ∧ xA h 164 5 = ii ((ld_t l).length : Nat)) ∧ (∀ q, q < (ld_q l).length → xA h 165 q = ii ((la_q l q).1 : Nat) ∧ xA h 166 q = ii ((la_q l q).2.1 : Nat) ∧ xA h 167 q = ii ((la_q l q).2.2.1 : Nat) ∧ xA h 168 q = ii ((la_q l q).2.2.2 : Nat)) ∧ (∀ k, k < (ld_p l).length → xA h 169 k = ii ((ld_p l).getD k 0 : Nat)) ∧ (∀ k, k < (ld_w l).length → xA h 170 k = ii ((la_w l k).1 : Nat) ∧ xA h 171 k = ii ((la_w l k).2.1 : Nat) ∧ xA h 172 k = ii ((la_w l k).2.2 : Nat)) ∧ ∀ t, t < (ld_t l).length → xA h 173 t = ii ((la_t l t).1 : Nat) ∧ xA h 174 t = ii ((la_t l t).2 : Nat)
def laU (h : mHeap) (B : Bt) (n : Nat) (T : List (Nat × Nat)) (r : Nat ⊕ (Nat × Ld)) : Prop := match r with
  | .inl f => Pd h n f
  | .inr (i', l') => LaU h B n T (.inr i') ∧ RLn h l'
section Ts
variable {d : Nat} {h h1 h2 h3 : mHeap} {B : Bt} {n p q t i k f c : Nat} {T : List (Nat × Nat)} {F R : List Nat} {l : Ld} {st : Nat ⊕ Nat} {lo hi : Int}
theorem Tx.z (hx : Tx h B n) (z : RF F R h h1) (f : ¬ 27 ∈ F) (r : ¬ 175 ∈ R) (r64 : ∀ a ∈ R, 64 ≤ a) : Tx h1 B n := ⟨z.rs hx.1 r64, hx.2.1.z z f r, hx.2.2⟩
theorem LaU.z (hu : LaU h B n T st) (z : RF F R h h1) (f1 : ¬ 28 ∈ F) (f2 : ¬ 29 ∈ F) : LaU h1 B n T st := by
  cases st with
  | inl f =>
    obtain ⟨a, b, c, p, g, e⟩ : Pd h n f := hu
    exact ⟨by rw [z.fe f2]; exact a, b, c, p, g, by rw [z.fe f1]; exact e⟩
  | inr i =>
    obtain ⟨⟨p, e, a⟩, b⟩ : (∃ p, fI h 148 28 = ii (p : Nat) ∧ AtT B n T p i) ∧ fI h 148 29 = ii 0 := hu
    exact ⟨⟨p, by rw [z.fe f1]; exact e, a⟩, by rw [z.fe f2]; exact b⟩
theorem RS.l164 (hR : RS h) : (okA h 164 .int (ii 0) ∧ eI h 164 (ii 0) = xA h 164 0) ∧ (okA h 164 .int (ii 1) ∧ eI h 164 (ii 1) = xA h 164 1) ∧ (okA h 164 .int (ii 2) ∧ eI h 164 (ii 2) = xA h 164 2) ∧ (okA h 164 .int (ii 3) ∧ eI h 164 (ii 3) = xA h 164 3) ∧ (okA h 164 .int (ii 4) ∧ eI h 164 (ii 4) = xA h 164 4) ∧ (okA h 164 .int (ii 5) ∧ eI h 164 (ii 5) = xA h 164 5) := ⟨hR.x164 (i := 0) (by decide), hR.x164 (i := 1) (by decide), hR.x164 (i := 2) (by decide), hR.x164 (i := 3) (by decide), hR.x164 (i := 4) (by decide), hR.x164 (i := 5) (by decide)⟩
/-- one amount, before a fault or after it -/
theorem c215 {K : Int32 → mHeap → Prop} (hx : Tx h B n) (hu : LaU h B n T st) (hlo : i32 lo) (hhi : i32 hi) (hK : ∀ h1 v, RF ldF [] h h1 → LaU h1 B n T (amS T st lo hi) → v ≤ 99999 → (∀ i, st = .inr i → nmF T i lo hi = 0 → v = nmV T i) → K (ii (v : Nat)) h1) : GoCi (d + 4) 215 [.ref 148, .int (ii lo), .int (ii hi)] h K := by
  obtain ⟨hR, hT, hb⟩ := hx
  have n4 := hT.2.1
  rw [e215, b215_0]
  (try simp only [(RS.ok hR), (RS.fr hR), true_and, and_true, true_or, or_true])
  cases st with
  | inl f =>
    obtain ⟨a, f0, f5, p, g, ep⟩ : Pd h n f := hu
    refine c199 hR hT hb ep g (fun h1 z1 y1 => ?_)
    have R1 : RS h1 := z1.rs hR (by decide)
    have f1 : fI h1 148 29 = ii (f : Nat) := by rw [z1.fe (by decide)]; exact a
    have nz : ¬ ii (f : Nat) = ii 0 := by rw [show ii 0 = ii (0 : Int) from rfl, ii_eq (by omega) (by omega) (by omega) (by omega)]; omega
    simp only [(RS.ok R1), (RS.fr R1), true_and, and_true, true_or, or_true, f1]
    rw [if_pos nz, b215_27]
    simp only [(RS.ok R1), (RS.fr R1), true_and, and_true, true_or, or_true, f1]
    rw [if_pos nz, rI_s]
    exact hK h1 0 (z1.wd (by decide) (by decide)) ⟨f1, f0, f5, _, (hd_le (B := B) g).2, y1⟩ (Nat.zero_le _) (fun i e => by cases e)
  | inr i =>
    obtain ⟨⟨p, ep, ha⟩, hf⟩ : (∃ p, fI h 148 28 = ii (p : Nat) ∧ AtT B n T p i) ∧ fI h 148 29 = ii 0 := hu
    refine c199 hR hT hb ep ha.2 (fun h1 z1 y1 => ?_)
    obtain ⟨bl, pl, le⟩ := ha.bl
    rw [ha.eh] at y1
    have R1 : RS h1 := z1.rs hR (by decide)
    have T1 : RTx h1 B n := hT.z z1 (by decide) (by decide)
    have f1 : fI h1 148 29 = ii 0 := by rw [z1.fe (by decide)]; exact hf
    have fe : ∀ c, flt T i c = 1 + 8 * (tk T i).2 + c := fun c => rfl
    have en : nmF T i lo hi = if (tk T i).1 < 1001 then flt T i 0 else if (tk T i).1 = 101001 ∨ ((tk T i).1 : Int) - 1001 < lo ∨ hi < ((tk T i).1 : Int) - 1001 then flt T i 1 else 0 := rfl
    have ev : nmV T i = (tk T i).1 - 1001 := rfl
    have es : amS T (.inr i) lo hi = if nmF T i lo hi = 0 then .inr (i + 1) else .inl (nmF T i lo hi) := rfl
    simp only [(RS.ok R1), (RS.fr R1), true_and, and_true, true_or, or_true, f1, y1]
    rw [if_neg (fun y => y trivial)]
    have dead : ∀ (h2 : mHeap) (c v : Nat) (x1 x2 x3 : Int32) (l4 : Option Value), RF ldF [] h h2 → nmF T i lo hi = flt T i c → c < 8 → fI h2 148 29 = ii ((flt T i c : Nat) : Int) → (∃ p, p ≤ n ∧ fI h2 148 28 = ii (p : Nat)) → v ≤ 99999 → Go (d + 3) 215 27 [some (.ref 148), some (.int x1), some (.int x2), some (.int x3), l4] [.int (ii (v : Nat))] h2 (rI K) := fun h2 c v x1 x2 x3 l4 z2 e c8 y2 hp hv => by
      have R2 := z2.rs hR (by decide)
      have nz : ¬ ii ((flt T i c : Nat) : Int) = ii 0 := by rw [show ii 0 = ii (0 : Int) from rfl, ii_eq (by rw [fe]; omega) (by rw [fe]; omega) (by omega) (by omega)]; rw [fe]; omega
      rw [b215_27]
      simp only [(RS.ok R2), (RS.fr R2), true_and, and_true, true_or, or_true, y2]
      rw [if_pos nz, rI_s]
      rw [if_neg (by rw [e]; exact flt_n0), e] at es
      refine hK h2 v z2 (by rw [es]; exact ⟨y2, by rw [fe]; omega, by rw [fe]; omega, hp⟩) hv (fun i' e' g => ?_)
      cases e'
      rw [e] at g
      exact absurd g flt_n0
    refine c205 (f := 0) R1 T1 hb y1 le pl f1 (by decide) (fun t1 h2 z2 y2 g2 => ?_) (fun t1 h2 v z2 y2 v9 g2 g3 => ?_)
    · rw [if_pos t1] at en
      exact dead h2 0 0 _ _ _ _ ((z1.wd (by decide) (by decide)).tr z2) en (by decide) g2 ⟨_, le, y2⟩ (Nat.zero_le _)
    · rw [if_neg (by omega)] at en
      have nx := ha.nxt (show ¬ (tk T i).1 = 0 by omega)
      have zz : RF ldF [] h h2 := (z1.wd (by decide) (by decide)).tr z2
      have tl := (tok_le (B := B) nx.2).2
      by_cases c1 : (tk T i).1 = 101001
      · rw [if_pos (Or.inl c1)] at en
        exact dead h2 1 v _ _ _ _ zz en (by decide) (g3 c1) ⟨_, tl, y2⟩ v9
      · obtain ⟨ve, f2⟩ := g2 c1
        have R2 := zz.rs hR (by decide)
        have vb : i32 (v : Int) := ⟨by omega, by omega⟩
        rw [b215_27]
        simp only [(RS.ok R2), (RS.fr R2), true_and, and_true, true_or, or_true, f2]
        rw [if_neg (fun y => y rfl), i2l_ii vb.1 vb.2, i2l_ii hlo.1 hlo.2, i2l_ii hhi.1 hhi.2, c183 vb hlo hhi]
        by_cases c2 : lo ≤ (v : Int) ∧ (v : Int) ≤ hi
        · rw [if_neg (by omega)] at en
          rw [if_pos en] at es
          rw [if_pos c2, if_pos (by decide), rI_s]
          refine hK h2 v zz (by rw [es]; exact ⟨⟨_, y2, nx.1⟩, f2⟩) v9 (fun i' e' _ => ?_)
          cases e'
          rw [ev]; omega
        · rw [if_pos (by omega)] at en
          rw [if_neg c2, if_neg (fun y => y rfl)]
          (try simp only [(RS.ok R2), (RS.fr R2), true_and, and_true, true_or, or_true])
          rw [show GoCv (d + 3) 197 [.ref 148, .int (ii 1), .int (ii ((tk T i).2 : Nat))] h2 _ = GoCv (d + 3) 197 [.ref 148, .int (ii ((1 : Nat) : Int)), .int (ii ((tk T i).2 : Nat))] h2 _ from rfl]
          refine c197 (f := 0) R2 f2 (by decide) (fun h3 z3 y3 => ?_)
          have y3 : fI h3 148 29 = ii ((flt T i 1 : Nat) : Int) := y3
          rw [rI_s]
          rw [if_neg (by rw [en]; exact flt_n0), en] at es
          refine hK h3 v (zz.tr (z3.wd (by decide) (by decide))) (by rw [es]; exact ⟨y3, by rw [fe]; omega, by rw [fe]; omega, _, tl, by rw [z3.fe (by decide)]; exact y2⟩) v9 (fun i' e' g => ?_)
          cases e'
          rw [en] at g
          exact absurd g flt_n0
theorem c217 {K : Int32 → mHeap → Prop} (hR : RS h) (hv : xA h 164 0 = ii (k : Nat)) (hk : k < 31) : GoCi (d + 1) 217 [.ref 148] h K ↔ K (ii (((2 ^ k : Nat) : Int) - 1)) h := by
  rw [e217, b217_0]
  simp only [(RS.ok hR), (RS.fr hR), true_and, and_true, true_or, or_true, hR.l164, hv, rI_s]
  rw [show ii 1 = ii (1 : Int) from rfl, shl_ii 1 (by omega), ii_sub]
  rw [show (1 : Int) * 2 ^ k - 1 = ((2 ^ k : Nat) : Int) - 1 by rw [Int.one_mul, Int.natCast_pow]; rfl]
/-- the places of a land's words among the words -/
def lwk (k : Nat) : Nat := [0, 4, 1, 2, 3].getD k 0
theorem lwk_ok : ∀ k, k < 5 → lwk k < 19 ∧ (301 + lwk k = if k = 0 then 301 else if k = 1 then 305 else 300 + k) := by decide
theorem c216 {K : Nat → mHeap → Prop} (hk : k < 5) : GoCr (d + 1) 216 [.int (ii (k : Nat))] h K ↔ K (2 + wix (lwk k)) h := by
  rw [e216, b216_0]
  have : k = 0 ∨ k = 1 ∨ k = 2 ∨ k = 3 ∨ k = 4 := by omega
  rcases this with g | g | g | g | g <;> (subst g; simp only [rR_s]; exact Iff.rfl)
end Ts
