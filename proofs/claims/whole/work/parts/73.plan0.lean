/-! PLANS: the best from here, as numbers -/
def itr {α : Type} (f : α → Nat → α) (a : α) : Nat → α
  | 0 => a
  | k + 1 => f (itr f a k) k
theorem itr_s {α : Type} {f : α → Nat → α} {a : α} {k : Nat} : itr f a (k + 1) = f (itr f a k) k := rfl
theorem dvn {a b : Nat} (ha : a < 2147483648) (h0 : 0 < b) (hb : b < 2147483648) : ii (a : Int) / ii (b : Int) = ii ((a / b : Nat) : Int) := by
  rw [ii_div (by omega) (by omega) (by omega) (by omega)]
  rfl
theorem rmn {a b : Nat} (ha : a < 2147483648) (h0 : 0 < b) (hb : b < 2147483648) : irm (ii (a : Int)) (ii (b : Int)) = ii ((a % b : Nat) : Int) := by
  rw [irm_ii (by omega) (by omega) (by omega) (by omega)]
  rfl
theorem dv8 {a : Nat} (ha : a < 2147483648) : ii (a : Int) / ii 8 = ii ((a / 8 : Nat) : Int) := dvn ha (by decide) (by decide)
theorem rm8 {a : Nat} (ha : a < 2147483648) : irm (ii (a : Int)) (ii 8) = ii ((a % 8 : Nat) : Int) := rmn ha (by decide) (by decide)
theorem dv32 {a : Nat} (ha : a < 2147483648) : ii (a : Int) / ii 32 = ii ((a / 32 : Nat) : Int) := dvn ha (by decide) (by decide)
theorem rm32 {a : Nat} (ha : a < 2147483648) : irm (ii (a : Int)) (ii 32) = ii ((a % 32 : Nat) : Int) := rmn ha (by decide) (by decide)
theorem dv2 {a : Nat} (ha : a < 2147483648) : ii (a : Int) / ii 2 = ii ((a / 2 : Nat) : Int) := dvn ha (by decide) (by decide)
theorem rm2 {a : Nat} (ha : a < 2147483648) : irm (ii (a : Int)) (ii 2) = ii ((a % 2 : Nat) : Int) := rmn ha (by decide) (by decide)
/-- can a step be taken -/
noncomputable def stp (S : List Wd) (P : Pg) (l : List Nat) (v : Wd) (ov t : Nat) : Bool := (!ov.testBit (t / 8)) && ((knw S (mo_w (pg_m P) (l.getD (t / 8) 0 + 1)) 255).testBit (t % 8) && brB S P v (l.getD (t / 8) 0) (t % 8))
noncomputable def plG (S : List Wd) (P : Pg) (l : List Nat) (v : Wd) (ov : Nat) (f : Wd → Nat → Nat) (best t : Nat) : Nat := if stp S P l v ov t = true ∧ best / 32 < 1 + f (capW v (sy S (t % 8))) (ov ||| 2 ^ (t / 8)) / 32 then (1 + f (capW v (sy S (t % 8))) (ov ||| 2 ^ (t / 8)) / 32) * 32 + t else best
/-- the best from here with so many to come: how many get over, and the first step -/
noncomputable def plF (S : List Wd) (P : Pg) (l : List Nat) : Nat → Wd → Nat → Nat
  | 0, _, _ => 0
  | k + 1, v, ov => itr (plG S P l v ov (fun v' o' => plF S P l k v' o')) 0 (8 * l.length)
section PlG
variable {S : List Wd} {P : Pg} {l : List Nat} {v : Wd} {ov : Nat} {f : Wd → Nat → Nat}
theorem plF_s {k : Nat} : plF S P l (k + 1) v ov = itr (plG S P l v ov (plF S P l k)) 0 (8 * l.length) := rfl
theorem plG_y {best t : Nat} (c : stp S P l v ov t = true) (g : best / 32 < 1 + f (capW v (sy S (t % 8))) (ov ||| 2 ^ (t / 8)) / 32) : plG S P l v ov f best t = (1 + f (capW v (sy S (t % 8))) (ov ||| 2 ^ (t / 8)) / 32) * 32 + t := by
  unfold plG
  rw [if_pos ⟨c, g⟩]
theorem plG_n {best t : Nat} (c : ¬ stp S P l v ov t = true) : plG S P l v ov f best t = best := by
  unfold plG
  rw [if_neg (fun g => c g.1)]
theorem plG_o {best t : Nat} (g : ¬ best / 32 < 1 + f (capW v (sy S (t % 8))) (ov ||| 2 ^ (t / 8)) / 32) : plG S P l v ov f best t = best := by
  unfold plG
  rw [if_neg (fun q => g q.2)]
/-- what the loop has found is nothing, or a step that can be taken and what comes behind it -/
theorem plG_is : ∀ n, n ≤ 32 → itr (plG S P l v ov f) 0 n = 0 ∨ (32 ≤ itr (plG S P l v ov f) 0 n ∧ itr (plG S P l v ov f) 0 n % 32 < n ∧ stp S P l v ov (itr (plG S P l v ov f) 0 n % 32) = true ∧ itr (plG S P l v ov f) 0 n / 32 = 1 + f (capW v (sy S (itr (plG S P l v ov f) 0 n % 32 % 8))) (ov ||| 2 ^ (itr (plG S P l v ov f) 0 n % 32 / 8)) / 32)
  | 0, _ => Or.inl rfl
  | n + 1, hn => by
    have ih := plG_is n (by omega)
    rw [itr_s]
    by_cases c : stp S P l v ov n = true
    · by_cases g : itr (plG S P l v ov f) 0 n / 32 < 1 + f (capW v (sy S (n % 8))) (ov ||| 2 ^ (n / 8)) / 32
      · rw [plG_y c g]
        have e1 : ((1 + f (capW v (sy S (n % 8))) (ov ||| 2 ^ (n / 8)) / 32) * 32 + n) % 32 = n := by
          generalize f (capW v (sy S (n % 8))) (ov ||| 2 ^ (n / 8)) / 32 = G
          omega
        have e2 : ((1 + f (capW v (sy S (n % 8))) (ov ||| 2 ^ (n / 8)) / 32) * 32 + n) / 32 = 1 + f (capW v (sy S (n % 8))) (ov ||| 2 ^ (n / 8)) / 32 := by
          generalize f (capW v (sy S (n % 8))) (ov ||| 2 ^ (n / 8)) / 32 = G
          omega
        refine Or.inr ⟨by generalize f (capW v (sy S (n % 8))) (ov ||| 2 ^ (n / 8)) / 32 = G; omega, ?_⟩
        rw [e1, e2]
        exact ⟨by omega, c, rfl⟩
      · rw [plG_o g]
        rcases ih with a | ⟨a, b, c2, e⟩
        · exact Or.inl a
        · exact Or.inr ⟨a, by omega, c2, e⟩
    · rw [plG_n c]
      rcases ih with a | ⟨a, b, c2, e⟩
      · exact Or.inl a
      · exact Or.inr ⟨a, by omega, c2, e⟩
theorem plF_lt (hl : l.length ≤ 4) : ∀ k v ov, plF S P l k v ov < 32 * (k + 1)
  | 0, _, _ => (by show 0 < 32 * (0 + 1); decide)
  | k + 1, v, ov => by
    rw [plF_s]
    rcases plG_is (S := S) (P := P) (l := l) (v := v) (ov := ov) (f := plF S P l k) (8 * l.length) (by omega) with a | ⟨a, b, c2, e⟩
    · rw [a]; omega
    · have ih := plF_lt hl k (capW v (sy S (itr (plG S P l v ov (plF S P l k)) 0 (8 * l.length) % 32 % 8))) (ov ||| 2 ^ (itr (plG S P l v ov (plF S P l k)) 0 (8 * l.length) % 32 / 8))
      generalize plF S P l k (capW v (sy S (itr (plG S P l v ov (plF S P l k)) 0 (8 * l.length) % 32 % 8))) (ov ||| 2 ^ (itr (plG S P l v ov (plF S P l k)) 0 (8 * l.length) % 32 / 8)) = G at *
      generalize itr (plG S P l v ov (plF S P l k)) 0 (8 * l.length) = B at *
      omega
/-- behind the best first step the rest is found -/
theorem plF_is (hl : l.length ≤ 4) {k : Nat} (h : 32 ≤ plF S P l (k + 1) v ov) : plF S P l (k + 1) v ov % 32 < 8 * l.length ∧ stp S P l v ov (plF S P l (k + 1) v ov % 32) = true ∧ plF S P l (k + 1) v ov / 32 = 1 + plF S P l k (capW v (sy S (plF S P l (k + 1) v ov % 32 % 8))) (ov ||| 2 ^ (plF S P l (k + 1) v ov % 32 / 8)) / 32 := by
  rw [plF_s] at *
  rcases plG_is (S := S) (P := P) (l := l) (v := v) (ov := ov) (f := plF S P l k) (8 * l.length) (by omega) with a | ⟨a, b, c2, e⟩
  · omega
  · exact ⟨b, c2, e⟩
/-- how many are over -/
def bc4 (ov : Nat) : Nat := cB (fun i => ov.testBit i) 4
theorem bc4_s : ∀ ov, ov < 16 → ∀ j, j < 4 → ov.testBit j = false → bc4 (ov ||| 2 ^ j) = bc4 ov + 1 ∧ ov ||| 2 ^ j < 16 := by decide +kernel
theorem or_256 {t s : Nat} (ht : t < 256) (hs : s < 8) : t ||| 2 ^ s < 256 := Nat.or_lt_two_pow (n := 8) ht (Nat.pow_lt_pow_right (by decide) hs)
/-- what the bridge holds when it was told these -/
def vtW (S : List Wd) (v0 : Wd) (told : Nat) : Wd := fun w => decide (w < 256) && (v0 w && (List.range 8).all (fun i => !told.testBit i || sy S i w))
theorem vtW_s {v0 : Wd} {told s : Nat} (hs : s < 8) : capW (vtW S v0 told) (sy S s) = vtW S v0 (told ||| 2 ^ s) := by
  funext w
  unfold capW vtW
  by_cases c : w < 256
  · cases hv : v0 w with
    | false => simp
    | true =>
      rw [decide_eq_true c, Bool.true_and, Bool.true_and, Bool.true_and, Bool.true_and, Bool.true_and]
      rw [Bool.eq_iff_iff, Bool.and_eq_true, List.all_eq_true, List.all_eq_true]
      constructor
      · rintro ⟨a, b⟩ i hi
        have := a i hi
        rw [Nat.testBit_or, Nat.testBit_two_pow]
        by_cases g : s = i
        · subst g; simp [b]
        · simpa [g] using this
      · intro a
        refine ⟨fun i hi => ?_, ?_⟩
        · have := a i hi
          rw [Nat.testBit_or, Nat.testBit_two_pow] at this
          cases q : told.testBit i with
          | false => rfl
          | true => rw [q] at this; simpa using this
        · have := a s (List.mem_range.mpr hs)
          rw [Nat.testBit_or, Nat.testBit_two_pow] at this
          simpa using this
  · rw [decide_eq_false c]; rfl
theorem vtW_0 {v0 : Wd} : vtW S v0 0 = fun w => decide (w < 256) && v0 w := by
  funext w
  unfold vtW
  have : (List.range 8).all (fun i => !(0 : Nat).testBit i || sy S i w) = true := by
    rw [List.all_eq_true]
    intro i hi
    rw [Nat.zero_testBit]; rfl
  rw [this, Bool.and_true]
end PlG
/-- what is kept of the best: right where it is, and with what follows it -/
def Mem (S : List Wd) (P : Pg) (l : List Nat) (v0 : Wd) (X : Nat → Int32) : Prop := ∀ ov told, ov < 16 → told < 256 → X (ov * 256 + told) = ii (-1) ∨ (X (ov * 256 + told) = ii (plF S P l (l.length - bc4 ov) (vtW S v0 told) ov : Nat) ∧ (32 ≤ plF S P l (l.length - bc4 ov) (vtW S v0 told) ov → bc4 ov + 1 < l.length → ¬ X ((ov ||| 2 ^ (plF S P l (l.length - bc4 ov) (vtW S v0 told) ov % 32 / 8)) * 256 + (told ||| 2 ^ (plF S P l (l.length - bc4 ov) (vtW S v0 told) ov % 32 % 8))) = ii (-1)))
def Mon (X Y : Nat → Int32) : Prop := ∀ i, ¬ X i = ii (-1) → Y i = X i
section C8
variable {d : Nat} {h h1 : mHeap} {S : List Wd} {P : Pg} {l : List Nat}
theorem Mon.rf {X : Nat → Int32} : Mon X X := fun _ _ => rfl
theorem Mon.tr {X Y Z : Nat → Int32} (a : Mon X Y) (b : Mon Y Z) : Mon X Z := fun i hi => by rw [b i (by rw [a i hi]; exact hi), a i hi]
theorem ii_n1 {n : Nat} (hn : n < 2147483648) : ¬ ii (n : Int) = ii (-1) := by
  rw [ii_eq (by omega) (by omega) (by omega) (by omega)]
  omega
/-- isStep -/
theorem c8 {K : Int32 → mHeap → Prop} (hA : AdO h) (hAP : AdP h) (hS : SyR h S) (hP : PgR h 97 P) (hC : CrS h S P l) (hm : mo_f (pg_m P) < 256) (hw : ∀ o, o < (ld_q (pg_l P)).length → (la_q (pg_l P) o).2.1 ≤ 128) (hl : ∀ i, i < l.length → l.getD i 0 < (ld_q (pg_l P)).length) {dep t ov : Nat} (hd : dep < 5) (ht : t < 8 * l.length) (ho : ov < 16) (hK : K (if stp S P l (wo h (131 + dep)) ov t = true then ii 1 else ii 0) h) : GoCi (d + 4) 8 [.ref 125, .int (ii dep), .int (ii t), .int (ii ov)] h K := by
  have h4 := hC.2.1
  have t8 : t / 8 < l.length := by omega
  have C := hC.2.2 (t / 8) t8
  have hlen := hS.2.2.1
  rw [e8, b8_0, dv8 (by omega), rm8 (by omega)]
  refine ⟨by decide, by decide, ?_⟩
  rw [bit_n (by omega) (by omega)]
  unfold stp at hK
  cases b1 : ov.testBit (t / 8) with
  | true =>
    rw [if_pos (by decide)]
    refine ⟨by simp, ?_⟩
    rw [rI_s]
    rw [b1] at hK
    exact hK
  | false =>
    rw [if_neg (by decide)]
    rw [b1] at hK
    have r1 := row_ok hAP.2.2.2.1 (show t / 8 < 4 by omega) (by omega)
    simp only [AdS_ok2 hA.1, true_and, r1, C.2]
    have kl := knw_lt (S := S) (mo_w (pg_m P) (l.getD (t / 8) 0 + 1)) 255 hlen
    rw [bit_n (by omega) (by omega)]
    cases b2 : (knw S (mo_w (pg_m P) (l.getD (t / 8) 0 + 1)) 255).testBit (t % 8) with
    | false =>
      rw [if_pos (by decide)]
      refine ⟨by simp, ?_⟩
      rw [rI_s]
      rw [b2] at hK
      exact hK
    | true =>
      rw [if_neg (by decide)]
      rw [b2] at hK
      have sl : t % 8 < S.length := by
        unfold knw at b2
        rw [btO_bit] at b2
        simp only [Bool.and_eq_true, decide_eq_true_eq] at b2
        exact b2.1
      have wd := hAP.2.2.2.2.2.2 dep hd
      have r2 := row_ok hAP.2.2.1 (show t / 8 < 4 by omega) (by omega)
      have p1 : okR h 127 (ii dep) := by
        rw [okR_kd, hAP.1]
        refine ⟨⟨rfl, rfl⟩, ?_, ?_⟩
        · rw [ii_lt0 (by omega) (by omega)]; omega
        · rw [ix_ii (by omega) (by omega), Int.toNat_natCast, hAP.2.1 dep hd]; show 64 ≤ 131 + dep; omega
      have p2 : eR h 127 (ii dep) = 131 + dep := by
        rw [eR_xR, ix_ii (by omega) (by omega), Int.toNat_natCast, hAP.2.1 dep hd]; rfl
      simp only [AdS_ok2 hA.1, AdS_ok hA.1, true_and, p1, p2, r2, C.1]
      refine c1 hA.1 hS hP wd hm (hl _ t8) sl (hw _ (hl _ t8)) ?_
      cases b3 : brB S P (wo h (131 + dep)) (l.getD (t / 8) 0) (t % 8) with
      | false =>
        rw [if_pos (by decide)]
        refine ⟨by simp, ?_⟩
        rw [rI_s]
        rw [b3] at hK
        exact hK
      | true =>
        rw [if_neg (by decide)]
        refine ⟨by simp, ?_⟩
        rw [rI_s]
        rw [b3] at hK
        exact hK
end C8
