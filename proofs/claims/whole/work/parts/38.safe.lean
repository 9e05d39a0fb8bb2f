/-! WHO CAN REACH WHAT: a run that holds references of a region alone (and of the statics) writes there alone -/
def sv (P : Nat → Prop) (v : Value) : Prop := ∀ a, v = .ref a → P a ∨ a < 64
def sL (P : Nat → Prop) (L : mLoc) : Prop := ∀ (i : Nat) (v : Value), L[i]? = some (some v) → sv P v
def sS (P : Nat → Prop) (st : List Value) : Prop := ∀ v ∈ st, sv P v
def sX (P : Nat → Prop) (x : mCell) : Prop := match x with
  | .inr (.inr (.inr (_, fs))) => ∀ v ∈ fs, sv P v
  | .inr (.inr (.inl (_, xs))) => ∀ a, some a ∈ xs → P a ∨ a < 64
  | _ => True
def sH (P : Nat → Prop) (h : mHeap) : Prop := ∀ (a : Nat) (x : mCell), P a ∨ a < 64 → h[a]? = some x → sX P x
def sRes (P : Nat → Prop) (h : mHeap) (r : mRes) : Prop := match r with
  | .inl (_, L1, st1, h1) => sL P L1 ∧ sS P st1 ∧ sH P h1 ∧ h.length ≤ h1.length ∧ ∀ a, ¬ P a → h1[a]? = h[a]?
  | .inr (.inl v) => ∀ w, v = some w → sv P w
  | .inr (.inr (_, as, rest)) => sS P as ∧ sS P rest
section Safe
variable {P : Nat → Prop} {L : mLoc} {st : List Value} {h : mHeap}
theorem sv_int {x : Int32} : sv P (.int x) := fun _ e => by cases e
theorem sv_long {x : Int64} : sv P (.long x) := fun _ e => by cases e
theorem sv_null : sv P .null := fun _ e => by cases e
theorem sv_st {n : Nat} (h : n < 64) : sv P (.ref n) := fun _ e => by cases e; exact Or.inr h
theorem sv_P {n : Nat} (h : P n) : sv P (.ref n) := fun _ e => by cases e; exact Or.inl h
theorem sS_nil : sS P [] := fun _ h => by cases h
theorem sS_cons {v : Value} : sS P (v :: st) ↔ (sv P v ∧ sS P st) := by
  constructor
  · intro h
    exact ⟨h _ List.mem_cons_self, fun w hw => h _ (List.mem_cons_of_mem _ hw)⟩
  · rintro ⟨h1, h2⟩ w hw
    rcases List.mem_cons.mp hw with rfl | hw
    · exact h1
    · exact h2 _ hw
theorem sL_set {k : Nat} {v : Value} (hL : sL P L) (hv : sv P v) : sL P (L.set k (some v)) := by
  intro i w hw
  rw [List.getElem?_set] at hw
  split at hw
  · split at hw
    · cases hw; exact hv
    · cases hw
  · exact hL i w hw
theorem sL_non {k : Nat} (hL : sL P L) : sL P (L.set k none) := by
  intro i w hw
  rw [List.getElem?_set] at hw
  split at hw
  · split at hw <;> cases hw
  · exact hL i w hw
theorem sL_sto {k : Nat} {v : Value} (hL : sL P L) (hv : sv P v) : sL P (mSto L k v) := by
  cases k with
  | zero => cases v <;> simp only [mSto] <;> first | exact sL_non (sL_set hL hv) | exact sL_set hL hv
  | succ j =>
    cases hw : L[j]? with
    | none => cases v <;> simp only [mSto, hw] <;> first | exact sL_non (sL_set hL hv) | exact sL_set hL hv
    | some w =>
      cases w with
      | none => cases v <;> simp only [mSto, hw] <;> first | exact sL_non (sL_set hL hv) | exact sL_set hL hv
      | some u => cases u <;> cases v <;> simp only [mSto, hw] <;> first | exact sL_non (sL_set hL hv) | exact sL_set hL hv | exact sL_non (sL_set (sL_non hL) hv) | exact sL_set (sL_non hL) hv
theorem sH_set {a : Nat} {x : mCell} (hH : sH P h) (hx : sX P x) : sH P (h.set a x) := by
  intro b y hb hy
  rw [List.getElem?_set] at hy
  split at hy
  · split at hy
    · cases hy; exact hx
    · cases hy
  · exact hH b y hb hy
theorem sH_app {x : mCell} (hH : sH P h) (hx : sX P x) : sH P (h ++ [x]) := by
  intro b y hb hy
  by_cases q : b < h.length
  · rw [List.getElem?_append_left q] at hy
    exact hH b y hb hy
  · rw [List.getElem?_append_right (by omega)] at hy
    cases hz : b - h.length with
    | zero => rw [hz] at hy; cases hy; exact hx
    | succ n => rw [hz] at hy; cases hy
theorem fr_set {a : Nat} {x : mCell} (ha : P a) : ∀ b, ¬ P b → (h.set a x)[b]? = h[b]? := by
  intro b hb
  rw [List.getElem?_set_ne]
  intro e
  subst e
  exact hb ha
theorem fr_app {x : mCell} (hn : ∀ a, h.length ≤ a → P a) : ∀ b, ¬ P b → (h ++ [x])[b]? = h[b]? := by
  intro b hb
  rw [List.getElem?_append_left]
  by_cases q : b < h.length
  · exact q
  · exact absurd (hn b (by omega)) hb
theorem sv_ref64 {a : Nat} (h : sv P (.ref a)) (h6 : 64 ≤ a) : P a := Or.elim (h a rfl) id (fun q => absurd q (Nat.not_lt.mpr h6))
theorem sS_take {n : Nat} (hS : sS P st) : sS P (st.take n).reverse := fun v hv => hS v (List.mem_of_mem_take (List.mem_reverse.mp hv))
theorem sS_drop {n : Nat} (hS : sS P st) : sS P (st.drop n) := fun v hv => hS v (List.mem_of_mem_drop hv)
theorem sRes_pure {pc1 : Nat} {L1 : mLoc} {st1 : List Value} (h1 : sL P L1) (h2 : sS P st1) (h3 : sH P h) : sRes P h (.inl (pc1, L1, st1, h)) := ⟨h1, h2, h3, Nat.le_refl _, fun _ _ => rfl⟩
theorem sRes_set {pc1 a : Nat} {x : mCell} (h1 : sL P L) (h2 : sS P st) (h3 : sH P h) (hx : sX P x) (ha : P a) : sRes P h (.inl (pc1, L, st, h.set a x)) := ⟨h1, h2, sH_set h3 hx, by rw [List.length_set]; exact Nat.le_refl _, fr_set ha⟩
theorem sRes_app {pc1 : Nat} {x : mCell} (h1 : sL P L) (h2 : sS P st) (h3 : sH P h) (hx : sX P x) (hn : ∀ a, h.length ≤ a → P a) : sRes P h (.inl (pc1, L, .ref h.length :: st, h ++ [x])) := ⟨h1, sS_cons.mpr ⟨sv_P (hn _ (Nat.le_refl _)), h2⟩, sH_app h3 hx, by rw [List.length_append]; omega, fr_app hn⟩
theorem sX_new {c : Nat} : sX P (mNew mNf mTy c) := by
  intro v hv
  obtain ⟨k, -, rfl⟩ := List.mem_map.mp hv
  unfold mZero
  split <;> intro a e <;> cases e
set_option maxRecDepth 100000 in
set_option maxHeartbeats 8000000 in
theorem mStep_safe {rt : Option FieldType} {i : Instr} {nx : Nat} {res : mRes} (hst : mStep mTy mNf rt i nx L st h = some res) (hj : ∀ n, i = .jsr n → n.toNat < 64) (hL : sL P L) (hS : sS P st) (hH : sH P h) (hn : ∀ a, h.length ≤ a → P a) : sRes P h res := by
  cases i with
  | newarray t =>
    cases t with
    | int =>
      simp only [mStep] at hst
      (repeat' split at hst) <;> first | (cases hst; exact sRes_app hL (sS_cons.mp hS).2 hH trivial hn) | cases hst
    | byte =>
      simp only [mStep] at hst
      (repeat' split at hst) <;> first | (cases hst; exact sRes_app hL (sS_cons.mp hS).2 hH trivial hn) | cases hst
    | boolean =>
      simp only [mStep] at hst
      (repeat' split at hst) <;> first | (cases hst; exact sRes_app hL (sS_cons.mp hS).2 hH trivial hn) | cases hst
    | long =>
      simp only [mStep] at hst
      (repeat' split at hst) <;> first | (cases hst; exact sRes_app hL (sS_cons.mp hS).2 hH trivial hn) | cases hst
    | _ => cases hst
  | anewarray c =>
    simp only [mStep] at hst
    (repeat' split at hst) <;> first | (cases hst; refine sRes_app hL (sS_cons.mp hS).2 hH ?_ hn; intro a ha; cases (List.mem_replicate.mp ha).2) | cases hst
  | new c => cases hst; exact sRes_app hL hS hH sX_new hn
  | invokedynamic k =>
    match k, hst with
    | 0, hst =>
      simp only [mStep] at hst
      (repeat' split at hst) <;> first | (cases hst; exact sRes_pure hL (sS_cons.mp hS).2 hH) | cases hst
    | 1, hst =>
      simp only [mStep] at hst
      (repeat' split at hst) <;> first | (cases hst; exact sRes_app hL (sS_cons.mp hS).2 hH trivial hn) | cases hst
    | 2, hst =>
      simp only [mStep] at hst
      split at hst
      · split at hst
        · split at hst
          · rename_i hc
            cases hst
            simp only [sS_cons] at hS
            exact sRes_set hL hS.2.2.2.2.2 hH trivial (sv_ref64 hS.2.2.1 hc.2.1)
          · cases hst
        · cases hst
      · cases hst
    | 3, hst =>
      simp only [mStep] at hst
      (repeat' split at hst) <;> first | (cases hst; exact sRes_pure hL (sS_cons.mpr ⟨sv_int, (sS_cons.mp (sS_cons.mp hS).2).2⟩) hH) | cases hst
    | 4, hst =>
      simp only [mStep] at hst
      (repeat' split at hst) <;> first | (cases hst; exact sRes_pure hL (sS_cons.mpr ⟨sv_int, (sS_cons.mp (sS_cons.mp hS).2).2⟩) hH) | cases hst
    | n + 5, hst => cases hst
  | jsr n => cases hst; exact sRes_pure hL (sS_cons.mpr ⟨sv_st (hj n rfl), hS⟩) hH
  | aload k =>
    simp only [mStep] at hst
    split at hst
    · rename_i x hl
      cases hst
      exact sRes_pure hL (sS_cons.mpr ⟨hL _ _ hl, hS⟩) hH
    · cases hst
      exact sRes_pure hL (sS_cons.mpr ⟨sv_null, hS⟩) hH
    · cases hst
  | astore k =>
    simp only [mStep] at hst
    split at hst
    · split at hst
      · cases hst
        exact sRes_pure (sL_sto hL (sS_cons.mp hS).1) (sS_cons.mp hS).2 hH
      · cases hst
    · split at hst
      · cases hst
        exact sRes_pure (sL_sto hL sv_null) (sS_cons.mp hS).2 hH
      · cases hst
    · cases hst
  | getfield q =>
    simp only [mStep] at hst
    split at hst
    · split at hst
      · rename_i c fs hh
        split at hst
        · split at hst
          · rename_i v hv
            cases hst
            have hS := sS_cons.mp hS
            exact sRes_pure hL (sS_cons.mpr ⟨hH _ _ (hS.1 _ rfl) hh v (List.mem_of_getElem? hv), hS.2⟩) hH
          · cases hst
        · cases hst
      · cases hst
    · cases hst
  | putfield q =>
    simp only [mStep] at hst
    split at hst
    · split at hst
      · rename_i c fs hh
        split at hst
        · rename_i hc
          cases hst
          simp only [sS_cons] at hS
          refine sRes_set hL hS.2.2 hH ?_ (sv_ref64 hS.2.1 hc.1)
          intro v hv
          rcases List.mem_or_eq_of_mem_set hv with q | q
          · exact hH _ _ (hS.2.1 _ rfl) hh v q
          · rw [q]; exact hS.1
        · cases hst
      · cases hst
    · cases hst
  | aaload =>
    simp only [mStep] at hst
    split at hst
    · split at hst
      · rename_i c xs hh
        split at hst
        · cases hst
        · split at hst
          · cases hst
            simp only [sS_cons] at hS
            exact sRes_pure hL (sS_cons.mpr ⟨sv_null, hS.2.2⟩) hH
          · rename_i b hb
            split at hst
            · cases hst
              simp only [sS_cons] at hS
              refine sRes_pure hL (sS_cons.mpr ⟨fun a e => ?_, hS.2.2⟩) hH
              cases e
              exact hH _ _ (hS.2.1 _ rfl) hh b (List.mem_of_getElem? hb)
            · cases hst
          · cases hst
      · cases hst
    · cases hst
  | iastore =>
    simp only [mStep] at hst
    split at hst
    · split at hst
      · split at hst
        · rename_i hc
          cases hst
          simp only [sS_cons] at hS
          exact sRes_set hL hS.2.2.2 hH trivial (sv_ref64 hS.2.2.1 hc.1)
        · cases hst
      · cases hst
    · cases hst
  | bastore =>
    simp only [mStep] at hst
    split at hst
    · split at hst
      · split at hst
        · rename_i hc
          cases hst
          simp only [sS_cons] at hS
          exact sRes_set hL hS.2.2.2 hH trivial (sv_ref64 hS.2.2.1 hc.1)
        · cases hst
      · split at hst
        · rename_i hc
          cases hst
          simp only [sS_cons] at hS
          exact sRes_set hL hS.2.2.2 hH trivial (sv_ref64 hS.2.2.1 hc.1)
        · cases hst
      · cases hst
    · cases hst
  | lastore =>
    simp only [mStep] at hst
    split at hst
    · split at hst
      · split at hst
        · rename_i hc
          cases hst
          simp only [sS_cons] at hS
          exact sRes_set hL hS.2.2.2 hH trivial (sv_ref64 hS.2.2.1 hc.1)
        · cases hst
      · cases hst
    · cases hst
  | aastore =>
    simp only [mStep] at hst
    split at hst
    · split at hst
      · rename_i c xs c2 fs hh hv
        split at hst
        · rename_i hc
          cases hst
          simp only [sS_cons] at hS
          refine sRes_set hL hS.2.2.2 hH ?_ (sv_ref64 hS.2.2.1 hc.1)
          intro a ha
          rcases List.mem_or_eq_of_mem_set ha with q | q
          · exact hH _ _ (hS.2.2.1 _ rfl) hh a q
          · cases q; exact hS.1 _ rfl
        · cases hst
      · cases hst
    · cases hst
  | dup =>
    simp only [mStep] at hst
    (repeat' split at hst) <;> first | (cases hst; exact sRes_pure hL (sS_cons.mpr ⟨(sS_cons.mp hS).1, hS⟩) hH) | cases hst
  | dup2 =>
    simp only [mStep] at hst
    (repeat' split at hst) <;> first | (cases hst; simp only [sS_cons] at hS; refine sRes_pure hL ?_ hH; simp only [sS_cons]; exact ⟨hS.1, hS.2.1, hS.1, hS.2.1, hS.2.2⟩) | (cases hst; simp only [sS_cons] at hS; refine sRes_pure hL ?_ hH; simp only [sS_cons]; exact ⟨hS.1, hS.1, hS.2⟩) | cases hst
  | invokevirtual q =>
    simp only [mStep] at hst
    (repeat' split at hst) <;> first | (cases hst; exact ⟨sS_take hS, sS_drop hS⟩) | cases hst
  | invokespecial q =>
    simp only [mStep] at hst
    (repeat' split at hst) <;> first | (cases hst; exact ⟨sS_take hS, sS_drop hS⟩) | cases hst
  | invokestatic q =>
    simp only [mStep] at hst
    (repeat' split at hst) <;> first | (cases hst; exact ⟨sS_take hS, sS_drop hS⟩) | cases hst
  | ireturn =>
    simp only [mStep] at hst
    (repeat' split at hst) <;> first | (cases hst; intro w e; cases e; exact sv_int) | cases hst
  | lreturn =>
    simp only [mStep] at hst
    (repeat' split at hst) <;> first | (cases hst; intro w e; cases e; exact sv_long) | cases hst
  | areturn =>
    simp only [mStep] at hst
    (repeat' split at hst) <;> first | (cases hst; intro w e; cases e; exact (sS_cons.mp hS).1) | cases hst
  | return_ =>
    simp only [mStep] at hst
    (repeat' split at hst) <;> first | (cases hst; intro w e; cases e) | cases hst
  | checkcast q =>
    simp only [mStep] at hst
    (repeat' split at hst) <;> first | (cases hst; exact sRes_pure hL hS hH) | cases hst
  | ifnull t =>
    simp only [mStep] at hst
    (repeat' split at hst) <;> first | (cases hst; exact sRes_pure hL (sS_cons.mp hS).2 hH) | cases hst
  | ifnonnull t =>
    simp only [mStep] at hst
    (repeat' split at hst) <;> first | (cases hst; exact sRes_pure hL (sS_cons.mp hS).2 hH) | cases hst
  | iconst n => cases hst; exact sRes_pure hL (sS_cons.mpr ⟨sv_int, hS⟩) hH
  | jsr_w n => cases hst; exact sRes_pure hL (sS_cons.mpr ⟨sv_long, hS⟩) hH
  | aconst_null => cases hst; exact sRes_pure hL (sS_cons.mpr ⟨sv_null, hS⟩) hH
  | goto t => cases hst; exact sRes_pure hL hS hH
  | _ =>
    first
    | (exact nomatch (show (none : Option mRes) = _ from hst))
    | (simp only [mStep] at hst
       (repeat' split at hst) <;> first | (exact nomatch (show (none : Option mRes) = _ from hst)) | (cases hst; (try simp only [sS_cons] at hS); refine sRes_pure ?_ ?_ hH <;> first | exact hL | exact sL_sto hL sv_int | exact sL_sto hL sv_long | (simp only [sS_cons]; simp [sv_int, sv_long, hS]; done) | exact hS.2 | exact hS.2.2 | exact hS))
end Safe
theorem jsr_all : mCodes.all (fun c => c.all (fun e => match e.2.1 with | .jsr n => decide (n.toNat < 64) | _ => true)) = true := by decide +kernel
theorem jsr_at {m pc nx : Nat} {n : Int} (hf : mFetch m pc = some (.jsr n, nx)) : n.toNat < 64 := by
  obtain ⟨c, hc, hm⟩ := mFetch_mem hf
  have h1 := List.all_eq_true.mp (List.all_eq_true.mp jsr_all c (List.mem_of_getElem? hc)) _ hm
  exact of_decide_eq_true h1
theorem sL_ent {P : Nat → Prop} : ∀ (as : List Value), sS P as → sL P (mEnt as)
  | [], _, i, v, h => by cases h
  | w :: r, hs, i, v, h => by
    have hs := sS_cons.mp hs
    have ih := sL_ent r hs.2
    have one : mEnt (w :: r) = some w :: mEnt r → sv P v := by
      intro e
      rw [e] at h
      cases i with
      | zero => cases h; exact hs.1
      | succ k => exact ih k v h
    cases w with
    | long x =>
      match i, h with
      | 0, h => cases h; exact sv_long
      | 1, h => cases h
      | k + 2, h => exact ih k v h
    | double x =>
      match i, h with
      | 0, h => cases h; exact hs.1
      | 1, h => cases h
      | k + 2, h => exact ih k v h
    | int x => exact one rfl
    | float x => exact one rfl
    | null => exact one rfl
    | ref x => exact one rfl
    | retAddr x => exact one rfl
theorem sL_pad {P : Nat → Prop} {L : mLoc} {n : Nat} (h : sL P L) : sL P (mPad n L) := by
  intro i v hv
  unfold mPad at hv
  by_cases q : i < L.length
  · rw [List.getElem?_append_left q] at hv
    exact h i v hv
  · rw [List.getElem?_append_right (by omega), List.getElem?_replicate] at hv
    split at hv <;> cases hv
theorem tExec_safe {P : Nat → Prop} : ∀ (n d m pc : Nat) (L : mLoc) (st : List Value) (h : mHeap) (r : Option Value) (h1 : mHeap), tExec d n m pc L st h = some (r, h1) → sL P L → sS P st → sH P h → (∀ a, h.length ≤ a → P a) → (∀ w, r = some w → sv P w) ∧ sH P h1 ∧ h.length ≤ h1.length ∧ ∀ a, ¬ P a → h1[a]? = h[a]? := by
  intro n
  induction n with
  | zero => intro d m pc L st h r h1 hx; cases hx
  | succ n ih =>
    intro d m pc L st h r h1 hx hL hS hH hn
    unfold tExec at hx
    split at hx
    · cases hx
    · rename_i i nx hf
      have hj : ∀ n, i = .jsr n → n.toNat < 64 := fun n e => by subst e; exact jsr_at hf
      split at hx
      · cases hx
      · rename_i hs
        obtain ⟨g1, g2, g3, g4, g5⟩ := mStep_safe (tSt_mSt hs) hj hL hS hH hn
        obtain ⟨k1, k2, k3, k4⟩ := ih _ _ _ _ _ _ _ _ hx g1 g2 g3 (fun a ha => hn a (Nat.le_trans g4 ha))
        exact ⟨k1, k2, Nat.le_trans g4 k3, fun a ha => (k4 a ha).trans (g5 a ha)⟩
      · rename_i hs
        cases hx
        exact ⟨mStep_safe (tSt_mSt hs) hj hL hS hH hn, hH, Nat.le_refl _, fun _ _ => rfl⟩
      · rename_i q as rest hs
        obtain ⟨g1, g2⟩ := mStep_safe (tSt_mSt hs) hj hL hS hH hn
        split at hx
        · cases hx
        · split at hx
          · split at hx
            · cases hx
            · rename_i v h2 hc
              obtain ⟨c1, c2, c3, c4⟩ := ih _ _ _ _ _ _ _ _ hc (sL_pad (sL_ent _ g1)) sS_nil hH hn
              obtain ⟨k1, k2, k3, k4⟩ := ih _ _ _ _ _ _ _ _ hx hL (by
                cases v with
                | none => exact g2
                | some w => exact sS_cons.mpr ⟨c1 w rfl, g2⟩) c2 (fun a ha => hn a (Nat.le_trans c3 ha))
              exact ⟨k1, k2, Nat.le_trans c3 k3, fun a ha => (k4 a ha).trans (c4 a ha)⟩
          · cases hx
theorem GoC_safe {P : Nat → Prop} {d y : Nat} {as : List Value} {h : mHeap} {K : Option Value → mHeap → Prop} (hS : sS P as) (hH : sH P h) (hn : ∀ a, h.length ≤ a → P a) (g : GoC d y as h K) : GoC d y as h (fun r h1 => K r h1 ∧ sH P h1 ∧ h.length ≤ h1.length ∧ ∀ a, ¬ P a → h1[a]? = h[a]?) := by
  match d, g with
  | d1 + 1, ⟨hl, n, r, h1, e, q⟩ =>
    exact ⟨hl, n, r, h1, e, q, (tExec_safe n d1 y 0 _ [] h r h1 e (sL_pad (sL_ent _ hS)) sS_nil hH hn).2⟩
