/-! Numbers, loops -/
theorem lit32 (n : Nat) : (no_index (OfNat.ofNat n) : Int32) = nI (OfNat.ofNat n) := rfl
theorem loop {S R : Type} (F : Nat → S → Option R) (s : Nat → S) (n : Nat) (r : Option R) (hs : ∀ i k, i < n → F (k + 1) (s i) = F k (s (i + 1))) (he : ∀ k, F (k + 1) (s n) = r) : ∀ {K : Nat}, n < K → F K (s 0) = r := by
  intro K hK
  have h : ∀ j i K, i + j = n → j < K → F K (s i) = r := by
    intro j
    induction j with
    | zero =>
      intro i K h1 h2
      obtain ⟨K, rfl⟩ := Nat.exists_eq_add_one_of_ne_zero (Nat.ne_of_gt h2)
      obtain rfl : i = n := by omega
      exact he K
    | succ j ih =>
      intro i K h1 h2
      obtain ⟨K, rfl⟩ := Nat.exists_eq_add_one_of_ne_zero (show K ≠ 0 by omega)
      rw [hs i K (by omega)]
      exact ih (i + 1) K (by omega) (by omega)
  exact h n 0 K (by omega) hK
theorem loopd {S R : Type} (F : Nat → S → Option R) (s : Nat → S) (G : Nat → Option R) (n : Nat) (hs : ∀ i k, i < n → (F (k + 1) (s i) = F k (s (i + 1)) ∧ G i = G (i + 1)) ∨ F (k + 1) (s i) = G i) (he : ∀ k, F (k + 1) (s n) = G n) : ∀ {K : Nat}, n < K → F K (s 0) = G 0 := by
  intro K hK
  have h : ∀ j i K, i + j = n → j < K → F K (s i) = G i := by
    intro j
    induction j with
    | zero =>
      intro i K h1 h2
      obtain ⟨K, rfl⟩ := Nat.exists_eq_add_one_of_ne_zero (Nat.ne_of_gt h2)
      obtain rfl : i = n := by omega
      exact he K
    | succ j ih =>
      intro i K h1 h2
      obtain ⟨K, rfl⟩ := Nat.exists_eq_add_one_of_ne_zero (show K ≠ 0 by omega)
      rcases hs i K (by omega) with ⟨a, b⟩ | a
      · rw [a, b]
        exact ih (i + 1) K (by omega) (by omega)
      · exact a
  exact h n 0 K (by omega) hK
/-- f 0 first, f (n - 1) last -/
def itr {α : Type} (f : Nat → α → α) : Nat → α → α
  | 0, a => a
  | n + 1, a => f n (itr f n a)
theorem FU_lt {n : Nat} (h : n < 5000) : n < FU := h
/-! what tests answer -/
def b3 (p : Prop) [Decidable p] : Int32 := if p then 1 else 0
theorem b3_t {p : Prop} [Decidable p] (h : p) : b3 p = 1 := if_pos h
theorem b3_f {p : Prop} [Decidable p] (h : ¬ p) : b3 p = 0 := if_neg h
theorem b3_z {p : Prop} [Decidable p] : (b3 p = 0) = ¬ p := by
  by_cases h : p
  · rw [b3_t h]; simp [h]
  · rw [b3_f h]; simp [h]
theorem ck0 : ckN 1 0 = some () := by decide
theorem ck1 : ckN 1 1 = some () := by decide
theorem ckb {p : Prop} [Decidable p] : ckN 1 (b3 p) = some () := by
  by_cases h : p
  · rw [b3_t h]; exact ck1
  · rw [b3_f h]; exact ck0
theorem x12_in (L : Lay) (σ : Sto) (x y z : Int32) : f_X12_in L σ x y z = f_X11_isWithin L σ x y z := rfl
theorem wi (L : Lay) (σ : Sto) (x y z : Int32) : f_X11_isWithin L σ x y z = some (b3 (y ≤ x ∧ x ≤ z)) := by
  unfold f_X11_isWithin
  simp only [ck0, ck1, Option.bind_some]
  by_cases h1 : x < y
  · rw [if_pos h1, b3_f (fun h => Int32.not_le.mpr h1 h.1)]
  · rw [if_neg h1]
    by_cases h2 : z < x
    · rw [if_pos h2, b3_f (fun h => Int32.not_le.mpr h2 h.2)]
    · rw [if_neg h2, b3_t ⟨Int32.not_lt.mp h1, Int32.not_lt.mp h2⟩]
theorem one_b3 {p : Prop} [Decidable p] (L : Lay) (σ : Sto) : f_X11_oneIf L σ (b3 p) = some (b3 p) := by
  unfold f_X11_oneIf
  by_cases h : p
  · rw [b3_t h]; rfl
  · rw [b3_f h]; rfl
theorem ixc (x : Int32) (n : Nat) (hn : n < 2 ^ 31) : (x < 0 ∨ nI n ≤ x) ∨ ∃ j, j < n ∧ x = nI j := by
  rcases pk_ix x hn with h | h | h
  · exact .inl (.inl h)
  · exact .inl (.inr h)
  · exact .inr h
theorem wi_in {n i : Nat} (L : Lay) (σ : Sto) (h : i < n) (hn : n < 2 ^ 30) : f_X11_isWithin L σ (nI i) 0 (nI n - 1) = some 1 := by
  obtain ⟨n, rfl⟩ := Nat.exists_eq_add_one_of_ne_zero (show n ≠ 0 by omega)
  rw [wi, nI_pred, b3_t]
  exact ⟨nI_pos' (by omega), nI_le (by omega) (by omega)⟩
theorem wi_out {n : Nat} {x : Int32} (L : Lay) (σ : Sto) (h : x < 0 ∨ nI n ≤ x) (hn : n < 2 ^ 30) : f_X11_isWithin L σ x 0 (nI n - 1) = some 0 := by
  rw [wi, b3_f]
  rintro ⟨h1, h2⟩
  rcases h with h | h
  · exact Int32.not_le.mpr h h1
  · cases n with
    | zero =>
      have := Int32.le_trans h1 h2
      exact absurd this (by decide)
    | succ n =>
      rw [nI_pred] at h2
      exact nI_ge (Nat.lt_succ_self n) (by omega) (Int32.le_trans h h2)
/-! places of rows -/
theorem inb_nI {i n : Nat} (h : i < n) (hn : i < 2 ^ 31) : inb (nI i) n = true := by
  unfold inb
  rw [nI_clamp hn]
  exact decide_eq_true (fun q => q.elim (nI_pos hn) (fun q => absurd h (Nat.not_lt.mpr q)))
theorem rI_nI {L : Lay} {σ : Sto} {a i n : Nat} (hl : L.2.1 a = n) (h : i < n) (hn : i < 2 ^ 31) : rI L σ a (nI i) = some (σ.1 a i) := by
  unfold rI
  rw [if_pos (by rw [hl]; exact inb_nI h hn), nI_clamp hn]
theorem rR_nI {L : Lay} {σ : Sto} {a i n : Nat} (hl : L.2.1 a = n) (h : i < n) (hn : i < 2 ^ 31) : rR L σ a (nI i) = some (σ.2.1 a i) := by
  unfold rR
  rw [if_pos (by rw [hl]; exact inb_nI h hn), nI_clamp hn]
theorem wI_nI {L : Lay} {σ : Sto} {a i n : Nat} {v : Int32} (hl : L.2.1 a = n) (h : i < n) (hn : i < 2 ^ 31) : wI L σ a (nI i) v = some (sI σ a i v) := by
  unfold wI
  rw [if_pos (by rw [hl]; exact inb_nI h hn), nI_clamp hn]
theorem wR_nI {L : Lay} {σ : Sto} {a i n : Nat} {v : Option Nat} (hl : L.2.1 a = n) (h : i < n) (hn : i < 2 ^ 31) : wR L σ a (nI i) v = some (sR σ a i v) := by
  unfold wR
  rw [if_pos (by rw [hl]; exact inb_nI h hn), nI_clamp hn]
/-! stores -/
theorem sI_at (σ : Sto) (a k : Nat) (v : Int32) (a' k' : Nat) : (sI σ a k v).1 a' k' = if a' = a ∧ k' = k then v else σ.1 a' k' := rfl
theorem sI_2 (σ : Sto) (a k : Nat) (v : Int32) : (sI σ a k v).2 = σ.2 := rfl
theorem sR_1 (σ : Sto) (a k : Nat) (v : Option Nat) : (sR σ a k v).1 = σ.1 := rfl
theorem sR_3 (σ : Sto) (a k : Nat) (v : Option Nat) : (sR σ a k v).2.2 = σ.2.2 := rfl
theorem sR_at (σ : Sto) (a k : Nat) (v : Option Nat) (a' k' : Nat) : (sR σ a k v).2.1 a' k' = if a' = a ∧ k' = k then v else σ.2.1 a' k' := rfl
theorem sJ_1 (σ : Sto) (a k : Nat) (v : Int64) : (sJ σ a k v).1 = σ.1 := rfl
theorem sJ_2 (σ : Sto) (a k : Nat) (v : Int64) : (sJ σ a k v).2.1 = σ.2.1 := rfl
theorem sJ_at (σ : Sto) (a k : Nat) (v : Int64) (a' k' : Nat) : (sJ σ a k v).2.2 a' k' = if a' = a ∧ k' = k then v else σ.2.2 a' k' := rfl
theorem zS_1 (σ : Sto) (a : Nat) (a' k' : Nat) : (zS σ a).1 a' k' = if a' = a then 0 else σ.1 a' k' := rfl
theorem zS_2 (σ : Sto) (a : Nat) (a' k' : Nat) : (zS σ a).2.1 a' k' = if a' = a then none else σ.2.1 a' k' := rfl
/-- alike on the places P -/
def SM (P : Nat → Nat → Prop) (σ σ' : Sto) : Prop := ∀ a k, P a k → σ'.1 a k = σ.1 a k
theorem SM.rf (P : Nat → Nat → Prop) (σ : Sto) : SM P σ σ := fun _ _ _ => rfl
theorem SM.tr {P : Nat → Nat → Prop} {σ σ1 σ2 : Sto} (h : SM P σ σ1) (k : SM P σ1 σ2) : SM P σ σ2 := fun a i p => (k a i p).trans (h a i p)
theorem SM.sub {P Q : Nat → Nat → Prop} {σ σ' : Sto} (h : SM P σ σ') (hq : ∀ a k, Q a k → P a k) : SM Q σ σ' := fun a k p => h a k (hq a k p)
theorem SM.wr {P : Nat → Nat → Prop} {σ σ' : Sto} {a k : Nat} {v : Int32} (h : SM P σ σ') (hp : ¬ P a k) : SM P σ (sI σ' a k v) := fun a' k' p => by
  rw [sI_at, if_neg (fun e => hp (by rw [← e.1, ← e.2]; exact p))]
  exact h a' k' p
