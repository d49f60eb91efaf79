/-! How the machine's heap holds a layout and a store -/
/-- base, class ids and slots, array class ids by kind, the constants -/
abbrev GT : Type := Nat × va_G × (Nat → ClassId) × (Nat → Nat → Option Nat)
def cv (G : GT) (v : AV) : Value := match v with
  | .inl x => .int x
  | .inr (.inl x) => .long x
  | .inr (.inr (.inl q)) => va_rf (q.2.map (G.1 + ·))
  | .inr (.inr (.inr q)) => va_rf (G.2.2.2 q.1 q.2)
def cE (G : GT) (L : Lay) (σ : Sto) (x : Nat) : va_E := if L.1 x < 13 then .inr (L.1 x, (List.range (nf (L.1 x))).map (fun j => cv G (fval (L.1 x) j σ x))) else if L.1 x < 23 then .inl (G.2.2.1 (L.1 x), L.2.1 x, .inl (σ.1 x)) else .inl (G.2.2.1 (L.1 x), L.2.1 x, .inr (.inr (.inr (.inr (fun j => (σ.2.1 x j).map (G.1 + ·))))))
def wof (G : GT) (L : Lay) (σ : Sto) : va_W := (List.range L.2.2.1).map (fun x => (G.1 + x, cE G L σ x))
abbrev fA (G : GT) : Nat → Prop := fun q => G.1 ≤ q
theorem wof_at {G : GT} {L : Lay} {σ : Sto} {x : Nat} (h : x < L.2.2.1) : (wof G L σ)[x]? = some (G.1 + x, cE G L σ x) := by
  simp [wof, List.getElem?_map, List.getElem?_range h]
theorem wof_len (G : GT) (L : Lay) (σ : Sto) : (wof G L σ).length = L.2.2.1 := by simp [wof]
theorem wof_lt {G : GT} {L : Lay} {σ : Sto} {x : Nat} {q : Nat × va_E} (h : (wof G L σ)[x]? = some q) : x < L.2.2.1 ∧ q = (G.1 + x, cE G L σ x) := by
  have hl : x < L.2.2.1 := by
    have := (List.getElem?_eq_some_iff.mp h).1
    rwa [wof_len] at this
  rw [wof_at hl] at h
  exact ⟨hl, (Option.some.inj h).symm⟩
theorem wof_D (G : GT) (L : Lay) (σ : Sto) : va_D (fA G) (wof G L σ) := by
  refine ⟨fun i j p q hi hj e => ?_, fun k q hk => ?_⟩
  · obtain ⟨-, rfl⟩ := wof_lt hi
    obtain ⟨-, rfl⟩ := wof_lt hj
    exact Nat.add_left_cancel e
  · obtain ⟨-, rfl⟩ := wof_lt hk
    exact Nat.le_add_right _ _
theorem wof_set {G : GT} {L : Lay} {σ σ' : Sto} {x : Nat} {e : va_E} (he : e = cE G L σ' x) (h : ∀ y, y ≠ x → cE G L σ' y = cE G L σ y) : (wof G L σ).set x (G.1 + x, e) = wof G L σ' := by
  subst he
  apply List.ext_getElem?
  intro k
  by_cases hx : x < L.2.2.1
  · by_cases hk : k = x
    · subst hk
      rw [List.getElem?_set_self (by rw [wof_len]; exact hx), wof_at hx]
    · rw [List.getElem?_set_ne (Ne.symm hk)]
      by_cases hl : k < L.2.2.1
      · rw [wof_at hl, wof_at hl, h k hk]
      · rw [List.getElem?_eq_none (by rw [wof_len]; omega), List.getElem?_eq_none (by rw [wof_len]; omega)]
  · rw [List.set_eq_of_length_le (by rw [wof_len]; omega)]
    by_cases hl : k < L.2.2.1
    · rw [wof_at hl, wof_at hl, h k (by omega)]
    · rw [List.getElem?_eq_none (by rw [wof_len]; omega), List.getElem?_eq_none (by rw [wof_len]; omega)]
theorem wof_push {G : GT} {L : Lay} {σ : Sto} {k n w : Nat} {e : va_E} (he : e = cE G (pL L k n w) (zS σ L.2.2.1) L.2.2.1) : wof G L σ ++ [(G.1 + L.2.2.1, e)] = wof G (pL L k n w) (zS σ L.2.2.1) := by
  subst he
  apply List.ext_getElem?
  intro j
  by_cases hj : j < L.2.2.1
  · rw [List.getElem?_append_left (by rw [wof_len]; exact hj), wof_at hj, wof_at (show j < L.2.2.1 + 1 by omega)]
    have e1 : (pL L k n w).1 j = L.1 j := if_neg (by omega)
    have e2 : (pL L k n w).2.1 j = L.2.1 j := if_neg (by omega)
    have e3 : ∀ i, (zS σ L.2.2.1).1 j i = σ.1 j i := fun i => if_neg (by omega)
    have e4 : ∀ i, (zS σ L.2.2.1).2.1 j i = σ.2.1 j i := fun i => if_neg (by omega)
    have e5 : ∀ i, (zS σ L.2.2.1).2.2 j i = σ.2.2 j i := fun i => if_neg (by omega)
    have e3' : (zS σ L.2.2.1).1 j = σ.1 j := funext e3
    unfold cE
    rw [e1, e2, e3']
    simp only [fval, e3, e4, e5]
  · by_cases hj2 : j = L.2.2.1
    · subst hj2
      rw [List.getElem?_append_right (by rw [wof_len]; omega), wof_len, Nat.sub_self, wof_at (show L.2.2.1 < L.2.2.1 + 1 by omega)]
      rfl
    · rw [List.getElem?_eq_none (by rw [List.length_append, wof_len]; simp; omega), List.getElem?_eq_none (by rw [wof_len]; show L.2.2.1 + 1 ≤ j; omega)]
/-- references are of the kinds that their places say -/
def WT (L : Lay) (σ : Sto) : Prop := ∀ x j y, x < L.2.2.1 → σ.2.1 x j = some y → (∀ t, L.1 x < 13 → ftc (L.1 x) j = t + 2 → y < L.2.2.1 ∧ L.1 y = t) ∧ (23 ≤ L.1 x → y < L.2.2.1 ∧ L.1 y = etg (L.1 x))
def okv (L : Lay) (v : AV) : Prop := match v with
  | .inr (.inr (.inl q)) => ∀ y, q.2 = some y → y < L.2.2.1 ∧ L.1 y = q.1
  | .inr (.inr (.inr q)) => (q.1 = 0 ∨ q.1 = 1 → q.2 < 8) ∧ (q.1 = 2 → q.2 < 2)
  | _ => True
def okl (L : Lay) (l : List AV) : Prop := ∀ v ∈ l, okv L v
def okc (L : Lay) (lc : List (Option AV)) : Prop := ∀ i v, lget lc i = some v → okv L v
/-- a layout goes on -/
def LE (L L' : Lay) : Prop := L.2.2.1 ≤ L'.2.2.1 ∧ L.2.2.2 ≤ L'.2.2.2 ∧ ∀ x, x < L.2.2.1 → L'.1 x = L.1 x ∧ L'.2.1 x = L.2.1 x
theorem LE.rf (L : Lay) : LE L L := ⟨Nat.le_refl _, Nat.le_refl _, fun _ _ => ⟨rfl, rfl⟩⟩
theorem LE.tr {A B C : Lay} (h : LE A B) (k : LE B C) : LE A C := ⟨Nat.le_trans h.1 k.1, Nat.le_trans h.2.1 k.2.1, fun x hx => ⟨((k.2.2 x (Nat.lt_of_lt_of_le hx h.1)).1).trans (h.2.2 x hx).1, ((k.2.2 x (Nat.lt_of_lt_of_le hx h.1)).2).trans (h.2.2 x hx).2⟩⟩
theorem LE.push (L : Lay) (k n w : Nat) : LE L (pL L k n w) := ⟨Nat.le_succ _, Nat.le_add_right _ _, fun x hx => ⟨if_neg (by omega), if_neg (by omega)⟩⟩
theorem okv.mono {L L' : Lay} (h : LE L L') {v : AV} (k : okv L v) : okv L' v := by
  match v, k with
  | .inl _, _ => trivial
  | .inr (.inl _), _ => trivial
  | .inr (.inr (.inl q)), k => exact fun y hy => ⟨Nat.lt_of_lt_of_le (k y hy).1 h.1, ((h.2.2 y (k y hy).1).1).trans (k y hy).2⟩
  | .inr (.inr (.inr _)), k => exact k
theorem okl.mono {L L' : Lay} (h : LE L L') {l : List AV} (k : okl L l) : okl L' l := fun v hv => (k v hv).mono h
theorem okc.mono {L L' : Lay} (h : LE L L') {l : List (Option AV)} (k : okc L l) : okc L' l := fun i v hv => (k i v hv).mono h
theorem WT.push {L : Lay} {σ : Sto} (h : WT L σ) (k n w : Nat) : WT (pL L k n w) (zS σ L.2.2.1) := by
  intro x j y hx hy
  have hx : x < L.2.2.1 + 1 := hx
  by_cases e : x = L.2.2.1
  · have : (zS σ L.2.2.1).2.1 x j = none := if_pos e
    rw [this] at hy
    cases hy
  · have hx' : x < L.2.2.1 := by omega
    have hy' : σ.2.1 x j = some y := by
      have : (zS σ L.2.2.1).2.1 x j = σ.2.1 x j := if_neg e
      rw [← this]; exact hy
    have e1 : (pL L k n w).1 x = L.1 x := if_neg e
    rw [e1]
    have key : ∀ t, y < L.2.2.1 ∧ L.1 y = t → y < (pL L k n w).2.2.1 ∧ (pL L k n w).1 y = t := fun t q => ⟨Nat.lt_succ_of_lt q.1, (if_neg (by have := q.1; omega)).trans q.2⟩
    exact ⟨fun t a b => key t ((h x j y hx' hy').1 t a b), fun a => key _ ((h x j y hx' hy').2 a)⟩
theorem WT.sI {L : Lay} {σ : Sto} (h : WT L σ) (a k : Nat) (v : Int32) : WT L (sI σ a k v) := h
theorem WT.sJ {L : Lay} {σ : Sto} (h : WT L σ) (a k : Nat) (v : Int64) : WT L (sJ σ a k v) := h
theorem WT.sR {L : Lay} {σ : Sto} (h : WT L σ) {a k : Nat} {v : Option Nat} (hv : ∀ y, v = some y → (∀ t, L.1 a < 13 → ftc (L.1 a) k = t + 2 → y < L.2.2.1 ∧ L.1 y = t) ∧ (23 ≤ L.1 a → y < L.2.2.1 ∧ L.1 y = etg (L.1 a))) : WT L (sR σ a k v) := by
  intro x j y hx hy
  by_cases e : x = a ∧ j = k
  · have : (Jvm.Pilot.@@N@@.sR σ a k v).2.1 x j = v := if_pos e
    rw [this] at hy
    obtain ⟨rfl, rfl⟩ := e
    exact hv y hy
  · have : (Jvm.Pilot.@@N@@.sR σ a k v).2.1 x j = σ.2.1 x j := if_neg e
    rw [this] at hy
    exact h x j y hx hy
