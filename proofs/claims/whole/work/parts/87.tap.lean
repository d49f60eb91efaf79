/-! frames: alike but for the places P -/
def FR (P : Nat → Nat → Bool) (σ σ' : Sto) : Prop := AG (fun a k => !P a k) σ σ' ∧ σ'.2.1 = σ.2.1
theorem FR.rf (P : Nat → Nat → Bool) (σ : Sto) : FR P σ σ := ⟨AG.rf _ _, rfl⟩
theorem FR.tr {P : Nat → Nat → Bool} {σ σ1 σ2 : Sto} (h : FR P σ σ1) (k : FR P σ1 σ2) : FR P σ σ2 := ⟨h.1.tr k.1, k.2.trans h.2⟩
theorem FR.wr {P : Nat → Nat → Bool} {σ σ' : Sto} {a k : Nat} {v : Int32} (h : FR P σ σ') (hp : P a k = true) : FR P σ (sI σ' a k v) := ⟨h.1.wr (by rw [hp]; rfl), h.2⟩
theorem FR.at {P : Nat → Nat → Bool} {σ σ' : Sto} (h : FR P σ σ') {a k : Nat} (hp : P a k = false) : σ'.1 a k = σ.1 a k := h.1 a k (by show (!P a k) = true; rw [hp]; rfl)
theorem FR.sub {P Q : Nat → Nat → Bool} {σ σ' : Sto} (h : FR P σ σ') (hq : ∀ a k, P a k = true → Q a k = true) : FR Q σ σ' := ⟨fun a k p => h.at (pf_of (fun q => by have p : (!Q a k) = true := p; rw [hq a k q] at p; cases p)), h.2⟩
theorem FR.sc {P : Nat → Nat → Bool} {σ σ' : Sto} (h : FR P σ σ') (hq : ∀ a k, P a k = true → scr a k = true) : SC σ σ' := h.sub hq
def tps (a k : Nat) : Bool := Nat.beq a 15 && Nat.ble 2 k
def CS (σ σ' : Sto) : Prop := FR tps σ σ'
theorem CS.rf (σ : Sto) : CS σ σ := FR.rf _ σ
theorem CS.tr {σ σ1 σ2 : Sto} (h : CS σ σ1) (k : CS σ1 σ2) : CS σ σ2 := FR.tr h k
theorem CS.wr {σ σ' : Sto} {a k : Nat} {v : Int32} (h : CS σ σ') (hp : tps a k = true) : CS σ (sI σ' a k v) := FR.wr h hp
theorem CS.at {σ σ' : Sto} (h : CS σ σ') {a k : Nat} (hp : tps a k = false) : σ'.1 a k = σ.1 a k := FR.at h hp
theorem CS.sc {σ σ' : Sto} (h : CS σ σ') : SC σ σ' := FR.sc h (fun a k q => by simp [tps] at q; simp [scr]; omega)
/-! the class's tape -/
def TPE (n : Nat) (L : Lay) (σ : Sto) : Prop := SF L ∧ (∃ lw, RF lw σ.2.1) ∧ n ≤ 108 ∧ σ.1 15 1 = nI n ∧ ∀ i, i < n → ∃ b, b < 256 ∧ σ.1 16 i = nI b
theorem TPE.sc {n : Nat} {L : Lay} {σ σ' : Sto} (h : TPE n L σ) (s : CS σ σ') : TPE n L σ' := by
  obtain ⟨h1, ⟨lw, h2⟩, h3, h4, h5⟩ := h
  refine ⟨h1, ⟨lw, by rw [s.2]; exact h2⟩, h3, (s.at rfl).trans h4, fun i hi => ?_⟩
  rw [s.at (a := 16) rfl]
  exact h5 i hi
def tx (n : Nat) (σ : Sto) : Nat → Int32 := clp n (σ.1 16)
theorem tx_sc {n : Nat} {σ σ' : Sto} (s : CS σ σ') : tx n σ' = tx n σ := clp_congr (fun i _ => s.at rfl)
section
variable {n : Nat} {L : Lay} {σ : Sto}
theorem x9_byte (h : TPE n L σ) {i : Nat} (hi : i < n) : f_X9_byteAt L σ 15 (nI i) = some (tx n σ i) := by
  obtain ⟨hS, ⟨lw, hR⟩, hn, en, hb⟩ := h
  unfold tx
  rw [clp_at _ hi]
  simp (disch := omega) only [f_X9_byteAt, nI_lt0, en, nI_leI, show ¬ n ≤ i by omega, nle_r, show ¬ 108 ≤ i by omega, hR.r15_0, rI_nI hS.l16, if_false, Option.bind_some]
theorem x9_byte' (h : TPE n L σ) {i : Nat} (hi : n ≤ i) (hm : i < 10000) : f_X9_byteAt L σ 15 (nI i) = some (-1) := by
  obtain ⟨hS, ⟨lw, hR⟩, hn, en, hb⟩ := h
  simp (disch := omega) only [f_X9_byteAt, nI_lt0, en, nI_leI, hi, if_true, if_false]
theorem x9_dig (b : Int32) : (if b < 48 then some (3 : Int32) else (if 57 < b then some 3 else some 2)) = some (if 48 ≤ b ∧ b ≤ 57 then 2 else 3) := by
  by_cases h1 : b < 48
  · rw [if_pos h1, if_neg (fun h => Int32.not_le.mpr h1 h.1)]
  · rw [if_neg h1]
    by_cases h2 : 57 < b
    · rw [if_pos h2, if_neg (fun h => Int32.not_le.mpr h2 h.2)]
    · rw [if_neg h2, if_pos ⟨Int32.not_lt.mp h1, Int32.not_lt.mp h2⟩]
theorem x9_sort (h : TPE n L σ) {i : Nat} (hm : i < 10000) : f_X9_sortAt L σ 15 (nI i) = some (nI (srt (tx n σ) n i)) := by
  unfold f_X9_sortAt srt
  by_cases q : i < n
  · obtain ⟨b, hb, eb⟩ := h.2.2.2.2 i q
    have e : tx n σ i = nI b := (clp_at _ q).trans eb
    rw [x9_byte h q, Option.bind_some, if_pos q, e, if_pos (nI_pos' (by omega)), x11_isL, Option.bind_some, x9_dig]
    by_cases q1 : 97 ≤ nI b ∧ nI b ≤ 122
    · rw [if_pos q1, b3_t q1]
      rfl
    · rw [if_neg q1, b3_f q1]
      by_cases q2 : 48 ≤ nI b ∧ nI b ≤ 57
      · rw [if_pos q2, if_pos q2]
        rfl
      · rw [if_neg q2, if_neg q2]
        rfl
  · rw [x9_byte' h (by omega) hm, Option.bind_some, if_neg q, if_neg (by decide), nI_0]
theorem x9_row (L : Lay) (σ : Sto) {s : Nat} (hs : s ≤ 4) : f_X9_isRow L σ (nI s) = some (b3 (row s = true)) := by
  have e : s = 0 ∨ s = 1 ∨ s = 2 ∨ s = 3 ∨ s = 4 := by omega
  rcases e with rfl | rfl | rfl | rfl | rfl <;> rfl
theorem srt_le (t : Nat → Int32) (n i : Nat) : srt t n i ≤ 3 := by
  unfold srt
  split
  · split
    · omega
    · split <;> omega
  · omega
theorem x9_blank : ∀ f p K, n ≤ p + f → p ≤ n → f < K → ∀ {σ : Sto} (p0 : Int32), TPE n L σ → σ.1 15 2 = nI p → ∃ σ2, f_X9_goOn_10 K L σ 15 p0 = f_X9_goOn_47 L σ2 15 p0 ∧ CS σ σ2 ∧ σ2.1 15 2 = nI (sps (tx n σ) n f p)
  | 0, p, K, h1, h2, hK, σ, p0, h, e => by
    obtain ⟨K, rfl⟩ := Nat.exists_eq_add_one_of_ne_zero (show K ≠ 0 by omega)
    have hn := h.2.2.1
    refine ⟨σ, ?_, CS.rf σ, e⟩
    rw [f_X9_goOn_10]
    dsimp only
    rw [h.2.2.2.1, e, if_pos ((nI_leI (by omega) (by omega)).mpr (by omega))]
  | f + 1, p, K, h1, h2, hK, σ, p0, h, e => by
    obtain ⟨K, rfl⟩ := Nat.exists_eq_add_one_of_ne_zero (show K ≠ 0 by omega)
    have hn := h.2.2.1
    rw [f_X9_goOn_10]
    dsimp only
    rw [h.2.2.2.1, e]
    show ∃ σ2, _ ∧ _ ∧ _ = nI (if p < n ∧ tx n σ p = 32 then sps (tx n σ) n f (p + 1) else p)
    by_cases q : p < n
    · rw [if_neg (fun u => by have := (nI_leI (by omega) (by omega)).mp u; omega), x9_byte h q, Option.bind_some]
      by_cases q2 : tx n σ p = 32
      · have s : CS σ (sI σ 15 2 (nI (p + 1))) := (CS.rf σ).wr rfl
        obtain ⟨σ2, g1, g2, g3⟩ := x9_blank f (p + 1) K (by omega) (by omega) (by omega) p0 (h.sc s) (sI_eq _ _ _ _)
        rw [tx_sc s] at g3
        refine ⟨σ2, ?_, s.tr g2, by rw [if_pos ⟨q, q2⟩]; exact g3⟩
        rw [if_pos q2, ← g1, nI_1]
        rfl
      · rw [if_neg q2, if_neg (fun u => q2 u.2)]
        exact ⟨σ, rfl, CS.rf σ, e⟩
    · rw [if_pos ((nI_leI (by omega) (by omega)).mpr (by omega)), if_neg (fun u => q u.1)]
      exact ⟨σ, rfl, CS.rf σ, e⟩
end
