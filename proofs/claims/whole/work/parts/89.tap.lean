/-! the reference's text -/
def rps (a k : Nat) : Bool := Nat.beq a 37 && (Nat.ble 53 k && Nat.ble k 56)
def RS (σ σ' : Sto) : Prop := FR rps σ σ'
theorem RS.rf (σ : Sto) : RS σ σ := FR.rf _ σ
theorem RS.tr {σ σ1 σ2 : Sto} (h : RS σ σ1) (k : RS σ1 σ2) : RS σ σ2 := FR.tr h k
theorem RS.wr {σ σ' : Sto} {k : Nat} {v : Int32} (h : RS σ σ') (hk : 53 ≤ k ∧ k ≤ 56) : RS σ (sI σ' 37 k v) := FR.wr h (by simp [rps]; omega)
theorem RS.at {σ σ' : Sto} (h : RS σ σ') {a k : Nat} (hp : rps a k = false) : σ'.1 a k = σ.1 a k := FR.at h hp
theorem RS.sc {σ σ' : Sto} (h : RS σ σ') : SC σ σ' := FR.sc h (fun a k q => by simp [rps] at q; simp [scr]; omega)
def rx (n : Nat) (σ : Sto) : Nat → Int32 := clp n (if σ.1 37 52 = 0 then σ.1 55 else σ.1 56)
def RPE (n : Nat) (L : Lay) (σ : Sto) : Prop := SF L ∧ (∃ lw, RF lw σ.2.1) ∧ n ≤ 108 ∧ (∀ i, i < n → ∃ b, b < 256 ∧ rx n σ i = nI b) ∧ ((σ.1 37 52 = 0 ∧ σ.1 37 25 = nI n) ∨ (σ.1 37 52 = 1 ∧ σ.1 37 26 = nI n))
theorem rx_rs {n : Nat} {σ σ' : Sto} (s : RS σ σ') : rx n σ' = rx n σ := by
  have e1 : σ'.1 55 = σ.1 55 := funext fun k => s.at rfl
  have e2 : σ'.1 56 = σ.1 56 := funext fun k => s.at rfl
  unfold rx
  rw [s.at (a := 37) (k := 52) rfl, e1, e2]
theorem RPE.rs {n : Nat} {L : Lay} {σ σ' : Sto} (h : RPE n L σ) (s : RS σ σ') : RPE n L σ' := by
  obtain ⟨h1, ⟨lw, h2⟩, h3, h4, h5⟩ := h
  refine ⟨h1, ⟨lw, by rw [s.2]; exact h2⟩, h3, by rw [rx_rs s]; exact h4, ?_⟩
  rw [s.at (a := 37) (k := 52) rfl, s.at (a := 37) (k := 25) rfl, s.at (a := 37) (k := 26) rfl]
  exact h5
section
variable {n : Nat} {L : Lay} {σ : Sto}
theorem x12_at (h : RPE n L σ) {i : Nat} (hi : i < 10000) : f_X12_at L σ 37 (nI i) = some (if i < n then rx n σ i else -1) := by
  obtain ⟨hS, ⟨lw, hR⟩, hn, hb, hc⟩ := h
  have z1 : ¬ (1 : Int32) = 0 := by decide
  by_cases q : i < n
  · have e : rx n σ i = (if σ.1 37 52 = 0 then σ.1 55 else σ.1 56) i := clp_at _ q
    rw [if_pos q, e]
    rcases hc with ⟨c1, c2⟩ | ⟨c1, c2⟩
    · simp (disch := omega) only [f_X12_at, f_X12_at_19, c1, c2, nI_ltI, q, hR.r37_23, rI_nI hS.l55, if_true, Option.bind_some]
    · simp (disch := omega) only [f_X12_at, f_X12_at_19, c1, c2, z1, nI_ltI, q, hR.r37_24, rI_nI hS.l56, if_true, if_false, Option.bind_some]
  · rw [if_neg q]
    rcases hc with ⟨c1, c2⟩ | ⟨c1, c2⟩
    · simp (disch := omega) only [f_X12_at, f_X12_at_19, c1, c2, nI_ltI, q, if_true, if_false]
    · simp (disch := omega) only [f_X12_at, f_X12_at_19, c1, c2, z1, nI_ltI, q, if_true, if_false]
theorem x12_isL (L : Lay) (σ : Sto) (x : Int32) : f_X12_isLetter L σ x = some (b3 (97 ≤ x ∧ x ≤ 122)) := by
  simp only [f_X12_isLetter, x12_in, wi, ckb, Option.bind_some]
theorem x12_isD (L : Lay) (σ : Sto) (x : Int32) : f_X12_isDigit L σ x = some (b3 (48 ≤ x ∧ x ≤ 57)) := by
  simp only [f_X12_isDigit, x12_in, wi, ckb, Option.bind_some]
/-- a letter, a figure at i -/
theorem srt_1 {t : Nat → Int32} {i : Nat} : (srt t n i = 1) ↔ (97 ≤ (if i < n then t i else -1) ∧ (if i < n then t i else -1) ≤ 122) := by
  unfold srt
  by_cases q : i < n
  · rw [if_pos q, if_pos q]
    by_cases a : 97 ≤ t i ∧ t i ≤ 122
    · rw [if_pos a]; exact ⟨fun _ => a, fun _ => rfl⟩
    · rw [if_neg a]
      refine ⟨fun u => ?_, fun u => absurd u a⟩
      split at u <;> omega
  · rw [if_neg q, if_neg q]
    exact ⟨fun u => by omega, fun u => absurd u.1 (by decide)⟩
theorem srt_2 {t : Nat → Int32} {i : Nat} : (srt t n i = 2) ↔ (48 ≤ (if i < n then t i else -1) ∧ (if i < n then t i else -1) ≤ 57) := by
  unfold srt
  by_cases q : i < n
  · rw [if_pos q, if_pos q]
    by_cases a : 97 ≤ t i ∧ t i ≤ 122
    · rw [if_pos a]
      refine ⟨fun u => by omega, fun u => ?_⟩
      exact absurd (Int32.le_trans a.1 u.2) (by decide)
    · rw [if_neg a]
      by_cases b : 48 ≤ t i ∧ t i ≤ 57
      · rw [if_pos b]; exact ⟨fun _ => b, fun _ => rfl⟩
      · rw [if_neg b]; exact ⟨fun u => by omega, fun u => absurd u b⟩
  · rw [if_neg q, if_neg q]
    exact ⟨fun u => by omega, fun u => absurd u.1 (by decide)⟩
end
