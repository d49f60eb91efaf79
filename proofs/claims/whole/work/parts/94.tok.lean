/-! the reference's tokens -/
section
variable {n : Nat} {L : Lay} {σ : Sto}
/-- the reference's places -/
def RT (s : TS) (σ : Sto) : Prop := σ.1 37 54 = nI s.1 ∧ σ.1 37 55 = nI s.2.1 ∧ σ.1 37 53 = nI s.2.2
theorem x12_isSign (h : RPE n L σ) {s : TS} (e : RT s σ) (b : TB n s) (w : σ.1 37 56 = 0) {c : Int32} (hc : ¬ c = 0) : f_X12_isSign L σ 37 c = some (b3 (sgn (rx n σ) s = c)) := by
  obtain ⟨e1, e2, e3⟩ := e
  obtain ⟨b1, b2, b3', b4⟩ := b
  have hn := h.2.2.1
  have c1 : (nI s.2.2 = 3) = (s.2.2 = 3) := propext (nI_eq (b := 3) (by omega) (by omega))
  unfold f_X12_isSign sgn
  rw [if_pos w, e3, e1]
  simp only [c1]
  by_cases q : s.2.2 = 3
  · simp only [q, if_true]
    rw [x12_at h (by omega), Option.bind_some, if_pos (b4 q)]
    by_cases z : rx n σ s.1 = c
    · rw [if_pos z, b3_t z, ck1]; rfl
    · rw [if_neg z, b3_f z, ck0]; rfl
  · simp only [q, if_false]
    rw [b3_f (fun u => hc u.symm), ck0]; rfl
theorem x12_isSign_w {c : Int32} (w : ¬ σ.1 37 56 = 0) : f_X12_isSign L σ 37 c = some 0 := by
  unfold f_X12_isSign
  rw [if_neg w, ck0]; rfl
end
