/-! bounds of tokens -/
theorem tke_b {t : Nat → Int32} {n fr : Nat} (hf : fr ≤ n) : fr ≤ tke t n fr (srt t n fr) ∧ tke t n fr (srt t n fr) ≤ n := by
  unfold tke
  by_cases q : row (srt t n fr) = true
  · rw [if_pos q]
    exact rns_b (fun z => by rw [z] at q; cases q) 109 fr hf
  · rw [if_neg q]
    by_cases q2 : srt t n fr = 3
    · rw [if_pos q2]
      have : fr < n := by
        rcases Nat.lt_or_ge fr n with z | z
        · exact z
        · rw [srt_out z] at q2; cases q2
      omega
    · rw [if_neg q2]
      omega
/-- a token within the text -/
def TB (n : Nat) (s : TS) : Prop := s.1 ≤ s.2.1 ∧ s.2.1 ≤ n ∧ s.2.2 ≤ 4 ∧ (s.2.2 = 3 → s.1 < n)
theorem nxf_b {t : Nat → Int32} {n fr : Nat} (hf : fr ≤ n) : TB n (nxf t n fr) := by
  have h := tke_b (t := t) hf
  have hs := srt_le t n fr
  refine ⟨h.1, h.2, by show srt t n fr ≤ 4; omega, fun u => ?_⟩
  have u : srt t n fr = 3 := u
  rcases Nat.lt_or_ge fr n with z | z
  · exact z
  · rw [srt_out z] at u; cases u
theorem nx_b {t : Nat → Int32} {n p : Nat} (hp : p ≤ n) : TB n (nx t n p) := by
  have h := nxf_b (t := t) (sps_b (t := t) 109 p hp).2
  unfold nx
  by_cases q : stk t n p (sps t n 109 p) (srt t n (sps t n 109 p)) = true
  · rw [if_pos q]
    exact ⟨h.1, h.2.1, Nat.le_refl _, fun u => by cases u⟩
  · rw [if_neg q]
    exact h
theorem x9_rewind {n : Nat} {L : Lay} {σ : Sto} (h : TPE n L σ) : ∃ σ2, f_X9_rewind L σ 15 = some σ2 ∧ CS σ σ2 ∧ TP (nx (tx n σ) n 0) σ2 := by
  have s1 : CS σ (sI σ 15 3 0) := (CS.rf σ).wr rfl
  obtain ⟨σ2, g1, g2, g3⟩ := x9_goOn (h.sc s1) (p := 0) (by omega) (sI_eq _ _ _ _)
  rw [tx_sc s1] at g3
  refine ⟨σ2, ?_, s1.tr g2, g3⟩
  simp only [f_X9_rewind, putI, Option.bind_some, g1]
theorem x1_level (L : Lay) (σ : Sto) (c : Int32) : f_X1_levelOf L σ c = some (if lvl c = 9 then -1 else nI (lvl c)) := by
  unfold f_X1_levelOf lvl
  repeat' split
  all_goals first | rfl | (exfalso; omega)
