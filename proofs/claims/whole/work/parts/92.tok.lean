/-! what the class's tape has at hand -/
theorem ch256 : ∀ b, b < 256 → (((nI b).toUInt32 % 65536).toInt32 = nI b ∧ ckN 2 (nI b) = some ()) := by decide +kernel
theorem ch00 : ckN 2 0 = some () := by decide
section
variable {n : Nat} {L : Lay} {σ : Sto}
theorem x9_sign (h : TPE n L σ) {s : TS} (e : TP s σ) (hs : s.2.2 ≤ 4) (hf : s.2.2 = 3 → s.1 < n) : f_X9_signAtHand L σ 15 = some (sgn (tx n σ) s) := by
  obtain ⟨e2, e3, e4⟩ := e
  unfold f_X9_signAtHand sgn
  rw [e4]
  by_cases q : s.2.2 = 3
  · obtain ⟨b, hb, eb⟩ := h.2.2.2.2 s.1 (hf q)
    have et : tx n σ s.1 = nI b := (clp_at _ (hf q)).trans eb
    rw [if_pos q, if_pos (by rw [q]; rfl), e2, x9_byte h (hf q), Option.bind_some, et, (ch256 b hb).1, (ch256 b hb).2, Option.bind_some]
  · have c : ¬ nI s.2.2 = 3 := fun u => q ((nI_eq (b := 3) (by omega) (by omega)).mp u)
    rw [if_neg q, if_neg c, ch00, Option.bind_some]
theorem x9_letter (h : TPE n L σ) {s : TS} (e : TP s σ) (hs : s.2.2 ≤ 4) (h1 : s.1 ≤ s.2.1) (h2 : s.2.1 ≤ n) : f_X9_letterAtHand L σ 15 = some (if s.2.2 = 1 ∧ s.2.1 - s.1 = 1 then tx n σ s.1 else 0) := by
  obtain ⟨e2, e3, e4⟩ := e
  have hn := h.2.2.1
  unfold f_X9_letterAtHand
  rw [e4, e3, e2, pk_sub h1]
  have c1 : (nI s.2.2 = 1) = (s.2.2 = 1) := propext (nI_eq (b := 1) (by omega) (by omega))
  have c2 : (nI (s.2.1 - s.1) = 1) = (s.2.1 - s.1 = 1) := propext (nI_eq (b := 1) (by omega) (by omega))
  simp only [c1, c2]
  by_cases q : s.2.2 = 1
  · by_cases q2 : s.2.1 - s.1 = 1
    · have hlt : s.1 < n := by omega
      obtain ⟨b, hb, eb⟩ := h.2.2.2.2 s.1 hlt
      have et : tx n σ s.1 = nI b := (clp_at _ hlt).trans eb
      simp only [q, q2, x9_byte h hlt, et, (ch256 b hb).1, (ch256 b hb).2, and_self, if_true, Option.bind_some]
    · simp only [q, q2, ch00, and_false, if_true, if_false, Option.bind_some]
  · simp only [q, ch00, false_and, if_false, Option.bind_some]
theorem x9_number (h : TPE n L σ) {s : TS} (e : TP s σ) (hs : s.2.2 ≤ 4) (h1 : s.1 ≤ s.2.1) (h2 : s.2.1 ≤ n) : f_X9_numberAtHand L σ 15 = some (if s.2.2 = 2 ∧ s.2.1 - s.1 ≤ 4 then num (tx n σ) s.1 (s.2.1 - s.1) else -1) := by
  obtain ⟨e2, e3, e4⟩ := e
  have hn := h.2.2.1
  unfold f_X9_numberAtHand
  rw [e4, e3, e2, pk_sub h1]
  have c1 : (nI s.2.2 = 2) = (s.2.2 = 2) := propext (nI_eq (b := 2) (by omega) (by omega))
  have c2 : (nI (s.2.1 - s.1) ≤ 4) = (s.2.1 - s.1 ≤ 4) := propext (nI_leI (b := 4) (by omega) (by omega))
  simp only [c1, c2]
  by_cases q : s.2.2 = 2
  · by_cases q2 : s.2.1 - s.1 ≤ 4
    · rw [if_pos q, if_pos q2, if_pos ⟨q, q2⟩]
      refine loop (F := fun f (q : Int32 × Int32) => f_X9_numberAtHand_30 f L σ 15 q.1 q.2) (s := fun m => (num (tx n σ) s.1 m, nI (s.1 + m))) (s.2.1 - s.1) _ ?_ ?_ (FU_lt (by omega))
      · intro m K hm
        show f_X9_numberAtHand_30 (K + 1) L σ 15 (num (tx n σ) s.1 m) (nI (s.1 + m)) = f_X9_numberAtHand_30 K L σ 15 (num (tx n σ) s.1 m * 10 + tx n σ (s.1 + m) - 48) (nI (s.1 + m + 1))
        rw [f_X9_numberAtHand_30]
        dsimp only
        rw [e3, if_neg (fun u => by have := (nI_leI (by omega) (by omega)).mp u; omega), x9_byte h (by omega), Option.bind_some, nI_1]
      · intro K
        show f_X9_numberAtHand_30 (K + 1) L σ 15 (num (tx n σ) s.1 (s.2.1 - s.1)) (nI (s.1 + (s.2.1 - s.1))) = _
        rw [f_X9_numberAtHand_30]
        dsimp only
        rw [e3, if_pos ((nI_leI (by omega) (by omega)).mpr (by omega))]
    · simp only [q, q2, and_false, if_true, if_false]
  · simp only [q, false_and, if_false]
end
