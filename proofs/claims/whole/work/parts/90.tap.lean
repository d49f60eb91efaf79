/-! the reference's text goes on -/
section
variable {n : Nat} {L : Lay} {σ : Sto}
theorem x12_tok (h : RPE n L σ) {p K : Nat} (hp : p ≤ n) (e : σ.1 37 54 = nI p) (nb : ¬ (p < n ∧ rx n σ p = 32)) (a1 a2 : Int32) : ∃ r, f_X12_next_35 (K + 1) L σ 37 a1 a2 = f_X12_next_111 L (sI σ 37 55 (nI p)) 37 a1 a2 r (nI (srt (rx n σ) n p)) 37 := by
  have hn := h.2.2.1
  have s1 : RS σ (sI σ 37 55 (nI p)) := (RS.rf σ).wr (by omega)
  have b0 := x12_at h (i := p) (by omega)
  have b1 := x12_at (h.rs s1) (i := p) (by omega)
  rw [rx_rs s1] at b1
  have n32 : ¬ (if p < n then rx n σ p else -1) = 32 := fun u => by
    by_cases q : p < n
    · rw [if_pos q] at u; exact nb ⟨q, u⟩
    · rw [if_neg q] at u; exact absurd u (by decide)
  have e1 : (sI σ 37 55 (nI p)).1 37 54 = nI p := (sI_nk (by omega)).trans e
  refine ⟨if p < n then rx n σ p else -1, ?_⟩
  rw [f_X12_next_35]
  dsimp only
  rw [e, b0, Option.bind_some, if_neg n32]
  show ((f_X12_at L (sI σ 37 55 (nI p)) 37 ((sI σ 37 55 (nI p)).1 37 54)).bind _) = _
  rw [e1, b1, Option.bind_some]
  by_cases q : p < n
  · obtain ⟨b, hb, eb⟩ := h.2.2.2.1 p q
    have nm1 : ¬ (if p < n then rx n σ p else -1) = -1 := by
      rw [if_pos q, eb]; exact nI_nneg (by omega) (by decide)
    rw [if_neg nm1, x12_isL, Option.bind_some]
    by_cases l : srt (rx n σ) n p = 1
    · rw [b3_t (srt_1.mp l), if_neg (by decide), l]; rfl
    · rw [b3_f (fun u => l (srt_1.mpr u)), if_pos rfl, x12_isD, Option.bind_some]
      by_cases d : srt (rx n σ) n p = 2
      · rw [b3_t (srt_2.mp d), if_neg (by decide), d]; rfl
      · have d3 : srt (rx n σ) n p = 3 := by
          unfold srt at l d ⊢
          rw [if_pos q] at l d ⊢
          by_cases u : 97 ≤ rx n σ p ∧ rx n σ p ≤ 122
          · exact absurd (if_pos u) l
          · rw [if_neg u] at d ⊢
            by_cases v : 48 ≤ rx n σ p ∧ rx n σ p ≤ 57
            · exact absurd (if_pos v) d
            · exact if_neg v
        rw [b3_f (fun u => d (srt_2.mpr u)), if_pos rfl, d3]; rfl
  · rw [if_neg q, if_pos rfl, srt_out (by omega), nI_0]
theorem x12_blank : ∀ f p K, n ≤ p + f → p ≤ n → f < K → ∀ {σ : Sto} (a1 a2 : Int32), RPE n L σ → σ.1 37 54 = nI p → ∃ r σ2, f_X12_next_35 K L σ 37 a1 a2 = f_X12_next_111 L (sI σ2 37 55 (nI (sps (rx n σ) n f p))) 37 a1 a2 r (nI (srt (rx n σ) n (sps (rx n σ) n f p))) 37 ∧ RS σ σ2 ∧ σ2.1 37 54 = nI (sps (rx n σ) n f p) ∧ σ2.1 37 56 = σ.1 37 56
  | 0, p, K, h1, h2, hK, σ, a1, a2, h, e => by
    obtain ⟨K, rfl⟩ := Nat.exists_eq_add_one_of_ne_zero (show K ≠ 0 by omega)
    obtain ⟨r, g⟩ := x12_tok h (K := K) h2 e (fun u => by omega) a1 a2
    exact ⟨r, σ, g, RS.rf σ, e, rfl⟩
  | f + 1, p, K, h1, h2, hK, σ, a1, a2, h, e => by
    obtain ⟨K, rfl⟩ := Nat.exists_eq_add_one_of_ne_zero (show K ≠ 0 by omega)
    have hn := h.2.2.1
    rw [show sps (rx n σ) n (f + 1) p = if p < n ∧ rx n σ p = 32 then sps (rx n σ) n f (p + 1) else p from rfl]
    by_cases q : p < n ∧ rx n σ p = 32
    · rw [if_pos q]
      have s : RS σ (sI σ 37 54 (nI (p + 1))) := (RS.rf σ).wr (by omega)
      obtain ⟨r, σ2, g1, g2, g3, g4⟩ := x12_blank f (p + 1) K (by omega) (by omega) (by omega) a1 a2 (h.rs s) (sI_eq _ _ _ _)
      rw [rx_rs s] at g1 g3
      refine ⟨r, σ2, ?_, s.tr g2, g3, g4.trans (sI_nk (by omega))⟩
      rw [f_X12_next_35]
      dsimp only
      rw [e, x12_at h (by omega), Option.bind_some, if_pos q.1, if_pos q.2, nI_1, ← g1]
      rfl
    · rw [if_neg q]
      obtain ⟨r, g⟩ := x12_tok h (K := K) h2 e q a1 a2
      exact ⟨r, σ, g, RS.rf σ, e, rfl⟩
theorem x12_run {s : Nat} (hs : s = 1 ∨ s = 2) : ∀ f p K, n ≤ p + f → p ≤ n → f < K → ∀ {σ : Sto} (a1 a2 a3 : Int32), RPE n L σ → σ.1 37 55 = nI p → σ.1 37 53 = nI s → ∃ σ2, f_X12_next_136 K L σ 37 a1 a2 a3 = f_X12_next_193 L σ2 37 a1 a2 a3 ∧ RS σ σ2 ∧ (σ2.1 37 53 = nI s ∧ σ2.1 37 54 = σ.1 37 54 ∧ σ2.1 37 56 = σ.1 37 56) ∧ σ2.1 37 55 = nI (rns (rx n σ) n s f p) := by
  have step : ∀ p K (σ : Sto) (a1 a2 a3 : Int32), p < 10000 → RPE n L σ → σ.1 37 55 = nI p → σ.1 37 53 = nI s → f_X12_next_136 (K + 1) L σ 37 a1 a2 a3 = (if srt (rx n σ) n p = s then f_X12_next_136 K L (sI σ 37 55 (nI (p + 1))) 37 a1 a2 a3 else f_X12_next_193 L σ 37 a1 a2 a3) := fun p K σ a1 a2 a3 hp h e e3 => by
    rw [f_X12_next_136]
    dsimp only
    unfold f_X12_next_158 f_X12_next_180
    rw [e3, e, x12_at h hp, Option.bind_some, x12_isL, Option.bind_some, Option.bind_some, x12_isD, Option.bind_some]
    have p1 : putI σ 37 55 (nI p + 1) = some (sI σ 37 55 (nI (p + 1))) := by rw [nI_1]; rfl
    rw [p1, Option.bind_some]
    rcases hs with rfl | rfl
    · have z2 : ¬ nI 1 = 2 := by decide
      rw [if_pos (show nI 1 = 1 from rfl), if_neg z2]
      by_cases q : srt (rx n σ) n p = 1
      · rw [b3_t (srt_1.mp q), if_neg (by decide), if_pos q]
      · rw [b3_f (fun u => q (srt_1.mpr u)), if_pos rfl, if_neg q]
    · have z2 : ¬ nI 2 = 1 := by decide
      rw [if_neg z2, if_pos (show nI 2 = 2 from rfl)]
      by_cases q : srt (rx n σ) n p = 2
      · rw [b3_t (srt_2.mp q), if_neg (by decide), if_pos q]
      · rw [b3_f (fun u => q (srt_2.mpr u)), if_pos rfl, if_neg q]
  intro f
  induction f with
  | zero =>
    intro p K h1 h2 hK σ a1 a2 a3 h e e3
    obtain ⟨K, rfl⟩ := Nat.exists_eq_add_one_of_ne_zero (show K ≠ 0 by omega)
    have hn := h.2.2.1
    rw [step p K σ a1 a2 a3 (by omega) h e e3, if_neg (fun u => by rw [srt_out (by omega)] at u; omega)]
    exact ⟨σ, rfl, RS.rf σ, ⟨e3, rfl, rfl⟩, e⟩
  | succ f ih =>
    intro p K h1 h2 hK σ a1 a2 a3 h e e3
    obtain ⟨K, rfl⟩ := Nat.exists_eq_add_one_of_ne_zero (show K ≠ 0 by omega)
    have hn := h.2.2.1
    rw [step p K σ a1 a2 a3 (by omega) h e e3, show rns (rx n σ) n s (f + 1) p = if srt (rx n σ) n p = s then rns (rx n σ) n s f (p + 1) else p from rfl]
    by_cases q : srt (rx n σ) n p = s
    · have hpn : p < n := by
        rcases Nat.lt_or_ge p n with z | z
        · exact z
        · rw [srt_out z] at q; omega
      have sc : RS σ (sI σ 37 55 (nI (p + 1))) := (RS.rf σ).wr (by omega)
      obtain ⟨σ2, g1, g2, ⟨g3, g4, g5⟩, g6⟩ := ih (p + 1) K (by omega) (by omega) (by omega) a1 a2 a3 (h.rs sc) (sI_eq _ _ _ _) ((sI_nk (by omega)).trans e3)
      rw [rx_rs sc] at g6
      rw [if_pos q, if_pos q]
      exact ⟨σ2, g1, sc.tr g2, ⟨g3, g4.trans (sI_nk (by omega)), g5.trans (sI_nk (by omega))⟩, g6⟩
    · rw [if_neg q, if_neg q]
      exact ⟨σ, rfl, RS.rf σ, ⟨e3, rfl, rfl⟩, e⟩
end
