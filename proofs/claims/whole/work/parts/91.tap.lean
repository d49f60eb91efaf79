/-! the reference's next -/
section
variable {n : Nat} {L : Lay} {σ : Sto}
/-- wrong from here on -/
def wrn (x : Int32) (s p fr so : Nat) : Int32 := if x = 0 ∧ ¬ (row s = true ∧ fr = p ∧ row so = true) then 0 else 1
theorem x12_193 {s p fr so : Nat} (hs : s ≤ 4) (hp : p < 10000) (hf : fr < 10000) (hso : so ≤ 3) (e3 : σ.1 37 53 = nI so) (e4 : σ.1 37 54 = nI fr) (a3 : Int32) : f_X12_next_193 L σ 37 (b3 (row s = true)) (nI p) a3 = some (sI σ 37 56 (wrn (σ.1 37 56) s p fr so)) := by
  have o1 : ∀ v, v = (1 : Int32) → f_X12_next_246 L σ v 37 = some (sI σ 37 56 v) := fun v hv => by
    subst hv
    simp only [f_X12_next_246, ck1, putI, Option.bind_some]
  have o0 : f_X12_next_246 L σ 0 37 = some (sI σ 37 56 0) := by
    simp only [f_X12_next_246, ck0, putI, Option.bind_some]
  have A1 : f_X12_next_221 L σ 37 a3 = some (sI σ 37 56 1) := by
    unfold f_X12_next_221 f_X12_next_226 f_X12_next_241
    rw [if_neg (show ¬ (1 : Int32) = 0 by decide), o1 1 rfl, ite_self]
  have A0 : f_X12_next_225 L σ 37 a3 = some (sI σ 37 56 (if σ.1 37 56 = 0 then 0 else 1)) := by
    unfold f_X12_next_225 f_X12_next_226 f_X12_next_241
    rw [if_pos rfl, o1 1 rfl, o0]
    by_cases q : σ.1 37 56 = 0
    · rw [if_pos q, if_pos q]
    · rw [if_neg q, if_neg q]
  have w0 : ¬ (row s = true ∧ fr = p ∧ row so = true) → wrn (σ.1 37 56) s p fr so = (if σ.1 37 56 = 0 then 0 else 1) := fun z => by
    unfold wrn
    by_cases q : σ.1 37 56 = 0
    · rw [if_pos ⟨q, z⟩, if_pos q]
    · rw [if_neg (fun u => q u.1), if_neg q]
  unfold f_X12_next_193
  rw [A1, A0, e4, e3]
  by_cases q1 : row s = true
  · rw [b3_t q1, if_neg (by decide)]
    by_cases q2 : fr = p
    · subst q2
      rw [if_pos rfl]
      have cs : so = 0 ∨ so = 1 ∨ so = 2 ∨ so = 3 := by omega
      rcases cs with z | z | z | z
      · subst z
        rw [if_neg (by decide), if_neg (by decide), w0 (fun u => by cases u.2.2)]
      · subst z
        rw [if_pos (show nI 1 = 1 from rfl)]
        congr 2
        exact (if_neg (fun u => u.2 ⟨q1, rfl, rfl⟩)).symm
      · subst z
        rw [if_neg (by decide), if_pos (show nI 2 = 2 from rfl)]
        congr 2
        exact (if_neg (fun u => u.2 ⟨q1, rfl, rfl⟩)).symm
      · subst z
        rw [if_neg (by decide), if_neg (by decide), w0 (fun u => by cases u.2.2)]
    · rw [if_neg (fun u => q2 ((nI_eq (by omega) (by omega)).mp u)), w0 (fun u => q2 u.2.1)]
  · rw [b3_f q1, if_pos rfl, w0 (fun u => q1 u.1)]
theorem x12_next (h : RPE n L σ) {s p : Nat} (hs : s ≤ 3) (hp : p ≤ n) (e3 : σ.1 37 53 = nI s) (e5 : σ.1 37 55 = nI p) : ∃ σ2, f_X12_next L σ 37 = some σ2 ∧ RS σ σ2 ∧ (σ2.1 37 54 = nI (nxf (rx n σ) n (sps (rx n σ) n 109 p)).1 ∧ σ2.1 37 55 = nI (nxf (rx n σ) n (sps (rx n σ) n 109 p)).2.1 ∧ σ2.1 37 53 = nI (nxf (rx n σ) n (sps (rx n σ) n 109 p)).2.2) ∧ σ2.1 37 56 = wrn (σ.1 37 56) s p (sps (rx n σ) n 109 p) (srt (rx n σ) n (sps (rx n σ) n 109 p)) := by
  have hn := h.2.2.1
  have s1 : RS σ (sI σ 37 54 (nI p)) := (RS.rf σ).wr (by omega)
  obtain ⟨r, σ1, g1, g2, g3, g4⟩ := x12_blank (n := n) (L := L) 109 p FU (by omega) hp (FU_lt (by omega)) (b3 (row s = true)) (nI p) (h.rs s1) (sI_eq _ _ _ _)
  rw [rx_rs s1] at g1 g3
  have g4 : σ1.1 37 56 = σ.1 37 56 := g4.trans (sI_nk (by omega))
  have s2 := s1.tr g2
  have e : f_X12_next L σ 37 = f_X12_next_35 FU L (sI σ 37 54 (nI p)) 37 (b3 (row s = true)) (nI p) := by
    unfold f_X12_next f_X12_next_16 f_X12_next_21
    rw [e3, e5]
    have cs : s = 0 ∨ s = 1 ∨ s = 2 ∨ s = 3 := by omega
    have pp : ∀ v, (putI σ 37 54 (nI p)).bind (fun σ15 => f_X12_next_35 FU L σ15 37 v (nI p)) = f_X12_next_35 FU L (sI σ 37 54 (nI p)) 37 v (nI p) := fun v => by
      rw [putI, Option.bind_some]
    rw [pp, pp]
    rcases cs with z | z | z | z
    · rw [z, if_neg (by decide), if_neg (by decide), b3_f (by decide)]
    · rw [z, if_pos (show nI 1 = 1 from rfl), b3_t (by decide)]
    · rw [z, if_neg (by decide), if_pos (show nI 2 = 2 from rfl), b3_t (by decide)]
    · rw [z, if_neg (by decide), if_neg (by decide), b3_f (by decide)]
  rw [e, g1]
  have b2 := (sps_b (t := rx n σ) 109 p hp).2
  generalize sps (rx n σ) n 109 p = fr at *
  have hsl := srt_le (rx n σ) n fr
  unfold nxf
  generalize hso : srt (rx n σ) n fr = so at *
  have fin : ∀ (σ3 : Sto) (to : Nat), RS σ σ3 → σ3.1 37 53 = nI so → σ3.1 37 54 = nI fr → σ3.1 37 55 = nI to → σ3.1 37 56 = σ.1 37 56 → tke (rx n σ) n fr so = to → f_X12_next_111 L (sI σ1 37 55 (nI fr)) 37 (b3 (row s = true)) (nI p) r (nI so) 37 = f_X12_next_193 L σ3 37 (b3 (row s = true)) (nI p) r → ∃ σ2, f_X12_next_111 L (sI σ1 37 55 (nI fr)) 37 (b3 (row s = true)) (nI p) r (nI so) 37 = some σ2 ∧ RS σ σ2 ∧ (σ2.1 37 54 = nI fr ∧ σ2.1 37 55 = nI (tke (rx n σ) n fr so) ∧ σ2.1 37 53 = nI so) ∧ σ2.1 37 56 = wrn (σ.1 37 56) s p fr so := fun σ3 to a1 a2 a3 a4 a5 a6 a7 => by
    rw [x12_193 (L := L) (by omega) (by omega) (by omega) hsl a2 a3 r, a5] at a7
    refine ⟨_, a7, a1.wr (by omega), ⟨(sI_nk (by omega)).trans a3, ?_, (sI_nk (by omega)).trans a2⟩, sI_eq _ _ _ _⟩
    rw [a6]
    exact (sI_nk (by omega)).trans a4
  have S3 : ∀ v, RS σ (sI (sI (sI σ1 37 55 (nI fr)) 37 53 (nI so)) 37 55 v) := fun v => ((s2.wr (by omega)).wr (by omega)).wr (by omega)
  have d3 : ∀ v, (sI (sI (sI σ1 37 55 (nI fr)) 37 53 (nI so)) 37 55 v).1 37 53 = nI so := fun v => by simp (disch := omega) only [sI_eq, sI_nk]
  have d4 : ∀ v, (sI (sI (sI σ1 37 55 (nI fr)) 37 53 (nI so)) 37 55 v).1 37 54 = nI fr := fun v => by simp (disch := omega) only [sI_nk, g3]
  have d6 : ∀ v, (sI (sI (sI σ1 37 55 (nI fr)) 37 53 (nI so)) 37 55 v).1 37 56 = σ.1 37 56 := fun v => by simp (disch := omega) only [sI_nk, g4]
  have c111 : f_X12_next_111 L (sI σ1 37 55 (nI fr)) 37 (b3 (row s = true)) (nI p) r (nI so) 37 = (if nI so = 3 then f_X12_next_136 FU L (sI (sI (sI σ1 37 55 (nI fr)) 37 53 (nI so)) 37 55 (nI (fr + 1))) 37 (b3 (row s = true)) (nI p) r else f_X12_next_136 FU L (sI (sI (sI σ1 37 55 (nI fr)) 37 53 (nI so)) 37 55 (nI fr)) 37 (b3 (row s = true)) (nI p) r) := by
    unfold f_X12_next_111 f_X12_next_132
    simp (disch := omega) only [putI, Option.bind_some, sI_eq, sI_nk, Int32.add_zero, nI_1]
  have F136 : ∀ (σ3 : Sto), σ3.1 37 53 = nI so → ¬ nI so = 1 → ¬ nI so = 2 → f_X12_next_136 FU L σ3 37 (b3 (row s = true)) (nI p) r = f_X12_next_193 L σ3 37 (b3 (row s = true)) (nI p) r := fun σ3 a b c => by
    show f_X12_next_136 (4999 + 1) L σ3 37 (b3 (row s = true)) (nI p) r = _
    rw [f_X12_next_136]
    dsimp only
    unfold f_X12_next_158
    rw [a, if_neg b, if_neg c]
  have cs : so = 0 ∨ (so = 1 ∨ so = 2) ∨ so = 3 := by omega
  rcases cs with z | z | z
  · refine fin _ fr (S3 (nI fr)) (d3 _) (d4 _) (sI_eq _ _ _ _) (d6 _) (by rw [z]; rfl) ?_
    rw [c111, if_neg (by rw [z]; decide)]
    exact F136 _ (d3 _) (by rw [z]; decide) (by rw [z]; decide)
  · obtain ⟨σ3, k1, k2, ⟨k3, k4, k5⟩, k6⟩ := x12_run (n := n) (L := L) z 109 fr FU (by omega) b2 (FU_lt (by omega)) (b3 (row s = true)) (nI p) r (h.rs (S3 (nI fr))) (sI_eq _ _ _ _) (d3 _)
    rw [rx_rs (S3 (nI fr))] at k6
    refine fin σ3 _ ((S3 (nI fr)).tr k2) k3 (k4.trans (d4 _)) k6 (k5.trans (d6 _)) ?_ ?_
    · unfold tke
      rw [if_pos (by rcases z with z | z <;> rw [z] <;> rfl)]
    · rw [c111, if_neg (by rcases z with z | z <;> rw [z] <;> decide), k1]
  · refine fin _ (fr + 1) (S3 (nI (fr + 1))) (d3 _) (d4 _) (sI_eq _ _ _ _) (d6 _) (by rw [z]; rfl) ?_
    rw [c111, if_pos (by rw [z]; rfl)]
    exact F136 _ (d3 _) (by rw [z]; decide) (by rw [z]; decide)
end
