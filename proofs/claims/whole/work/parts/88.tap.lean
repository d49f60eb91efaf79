/-! the class's tape goes on -/
theorem sps_b {t : Nat → Int32} {n : Nat} : ∀ f p, p ≤ n → p ≤ sps t n f p ∧ sps t n f p ≤ n
  | 0, p, h => ⟨Nat.le_refl _, h⟩
  | f + 1, p, h => by
    show p ≤ (if p < n ∧ t p = 32 then sps t n f (p + 1) else p) ∧ (if p < n ∧ t p = 32 then sps t n f (p + 1) else p) ≤ n
    by_cases q : p < n ∧ t p = 32
    · rw [if_pos q]
      have := sps_b (t := t) f (p + 1) (by omega : p + 1 ≤ n)
      omega
    · rw [if_neg q]
      exact ⟨Nat.le_refl _, h⟩
theorem srt_out {t : Nat → Int32} {n p : Nat} (h : n ≤ p) : srt t n p = 0 := if_neg (by omega)
theorem rns_b {t : Nat → Int32} {n s : Nat} (hs : s ≠ 0) : ∀ f p, p ≤ n → p ≤ rns t n s f p ∧ rns t n s f p ≤ n
  | 0, p, h => ⟨Nat.le_refl _, h⟩
  | f + 1, p, h => by
    show p ≤ (if srt t n p = s then rns t n s f (p + 1) else p) ∧ (if srt t n p = s then rns t n s f (p + 1) else p) ≤ n
    by_cases q : srt t n p = s
    · have hp : p < n := by
        rcases Nat.lt_or_ge p n with z | z
        · exact z
        · rw [srt_out z] at q; exact absurd q.symm hs
      rw [if_pos q]
      have := rns_b (t := t) hs f (p + 1) (by omega : p + 1 ≤ n)
      omega
    · rw [if_neg q]
      exact ⟨Nat.le_refl _, h⟩
section
variable {n : Nat} {L : Lay} {σ : Sto}
theorem x9_run {s : Nat} (hs : row s = true) (hs4 : s ≤ 3) : ∀ f p K, n ≤ p + f → p ≤ n → f < K → ∀ {σ : Sto} (p0 : Int32), TPE n L σ → σ.1 15 3 = nI p → σ.1 15 4 = nI s → ∃ σ2, f_X9_goOn_83 K L σ 15 p0 = f_X9_goOn_132 L σ2 15 p0 ∧ CS σ σ2 ∧ σ2.1 15 2 = σ.1 15 2 ∧ σ2.1 15 3 = nI (rns (tx n σ) n s f p) ∧ σ2.1 15 4 = nI s
  | 0, p, K, h1, h2, hK, σ, p0, h, e, e4 => by
    obtain ⟨K, rfl⟩ := Nat.exists_eq_add_one_of_ne_zero (show K ≠ 0 by omega)
    have hn := h.2.2.1
    refine ⟨σ, ?_, CS.rf σ, rfl, e, e4⟩
    rw [f_X9_goOn_83]
    dsimp only
    rw [h.2.2.2.1, e, if_pos ((nI_leI (by omega) (by omega)).mpr (by omega))]
  | f + 1, p, K, h1, h2, hK, σ, p0, h, e, e4 => by
    obtain ⟨K, rfl⟩ := Nat.exists_eq_add_one_of_ne_zero (show K ≠ 0 by omega)
    have hn := h.2.2.1
    have s0 : s ≠ 0 := fun z => by rw [z] at hs; cases hs
    rw [f_X9_goOn_83]
    dsimp only
    rw [h.2.2.2.1, e, e4]
    show ∃ σ2, _ ∧ _ ∧ _ ∧ _ = nI (if srt (tx n σ) n p = s then rns (tx n σ) n s f (p + 1) else p) ∧ _
    by_cases q : p < n
    · have hsl := srt_le (tx n σ) n p
      rw [if_neg (fun u => by have := (nI_leI (by omega) (by omega)).mp u; omega), x9_row L σ (by omega), b3_t hs, Option.bind_some, if_neg (by decide), x9_sort h (by omega), Option.bind_some]
      by_cases q2 : srt (tx n σ) n p = s
      · have sc : CS σ (sI σ 15 3 (nI (p + 1))) := (CS.rf σ).wr rfl
        obtain ⟨σ2, g1, g2, g3, g4, g5⟩ := x9_run hs hs4 f (p + 1) K (by omega) (by omega) (by omega) p0 (h.sc sc) (sI_eq _ _ _ _) ((sI_nk (by omega)).trans e4)
        rw [tx_sc sc] at g4
        refine ⟨σ2, ?_, sc.tr g2, g3.trans (sI_nk (by omega)), by rw [if_pos q2]; exact g4, g5⟩
        rw [if_pos (congrArg nI q2), ← g1, nI_1]
        rfl
      · rw [if_neg (fun u => q2 ((nI_eq (by omega) (by omega)).mp u)), if_neg q2]
        exact ⟨σ, rfl, CS.rf σ, rfl, e, e4⟩
    · rw [if_pos ((nI_leI (by omega) (by omega)).mpr (by omega)), if_neg (fun u => by rw [srt_out (by omega)] at u; exact s0 u.symm)]
      exact ⟨σ, rfl, CS.rf σ, rfl, e, e4⟩
/-- the tape's three places -/
def TP (s : TS) (σ : Sto) : Prop := σ.1 15 2 = nI s.1 ∧ σ.1 15 3 = nI s.2.1 ∧ σ.1 15 4 = nI s.2.2
theorem x9_end (h : TPE n L σ) {p fr to so : Nat} (hp : p ≤ n) (hf : fr ≤ n) (hso : so ≤ 3) (e : TP (fr, to, so) σ) : ∃ σ2, f_X9_goOn_132 L σ 15 (nI p) = some σ2 ∧ CS σ σ2 ∧ TP (fr, to, if stk (tx n σ) n p fr so = true then 4 else so) σ2 := by
  have hn := h.2.2.1
  obtain ⟨e2, e3, e4⟩ := id e
  have e2 : σ.1 15 2 = nI fr := e2
  have e4 : σ.1 15 4 = nI so := e4
  unfold f_X9_goOn_132
  rw [e4, x9_row L σ (by omega), Option.bind_some, e2]
  have no : stk (tx n σ) n p fr so = false → ∃ σ2, some σ = some σ2 ∧ CS σ σ2 ∧ TP (fr, to, if stk (tx n σ) n p fr so = true then 4 else so) σ2 := fun z => ⟨σ, rfl, CS.rf σ, by rw [z]; exact e⟩
  by_cases q1 : row so = true
  · rw [b3_t q1, if_neg (by decide)]
    by_cases q2 : fr = p
    · subst q2
      rw [if_pos rfl]
      rcases Nat.eq_zero_or_pos fr with z | z
      · subst z
        have b : f_X9_sortAt L σ 15 (nI 0 - 1) = some 0 := by
          have l1 : nI 0 - 1 < 0 := by decide
          have l2 : ¬ (0 : Int32) ≤ -1 := by decide
          simp only [f_X9_sortAt, f_X9_byteAt, l1, l2, if_true, if_false, Option.bind_some]
        have r0 : f_X9_isRow L σ 0 = some 0 := x9_row L σ (s := 0) (by omega)
        rw [b, Option.bind_some, r0, Option.bind_some, if_pos rfl]
        exact no (by unfold stk; rw [q1]; rfl)
      · obtain ⟨k, rfl⟩ : ∃ k, fr = k + 1 := ⟨fr - 1, by omega⟩
        have hsl := srt_le (tx n σ) n k
        have ek : stk (tx n σ) n (k + 1) (k + 1) so = row (srt (tx n σ) n k) := by
          unfold stk
          rw [q1, Nat.beq_refl, Nat.add_sub_cancel]
          rfl
        rw [nI_pred, x9_sort h (by omega), Option.bind_some, x9_row L σ (by omega), Option.bind_some]
        by_cases q3 : row (srt (tx n σ) n k) = true
        · rw [b3_t q3, if_neg (by decide), ek, if_pos q3]
          exact ⟨sI σ 15 4 4, rfl, (CS.rf σ).wr rfl, (sI_nk (by omega)).trans e2, (sI_nk (by omega)).trans e3, sI_eq _ _ _ _⟩
        · rw [b3_f q3, if_pos rfl]
          exact no (by rw [ek]; exact pf_of q3)
    · rw [if_neg (fun u => q2 ((nI_eq (by omega) (by omega)).mp u))]
      refine no (pf_of (fun u => q2 ?_))
      unfold stk at u
      simp at u
      omega
  · rw [b3_f q1, if_pos rfl]
    exact no (by unfold stk; rw [pf_of q1]; rfl)
theorem x9_goOn (h : TPE n L σ) {p : Nat} (hp : p ≤ n) (e3 : σ.1 15 3 = nI p) : ∃ σ2, f_X9_goOn L σ 15 = some σ2 ∧ CS σ σ2 ∧ TP (nx (tx n σ) n p) σ2 := by
  have hn := h.2.2.1
  have s1 : CS σ (sI σ 15 2 (nI p)) := (CS.rf σ).wr rfl
  obtain ⟨σ1, g1, g2, g3⟩ := x9_blank (n := n) (L := L) 109 p FU (by omega) hp (FU_lt (by omega)) (nI p) (h.sc s1) (sI_eq _ _ _ _)
  rw [tx_sc s1] at g3
  have s2 := s1.tr g2
  obtain ⟨b1, b2⟩ := sps_b (t := tx n σ) 109 p hp
  have hsl := srt_le (tx n σ) n (sps (tx n σ) n 109 p)
  have e : f_X9_goOn L σ 15 = f_X9_goOn_47 L σ1 15 (nI p) := by
    unfold f_X9_goOn
    rw [e3, ← g1]
    rfl
  rw [e]
  have fin : ∀ (σ3 : Sto), CS σ σ3 → TP (nxf (tx n σ) n (sps (tx n σ) n 109 p)) σ3 → f_X9_goOn_47 L σ1 15 (nI p) = f_X9_goOn_132 L σ3 15 (nI p) → ∃ σ2, f_X9_goOn_47 L σ1 15 (nI p) = some σ2 ∧ CS σ σ2 ∧ TP (nx (tx n σ) n p) σ2 := fun σ3 a b c => by
    obtain ⟨σ4, k1, k2, k3⟩ := x9_end (h.sc a) hp b2 hsl b
    rw [tx_sc a] at k3
    refine ⟨σ4, c.trans k1, a.tr k2, ?_⟩
    unfold nx
    by_cases q : stk (tx n σ) n p (sps (tx n σ) n 109 p) (srt (tx n σ) n (sps (tx n σ) n 109 p)) = true
    · rw [if_pos q] at k3 ⊢; exact k3
    · rw [if_neg q] at k3 ⊢; exact k3
  generalize sps (tx n σ) n 109 p = fr at *
  have h1 := h.sc s2
  have es := x9_sort h1 (i := fr) (by omega)
  rw [tx_sc s2] at es
  generalize hso : srt (tx n σ) n fr = so at *
  have c2 : σ1.1 15 2 = nI fr := g3
  have u1 : CS σ (sI (sI σ1 15 4 (nI so)) 15 3 (nI fr)) := (s2.wr rfl).wr rfl
  have u2 : CS σ (sI (sI σ1 15 4 (nI so)) 15 3 (nI (fr + 1))) := (s2.wr rfl).wr rfl
  have d1 : ∀ v, (sI (sI σ1 15 4 (nI so)) 15 3 v).1 15 2 = nI fr := fun v => by simp (disch := omega) only [sI_nk, c2]
  have d2 : ∀ v, (sI (sI σ1 15 4 (nI so)) 15 3 v).1 15 4 = nI so := fun v => by simp (disch := omega) only [sI_nk, sI_eq]
  have c47 : f_X9_goOn_47 L σ1 15 (nI p) = (if nI so = 0 then f_X9_goOn_83 FU L (sI (sI σ1 15 4 (nI so)) 15 3 (nI fr)) 15 (nI p) else f_X9_goOn_83 FU L (sI (sI σ1 15 4 (nI so)) 15 3 (nI (fr + 1))) 15 (nI p)) := by
    unfold f_X9_goOn_47 f_X9_goOn_76
    simp (disch := omega) only [c2, es, putI, Option.bind_some, sI_eq, sI_nk, f_X11_oneIf, one_ne0, zero_eq0, if_true, if_false, Int32.add_zero, nI_1]
  have F83 : ∀ (σ3 : Sto) (x : Nat), σ3.1 15 1 = nI n → σ3.1 15 3 = nI x → x ≤ n → σ3.1 15 4 = nI so → row so = false → f_X9_goOn_83 FU L σ3 15 (nI p) = f_X9_goOn_132 L σ3 15 (nI p) := fun σ3 x a1 a2 a3 a4 a5 => by
    show f_X9_goOn_83 (4999 + 1) L σ3 15 (nI p) = _
    rw [f_X9_goOn_83]
    dsimp only
    rw [a1, a2, a4, x9_row L σ3 (by omega), b3_f (by rw [a5]; decide), Option.bind_some, if_pos rfl, ite_self]
  have fn0 : so ≠ 0 → fr < n := fun z => by
    rcases Nat.lt_or_ge fr n with y | y
    · exact y
    · rw [srt_out y] at hso; exact absurd hso.symm z
  have tp : ∀ (σ3 : Sto) (to : Nat), σ3.1 15 2 = nI fr → σ3.1 15 3 = nI to → σ3.1 15 4 = nI so → tke (tx n σ) n fr so = to → TP (nxf (tx n σ) n fr) σ3 := fun σ3 to a1 a2 a3 a4 => by
    unfold nxf
    rw [hso, a4]
    exact ⟨a1, a2, a3⟩
  have cs : so = 0 ∨ (row so = true ∧ so ≠ 0 ∧ so ≠ 3) ∨ so = 3 := by
    rcases (show so = 0 ∨ so = 1 ∨ so = 2 ∨ so = 3 by omega) with z | z | z | z <;> subst z <;> simp [row]
  rcases cs with z | ⟨z1, z2, z3⟩ | z
  · have z' : nI so = 0 := by rw [z, nI_0]
    refine fin _ u1 (tp _ fr (d1 _) (sI_eq _ _ _ _) (d2 _) (by rw [z]; rfl)) ?_
    rw [c47, if_pos z']
    exact F83 _ fr ((u1.at rfl).trans h.2.2.2.1) (sI_eq _ _ _ _) b2 (d2 _) (by rw [z]; rfl)
  · have hfn := fn0 z2
    obtain ⟨σ3, k1, k2, k3, k4, k5⟩ := x9_run (n := n) (L := L) z1 hsl 108 (fr + 1) FU (by omega) (by omega) (FU_lt (by omega)) (nI p) (h.sc u2) (sI_eq _ _ _ _) (d2 _)
    rw [tx_sc u2] at k4
    refine fin σ3 (u2.tr k2) (tp σ3 _ (k3.trans (d1 _)) k4 k5 ?_) ?_
    · unfold tke
      rw [if_pos z1]
      show (if srt (tx n σ) n fr = so then rns (tx n σ) n so 108 (fr + 1) else fr) = _
      rw [if_pos hso]
    · rw [c47, if_neg (nI_ne0 (by omega) (by omega)), k1]
  · have hfn := fn0 (by omega)
    refine fin _ u2 (tp _ (fr + 1) (d1 _) (sI_eq _ _ _ _) (d2 _) (by rw [z]; rfl)) ?_
    rw [c47, if_neg (nI_ne0 (by omega) (by omega))]
    exact F83 _ (fr + 1) ((u2.at rfl).trans h.2.2.2.1) (sI_eq _ _ _ _) (by omega) (d2 _) (by rw [z]; rfl)
end
