/-! law: the reference as a whole, the call -/
def rlc (a k : Nat) : Bool := (Nat.beq a 37 && ((Nat.ble 25 k && Nat.ble k 27) || Nat.ble 52 k)) || Nat.beq a 56 || Nat.beq a 57 || Nat.beq a 78
theorem rlc_t {a k : Nat} (h : (a = 37 ∧ ((25 ≤ k ∧ k ≤ 27) ∨ 52 ≤ k)) ∨ a = 56 ∨ a = 57 ∨ a = 78) : rlc a k = true := by
  simp [rlc]
  omega
theorem rlc_c {a k : Nat} (u : rlc a k = true) : (a = 37 ∧ ((25 ≤ k ∧ k ≤ 27) ∨ 52 ≤ k)) ∨ a = 56 ∨ a = 57 ∨ a = 78 := by
  simp [rlc] at u
  omega
theorem rts_l : ∀ a k, rts a k = true → rlc a k = true := fun a k u => rlc_t (by
  simp [rts] at u
  omega)
theorem rps_l : ∀ a k, rps a k = true → rlc a k = true := fun a k u => rlc_t (by
  simp [rps] at u
  omega)
def kps (a k : Nat) : Bool := (Nat.beq a 37 && (Nat.beq k 26 || Nat.beq k 27)) || Nat.beq a 56
theorem kps_l : ∀ a k, kps a k = true → rlc a k = true := fun a k u => rlc_t (by
  simp [kps] at u
  omega)
section
variable {n lw : Nat} {L : Lay} {t : Nat → Int32} {σ : Sto}
theorem n3 {i : Nat} (hi : i < 3) : ¬ (3 : Int32) ≤ nI i := fun u => by
  have := (nI_leI (a := 3) (b := i) (by omega) (by omega)).mp u
  omega
theorem x12_l2s (hS : SF L) (hR : RF lw σ.2.1) {i : Nat} (hi : i < 3) (K : Nat) : f_X12_law_2 (K + 1) L σ 37 (nI i) = f_X12_law_2 K L (sI σ 78 i (σ.1 57 i)) 37 (nI (i + 1)) := by
  rw [f_X12_law_2]
  dsimp only
  rw [if_neg (n3 hi), hR.r37_28, Option.bind_some, rI_nI hS.l57 hi (by omega), Option.bind_some, hR.r37_61, Option.bind_some, wI_nI hS.l78 hi (by omega), Option.bind_some, nI_1]
theorem x12_130s (hS : SF L) (hR : RF lw σ.2.1) {i : Nat} (hi : i < 3) (K : Nat) (x : Int32) : f_X12_law_130 (K + 1) L σ 37 x (nI i) = f_X12_law_130 K L (sI σ 57 i (σ.1 78 i)) 37 x (nI (i + 1)) := by
  rw [f_X12_law_130]
  dsimp only
  rw [if_neg (n3 hi), hR.r37_61, Option.bind_some, rI_nI hS.l78 hi (by omega), Option.bind_some, hR.r37_28, Option.bind_some, wI_nI hS.l57 hi (by omega), Option.bind_some, nI_1]
theorem x12_130 (hS : SF L) (hR : RF lw σ.2.1) (x : Int32) : ∃ σ2, f_X12_law_130 FU L σ 37 x 0 = some (-100 - σ.1 37 54, σ2) ∧ FR (fun a _ => Nat.beq a 57) σ σ2 ∧ ∀ k, k < 3 → σ2.1 57 k = σ.1 78 k := by
  refine ⟨sI (sI (sI σ 57 0 (σ.1 78 0)) 57 1 (σ.1 78 1)) 57 2 (σ.1 78 2), ?_, (((FR.rf _ _).wr rfl).wr rfl).wr rfl, fun k hk => ?_⟩
  · show f_X12_law_130 (4996 + 1 + 1 + 1 + 1) L σ 37 x (nI 0) = _
    rw [x12_130s hS hR (by omega), x12_130s hS (σ := sI σ 57 0 (σ.1 78 0)) hR (by omega), x12_130s hS (σ := sI (sI σ 57 0 (σ.1 78 0)) 57 (0 + 1) ((sI σ 57 0 (σ.1 78 0)).1 78 (0 + 1))) hR (by omega), f_X12_law_130]
    dsimp only
    rw [if_pos (show (3 : Int32) ≤ nI (0 + 1 + 1 + 1) by decide)]
    simp (disch := omega) only [sI_ne]
  · rcases (show k = 0 ∨ k = 1 ∨ k = 2 by omega) with rfl | rfl | rfl
    · rw [sI_nk (by omega), sI_nk (by omega), sI_eq]
    · rw [sI_nk (by omega), sI_eq]
    · rw [sI_eq]
theorem x12_163 (hS : SF L) (hn : n ≤ 108) : ∀ m i K σ, i + m = n → m < K → RF lw σ.2.1 → ∃ σ2, f_X12_law_163 K L σ 37 (nI n) (nI i) = some (σ.1 37 60, σ2) ∧ FR kps σ σ2 ∧ σ2.1 37 26 = nI n ∧ σ2.1 37 27 = 1 ∧ ∀ j, j < n → σ2.1 56 j = if i ≤ j then σ.1 55 j else σ.1 56 j
  | 0, i, K, σ, hi, hK, hR => by
    obtain ⟨K, rfl⟩ := Nat.exists_eq_add_one_of_ne_zero (show K ≠ 0 by omega)
    refine ⟨sI (sI σ 37 26 (nI n)) 37 27 1, ?_, ((FR.rf _ _).wr rfl).wr rfl, ?_, sI_eq _ _ _ _, fun j hj => ?_⟩
    · rw [f_X12_law_163]
      dsimp only
      unfold putI
      rw [if_pos (nI_le (by omega) (by omega)), Option.bind_some, ck1, Option.bind_some, Option.bind_some, sI_nk (by omega), sI_nk (by omega)]
    · rw [sI_nk (by omega), sI_eq]
    · rw [if_neg (by omega), sI_ne (by omega), sI_ne (by omega)]
  | m + 1, i, K, σ, hi, hK, hR => by
    obtain ⟨K, rfl⟩ := Nat.exists_eq_add_one_of_ne_zero (show K ≠ 0 by omega)
    obtain ⟨σ2, g1, g2, g3, g4, g5⟩ := x12_163 hS hn m (i + 1) K (sI σ 56 i (σ.1 55 i)) (by omega) (by omega) hR
    refine ⟨σ2, ?_, ((FR.rf _ _).wr rfl).tr g2, g3, g4, fun j hj => ?_⟩
    · rw [f_X12_law_163]
      dsimp only
      rw [if_neg (fun u => by have := (nI_leI (by omega) (by omega)).mp u; omega), hR.r37_23, Option.bind_some, rI_nI hS.l55 (by omega) (by omega), Option.bind_some, hR.r37_24, Option.bind_some, wI_nI hS.l56 (by omega) (by omega), Option.bind_some, nI_1, g1, sI_ne (by omega)]
    · rw [g5 j hj, sI_ne (by omega)]
      by_cases y : i + 1 ≤ j
      · rw [if_pos y, if_pos (by omega)]
      · rw [if_neg y]
        by_cases x : j = i
        · subst x
          rw [sI_eq, if_pos (Nat.le_refl _)]
        · rw [sI_nk x, if_neg (by omega)]
theorem RALL.to {σ2 : Sto} (h : RALL n t σ) (e : ∀ k, k < 3 → σ2.1 57 k = σ.1 57 k) : RALL n t σ2 := by
  obtain ⟨fr, h⟩ := h
  exact ⟨fr, fun k hk => ⟨(h k hk).1, (h k hk).2.1, (h k hk).2.2.1, (e k hk).trans (h k hk).2.2.2⟩⟩
theorem x12_108 (τ : Sto) : f_X12_law_108 L τ 37 0 37 = f_X12_law_163 FU L (sI (sI τ 37 56 0) 37 25 0) 37 (τ.1 37 25) 0 := by
  unfold f_X12_law_108 putI
  rw [ck0, Option.bind_some, Option.bind_some, Option.bind_some]
  rw [if_pos ((sI_nk (by omega)).trans (sI_eq _ _ _ _)), sI_nk (by omega)]
theorem x12_103 (τ : Sto) : f_X12_law_103 L τ 37 37 = f_X12_law_130 FU L (sI (sI τ 37 56 1) 37 25 0) 37 (τ.1 37 25) 0 := by
  unfold f_X12_law_103 f_X12_law_108 putI
  rw [ck1, Option.bind_some, Option.bind_some, Option.bind_some]
  rw [if_neg (fun u => by rw [sI_nk (by omega), sI_eq] at u; exact absurd u (by decide)), sI_nk (by omega)]
theorem x12_law (hS : SF L) (hR : RF lw σ.2.1) (hn : n ≤ 108) (e25 : σ.1 37 25 = nI n) (e55 : ∀ i, i < n → ∃ b, b < 256 ∧ σ.1 55 i = nI b) (ht : clp n (σ.1 55) = t) : ∃ v σ2, f_X12_law L σ 37 = some (v, σ2) ∧ FR rlc σ σ2 ∧ σ2.1 37 25 = 0 ∧ ((lok t n = true ∧ v = nI (opn (sc0 t n).2.1 + opn (sc1 t n).2.1 + opn (sc2 t n).2.1) ∧ σ2.1 37 26 = nI n ∧ σ2.1 37 27 = 1 ∧ (∀ i, i < n → σ2.1 56 i = σ.1 55 i) ∧ RALL n t σ2) ∨ (lok t n = false ∧ v = -100 - nI (lps t n) ∧ σ2.1 37 26 = σ.1 37 26 ∧ σ2.1 37 27 = σ.1 37 27 ∧ (∀ i, σ2.1 56 i = σ.1 56 i) ∧ ∀ k, k < 3 → σ2.1 57 k = σ.1 57 k)) := by
  obtain ⟨pq, hpq⟩ := nI_ex (σ.1 37 57)
  let σ3 : Sto := sI (sI (sI σ 78 0 (σ.1 57 0)) 78 1 (σ.1 57 1)) 78 2 (σ.1 57 2)
  let σ9 : Sto := sI (sI (sI (sI (sI (sI (sI σ3 37 52 0) 37 56 0) 37 53 0) 37 55 0) 37 58 0) 37 59 0) 37 60 0
  have F3 : FR rlc σ σ3 := (((FR.rf _ _).wr rfl).wr rfl).wr rfl
  have F9 : FR rlc σ σ9 := (((((((F3.wr rfl).wr rfl).wr rfl).wr rfl).wr rfl).wr rfl).wr rfl)
  have k3 : ∀ k, k < 3 → σ9.1 78 k = σ.1 57 k := fun k hk => by
    have : σ9.1 78 k = σ3.1 78 k := by simp (disch := omega) only [σ9, sI_ne]
    rw [this]
    rcases (show k = 0 ∨ k = 1 ∨ k = 2 by omega) with rfl | rfl | rfl <;> simp (disch := omega) only [σ3, sI_nk, sI_eq]
  have v52 : σ9.1 37 52 = 0 := by simp (disch := omega) only [σ9, sI_nk, sI_eq]
  have v56 : σ9.1 37 56 = 0 := by simp (disch := omega) only [σ9, sI_nk, sI_eq]
  have v53 : σ9.1 37 53 = nI 0 := by simp (disch := omega) only [σ9, sI_nk, sI_eq]; rfl
  have v55 : σ9.1 37 55 = nI 0 := by simp (disch := omega) only [σ9, sI_nk, sI_eq]; rfl
  have v58 : σ9.1 37 58 = nI 0 := by simp (disch := omega) only [σ9, sI_nk, sI_eq]; rfl
  have v59 : σ9.1 37 59 = nI 0 := by simp (disch := omega) only [σ9, sI_nk, sI_eq]; rfl
  have v60 : σ9.1 37 60 = nI 0 := by simp (disch := omega) only [σ9, sI_eq]; rfl
  have v57 : σ9.1 37 57 = nI pq := by simp (disch := omega) only [σ9, σ3, sI_nk, sI_ne, hpq]
  have v25 : σ9.1 37 25 = nI n := by simp (disch := omega) only [σ9, σ3, sI_nk, sI_ne, e25]
  have v26 : σ9.1 37 26 = σ.1 37 26 := by simp (disch := omega) only [σ9, σ3, sI_nk, sI_ne]
  have v27 : σ9.1 37 27 = σ.1 37 27 := by simp (disch := omega) only [σ9, σ3, sI_nk, sI_ne]
  have x55 : σ9.1 55 = σ.1 55 := funext fun i => by simp (disch := omega) only [σ9, σ3, sI_ne]
  have x56 : σ9.1 56 = σ.1 56 := funext fun i => by simp (disch := omega) only [σ9, σ3, sI_ne]
  have ex : rx n σ9 = t := by
    unfold rx
    rw [v52, if_pos rfl, x55, ht]
  have P : RPE n L σ9 := by
    refine ⟨hS, ⟨lw, hR⟩, hn, fun i hi => ?_, Or.inl ⟨v52, v25⟩⟩
    rw [ex, ← ht, clp_at _ hi]
    exact e55 i hi
  obtain ⟨σ20, g1, g2, g3, g4⟩ := x12_next P (s := 0) (p := 0) (by omega) (Nat.zero_le n) v53 v55
  rw [ex, ← nx_0] at g3
  rw [v56, wrn, if_pos ⟨rfl, fun u => by cases u.1⟩] at g4
  have C : RRS n L t (σ.1 73) pq 0 0 0 (nx t n 0) σ20 := by
    obtain ⟨r1, r2⟩ := P.rq g2.q
    have w73 : σ9.1 73 = σ.1 73 := funext fun i => by simp (disch := omega) only [σ9, σ3, sI_ne]
    refine ⟨⟨r1, r2.trans ex, (funext fun i => g2.at rfl : σ20.1 73 = σ9.1 73).trans w73, (g2.at rfl).trans v57⟩, ⟨g3, g4, ?_, nx_k (Nat.zero_le n)⟩, (g2.at rfl).trans v58, (g2.at rfl).trans v59, (g2.at rfl).trans v60⟩
    rw [nx_0]
    exact srt_le _ _ _
  obtain ⟨σ21, σ22, σ23, h1, h2, h3, h4, h5⟩ := x12_three C
  have F20 : FR rlc σ9 σ20 := FR.sub g2 rps_l
  have F23 : FR rlc σ20 σ23 := FR.sub h4 rts_l
  have FA : FR rlc σ σ23 := (F9.tr F20).tr F23
  have n25 : σ23.1 37 25 = nI n := (h4.at rfl).trans ((g2.at rfl).trans v25)
  have n26 : σ23.1 37 26 = σ.1 37 26 := (h4.at rfl).trans ((g2.at rfl).trans v26)
  have n27 : σ23.1 37 27 = σ.1 37 27 := (h4.at rfl).trans ((g2.at rfl).trans v27)
  have n55 : ∀ i, σ23.1 55 i = σ.1 55 i := fun i => (h4.at rfl).trans ((g2.at rfl).trans (congrFun x55 i))
  have n56 : ∀ i, σ23.1 56 i = σ.1 56 i := fun i => (h4.at rfl).trans ((g2.at rfl).trans (congrFun x56 i))
  have n78 : ∀ k, k < 3 → σ23.1 78 k = σ.1 57 k := fun k hk => (h4.at rfl).trans ((g2.at rfl).trans (k3 k hk))
  have hR23 : RF lw σ23.2.1 := by
    rw [FA.2]
    exact hR
  have U : f_X12_law L σ 37 = (if (σ23.1 37 56) = 0 then (if (σ23.1 37 53) = 0 then (f_X12_law_108) L σ23 37 0 37 else (f_X12_law_103) L σ23 37 37) else (f_X12_law_103) L σ23 37 37) := by
    unfold f_X12_law
    show f_X12_law_2 (4996 + 1 + 1 + 1 + 1) L σ 37 (nI 0) = _
    rw [x12_l2s hS hR (by omega), x12_l2s hS (σ := sI σ 78 0 (σ.1 57 0)) hR (by omega), x12_l2s hS (σ := sI (sI σ 78 0 (σ.1 57 0)) 78 (0 + 1) ((sI σ 78 0 (σ.1 57 0)).1 57 (0 + 1))) hR (by omega), f_X12_law_2]
    dsimp only
    rw [if_pos (show (3 : Int32) ≤ nI (0 + 1 + 1 + 1) by decide)]
    unfold putI
    rw [ck0]
    simp only [Option.bind_some]
    have g1' : f_X12_next L (sI (sI (sI (sI (sI (sI (sI (sI (sI (sI σ 78 0 (σ.1 57 0)) 78 (0 + 1) ((sI σ 78 0 (σ.1 57 0)).1 57 (0 + 1))) 78 (0 + 1 + 1) ((sI (sI σ 78 0 (σ.1 57 0)) 78 (0 + 1) ((sI σ 78 0 (σ.1 57 0)).1 57 (0 + 1))).1 57 (0 + 1 + 1))) 37 52 0) 37 56 0) 37 53 0) 37 55 0) 37 58 0) 37 59 0) 37 60 0) 37 = some σ20 := by
      rw [show (sI σ 78 0 (σ.1 57 0)).1 57 (0 + 1) = σ.1 57 1 from sI_ne (by omega), show (sI (sI σ 78 0 (σ.1 57 0)) 78 (0 + 1) (σ.1 57 1)).1 57 (0 + 1 + 1) = σ.1 57 2 from (sI_ne (by omega)).trans (sI_ne (by omega))]
      exact g1
    rw [g1', Option.bind_some, h1, Option.bind_some, h2, Option.bind_some, h3, Option.bind_some]
  -- not a law
  have NO : lok t n = false → σ23.1 37 54 = nI (lps t n) → f_X12_law L σ 37 = f_X12_law_103 L σ23 37 37 → ∃ v σ2, f_X12_law L σ 37 = some (v, σ2) ∧ FR rlc σ σ2 ∧ σ2.1 37 25 = 0 ∧ ((lok t n = true ∧ v = nI (opn (sc0 t n).2.1 + opn (sc1 t n).2.1 + opn (sc2 t n).2.1) ∧ σ2.1 37 26 = nI n ∧ σ2.1 37 27 = 1 ∧ (∀ i, i < n → σ2.1 56 i = σ.1 55 i) ∧ RALL n t σ2) ∨ (lok t n = false ∧ v = -100 - nI (lps t n) ∧ σ2.1 37 26 = σ.1 37 26 ∧ σ2.1 37 27 = σ.1 37 27 ∧ (∀ i, σ2.1 56 i = σ.1 56 i) ∧ ∀ k, k < 3 → σ2.1 57 k = σ.1 57 k)) := fun a1 a2 a3 => by
    obtain ⟨σ2, b1, b2, b3'⟩ := x12_130 hS (σ := sI (sI σ23 37 56 1) 37 25 0) hR23 (σ23.1 37 25)
    refine ⟨-100 - nI (lps t n), σ2, ?_, ?_, ?_, Or.inr ⟨a1, rfl, ?_, ?_, fun i => ?_, fun k hk => ?_⟩⟩
    · rw [a3, x12_103, b1, sI_nk (by omega), sI_nk (by omega), a2]
    · exact ((FA.wr (rlc_t (by omega))).wr (rlc_t (by omega))).tr (FR.sub b2 (fun a k u => rlc_t (by have := Nat.eq_of_beq_eq_true u; omega)))
    · rw [b2.at rfl, sI_eq]
    · rw [b2.at rfl, sI_nk (by omega), sI_nk (by omega), n26]
    · rw [b2.at rfl, sI_nk (by omega), sI_nk (by omega), n27]
    · rw [b2.at rfl, sI_ne (by omega), sI_ne (by omega), n56]
    · rw [b3' k hk, sI_ne (by omega), sI_ne (by omega), n78 k hk]
  rcases h5 with ⟨i1, i2, i3, i4⟩ | ⟨i1, i2, i3⟩
  · obtain ⟨⟨c1, c2, c3, c4⟩, ⟨⟨d1, d1', d1''⟩, d2, d3, d4⟩, e1, e2, e3⟩ := i3
    by_cases y : (sc2 t n).2.2.2.2 = 0
    · have lk : lok t n = true := by rw [i1, y]; rfl
      rw [d2, if_pos rfl, d1'', y, if_pos (show nI 0 = 0 from rfl), x12_108, n25] at U
      obtain ⟨σ2, b1, b2, b3', b4, b5⟩ := x12_163 (n := n) hS hn n 0 FU (sI (sI σ23 37 56 0) 37 25 0) (by omega) (FU_lt (by omega)) hR23
      have b1 : f_X12_law_163 FU L (sI (sI σ23 37 56 0) 37 25 0) 37 (nI n) 0 = some ((sI (sI σ23 37 56 0) 37 25 0).1 37 60, σ2) := b1
      refine ⟨_, σ2, U.trans b1, ?_, ?_, Or.inl ⟨lk, ?_, b3', b4, fun i hi => ?_, i4.to (fun k hk => ?_)⟩⟩
      · exact ((FA.wr (rlc_t (by omega))).wr (rlc_t (by omega))).tr (FR.sub b2 kps_l)
      · rw [b2.at rfl, sI_eq]
      · rw [sI_nk (by omega), sI_nk (by omega), e3]
      · rw [b5 i hi, if_pos (Nat.zero_le i), sI_ne (by omega), sI_ne (by omega), n55]
      · rw [b2.at rfl, sI_ne (by omega), sI_ne (by omega)]
    · have lk : lok t n = false := by
        rw [i1]
        exact pf_of (fun u => y (Nat.eq_of_beq_eq_true u))
      rw [d2, if_pos rfl, d1'', if_neg (show ¬ nI (sc2 t n).2.2.2.2 = 0 from fun u => y ((nI_eq (b := 0) (by omega) (by omega)).mp u))] at U
      exact NO lk (by rw [i2]; exact d1) U
  · rw [i3, if_neg (by decide)] at U
    exact NO i1 i2 U
end
