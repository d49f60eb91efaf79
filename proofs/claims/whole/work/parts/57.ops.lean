theorem of_btw {x : Int32} {a b : Nat} (h : nI a ≤ x ∧ x ≤ nI b) (hb : b < 2 ^ 30) (ha : a ≤ b := by omega) : ∃ n, a ≤ n ∧ n ≤ b ∧ x = nI n := by
  obtain ⟨n, h1, rfl⟩ := of_le (y := x) (n := b) ⟨Int32.le_trans (nI_pos' (by omega)) h.1, h.2⟩ hb
  exact ⟨n, (nI_leI (by omega) (by omega)).mp h.1, h1, rfl⟩
theorem max0s (z : Int32) : (if 0 ≤ z then some z else some (0 : Int32)) = some (if 0 < z then z else 0) := by
  by_cases h1 : 0 < z
  · rw [if_pos h1, if_pos (Int32.le_of_lt h1)]
  · rw [if_neg h1]
    by_cases h2 : 0 ≤ z
    · rw [if_pos h2, Int32.le_antisymm (Int32.not_lt.mp h1) h2]
    · rw [if_neg h2]
theorem opr_self {x : Option Int32} (h : ∃ v, x = some v) : ∃ v, x = some v ∧ x = some v := by
  obtain ⟨v, e⟩ := h
  exact ⟨v, e, e⟩
theorem dv_of {x y : Int32} (h : ¬ y = 0) : dv x y = some (x / y) := if_neg h
theorem dv5 (x : Int32) : dv x 5 = some (x / 5) := if_neg (by decide)
theorem dv10 (x : Int32) : dv x 10 = some (x / 10) := if_neg (by decide)
theorem dv60 (x : Int32) : dv x 60 = some (x / 60) := if_neg (by decide)
theorem dv100 (x : Int32) : dv x 100 = some (x / 100) := if_neg (by decide)
theorem rm10 (x : Int32) : rm x 10 = some (x - x / 10 * 10) := if_neg (by decide)
/-- is a kind of another? -/
def kdS (v y : Int32) : Int32 := b3 (y = 0 ∨ y = v ∨ (y = 1 ∧ v = 2))
section
variable {nb nm nl nB nN td nt nw lw : Nat} {w : Nat → Nat} {L : Lay} {σ : Sto}
theorem x10_isBranchOf (hS : SF L) (hR : RF lw σ.2.1) {i : Nat} (eb : σ.1 1 1 = nI nb) (hnb : nb ≤ 6) (hi : i < nb) (y : Int32) : f_X10_isBranchOf L σ 1 (nI i) y = some (kdS (σ.1 2 i) y) := by
  simp (disch := omega) only [f_X10_isBranchOf, hB_in eb hnb hi, hR.r1_0, rI_nI hS.l2, Option.bind_some, Option.elim_some, Option.elim_none, wi, x12_in, b3_z, ckb, ck0, ck1, putI, putR, putJ, not_true_eq_false, not_false_eq_true, if_true, if_false, and_self, and_true, true_and, one_ne0, zero_eq0, ite_self, sI_eq, sI_ne, sI_nk, sI_21, sI_22, sJ_21, sJ_1]
  unfold kdS
  by_cases h0 : y = 0
  · rw [if_pos h0, b3_t (Or.inl h0)]
  · rw [if_neg h0]
    by_cases h1 : y = σ.1 2 i
    · rw [if_pos h1, b3_t (Or.inr (Or.inl h1))]
    · rw [if_neg h1]
      by_cases h2 : y = 1
      · rw [if_pos h2]
        by_cases h3 : σ.1 2 i = 2
        · rw [if_pos h3, b3_t (Or.inr (Or.inr ⟨h2, h3⟩))]
        · rw [if_neg h3, b3_f (by rintro (q | q | q); exact h0 q; exact h1 q; exact h3 q.2)]
      · rw [if_neg h2, b3_f (by rintro (q | q | q); exact h0 q; exact h1 q; exact h2 q.1)]
theorem x12_isOfKind (hS : SF L) (hR : RF lw σ.2.1) {i : Nat} (hi : i < 6) (y : Int32) : f_X12_isOfKind L σ 37 (nI i) y = some (kdS (σ.1 38 i) y) := by
  simp (disch := omega) only [f_X12_isOfKind, hR.r37_3, rI_nI hS.l38, Option.bind_some, Option.elim_some, Option.elim_none, wi, x12_in, b3_z, ckb, ck0, ck1, putI, putR, putJ, not_true_eq_false, not_false_eq_true, if_true, if_false, and_self, and_true, true_and, one_ne0, zero_eq0, ite_self, sI_eq, sI_ne, sI_nk, sI_21, sI_22, sJ_21, sJ_1]
  unfold kdS
  by_cases h0 : y = 0
  · rw [if_pos h0, b3_t (Or.inl h0)]
  · rw [if_neg h0]
    by_cases h1 : σ.1 38 i = y
    · rw [if_pos h1, b3_t (Or.inr (Or.inl h1.symm))]
    · rw [if_neg h1]
      by_cases h2 : y = 1
      · rw [if_pos h2]
        by_cases h3 : σ.1 38 i = 2
        · rw [if_pos h3, b3_t (Or.inr (Or.inr ⟨h2, h3⟩))]
        · rw [if_neg h3, b3_f (by rintro (q | q | q); exact h0 q; exact h1 q.symm; exact h3 q.2)]
      · rw [if_neg h2, b3_f (by rintro (q | q | q); exact h0 q; exact h1 q.symm; exact h2 q.1)]
theorem b3_01 (p : Prop) [Decidable p] : (if b3 p = 0 then some (0 : Int32) else some 1) = some (b3 p) := by
  by_cases h : p
  · rw [b3_t h]; rfl
  · rw [b3_f h]; rfl
theorem kdS_01 (v y : Int32) : (if kdS v y = 0 then some (0 : Int32) else some 1) = some (kdS v y) := b3_01 _
theorem kdS_one (v y : Int32) (L : Lay) (σ : Sto) : f_X11_oneIf L σ (kdS v y) = some (kdS v y) := one_b3 L σ
theorem op_isOf (h : INVP nb nm nl nB nN td nt nw lw w L σ) (x y : Int32) : OPr (f_X11_isOf L σ 0 x y) (f_X12_isOf L σ 37 x y) := by
  obtain ⟨hS, hR, ⟨⟨hnb, hnm, hnl, hnB, hnN, htd, hnt, hnw⟩, ⟨eb, eb'⟩, ⟨em, em'⟩, ⟨el, el'⟩, ⟨eB, eB'⟩, ⟨eN, eN'⟩, ⟨et, et'⟩, ⟨ep, ep'⟩, ew, ew'⟩, hBR, hME, hLI, hBA, hTA, hNO, hHA, hRU, hWA, hSH, hLA⟩ := id h
  rcases ixc x nb (by omega) with hx | ⟨i, hi, rfl⟩
  · refine ⟨-1000000001, ?_, ?_⟩
    · simp only [f_X11_isOf, hR.r0_0, hB_out eb hnb hx, Option.bind_some, Option.elim_some, Option.elim_none, wi, x12_in, b3_z, ckb, ck0, ck1, putI, putR, putJ, not_true_eq_false, not_false_eq_true, if_true, if_false, and_self, and_true, true_and, one_ne0, zero_eq0, ite_self, sI_eq, sI_ne, sI_nk, sI_21, sI_22, sJ_21, sJ_1]
    · simp only [f_X12_isOf, isBr_out eb' hnb hx, Option.bind_some, Option.elim_some, Option.elim_none, wi, x12_in, b3_z, ckb, ck0, ck1, putI, putR, putJ, not_true_eq_false, not_false_eq_true, if_true, if_false, and_self, and_true, true_and, one_ne0, zero_eq0, ite_self, sI_eq, sI_ne, sI_nk, sI_21, sI_22, sJ_21, sJ_1]
  · by_cases hy : 0 ≤ y ∧ y ≤ 3
    · refine ⟨kdS (σ.1 38 i) y, ?_, ?_⟩
      · simp only [f_X11_isOf, f_X10_isKind, hR.r0_0, hB_in eb hnb hi, hy, x10_isBranchOf hS hR eb hnb hi, kdS_one, hBR i hi, Option.bind_some, Option.elim_some, Option.elim_none, wi, x12_in, b3_z, ckb, ck0, ck1, putI, putR, putJ, not_true_eq_false, not_false_eq_true, if_true, if_false, and_self, and_true, true_and, one_ne0, zero_eq0, ite_self, sI_eq, sI_ne, sI_nk, sI_21, sI_22, sJ_21, sJ_1]
      · simp only [f_X12_isOf, isBr_in eb' hnb hi, hy, x12_isOfKind hS hR (show i < 6 by omega), kdS_01, Option.bind_some, Option.elim_some, Option.elim_none, wi, x12_in, b3_z, ckb, ck0, ck1, putI, putR, putJ, not_true_eq_false, not_false_eq_true, if_true, if_false, and_self, and_true, true_and, one_ne0, zero_eq0, ite_self, sI_eq, sI_ne, sI_nk, sI_21, sI_22, sJ_21, sJ_1]
    · refine ⟨-1000000001, ?_, ?_⟩
      · simp only [f_X11_isOf, f_X10_isKind, hR.r0_0, hB_in eb hnb hi, hy, Option.bind_some, Option.elim_some, Option.elim_none, wi, x12_in, b3_z, ckb, ck0, ck1, putI, putR, putJ, not_true_eq_false, not_false_eq_true, if_true, if_false, and_self, and_true, true_and, one_ne0, zero_eq0, ite_self, sI_eq, sI_ne, sI_nk, sI_21, sI_22, sJ_21, sJ_1]
      · simp only [f_X12_isOf, isBr_in eb' hnb hi, hy, Option.bind_some, Option.elim_some, Option.elim_none, wi, x12_in, b3_z, ckb, ck0, ck1, putI, putR, putJ, not_true_eq_false, not_false_eq_true, if_true, if_false, and_self, and_true, true_and, one_ne0, zero_eq0, ite_self, sI_eq, sI_ne, sI_nk, sI_21, sI_22, sJ_21, sJ_1]
theorem op_line (h : INVP nb nm nl nB nN td nt nw lw w L σ) (x y : Int32) : OPs L (f_X11_line L σ 0 x y) (fun σ1 => f_X12_line L σ1 37 x y) := by
  have hN := h.hN
  obtain ⟨hS, hR, ⟨⟨hnb, hnm, hnl, hnB, hnN, htd, hnt, hnw⟩, ⟨eb, eb'⟩, ⟨em, em'⟩, ⟨el, el'⟩, ⟨eB, eB'⟩, ⟨eN, eN'⟩, ⟨et, et'⟩, ⟨ep, ep'⟩, ew, ew'⟩, hBR, hME, hLI, hBA, hTA, hNO, hHA, hRU, hWA, hSH, hLA⟩ := id h
  by_cases hx : 0 ≤ x ∧ x ≤ 9999
  · rcases ixc y nb (by omega) with hy | ⟨i, hi, rfl⟩
    · refine ops_of (v := -1000000001) (σ1 := σ) (σ2 := σ) ?_ ?_ h.iv
      · simp only [f_X11_line, f_X11_isMark, hR.r0_0, hB_out eb hnb hy, hx, Option.bind_some, Option.elim_some, Option.elim_none, wi, x12_in, b3_z, ckb, ck0, ck1, putI, putR, putJ, not_true_eq_false, not_false_eq_true, if_true, if_false, and_self, and_true, true_and, one_ne0, zero_eq0, ite_self, sI_eq, sI_ne, sI_nk, sI_21, sI_22, sJ_21, sJ_1]
      · simp only [f_X12_line, isBr_out eb' hnb hy, hx, Option.bind_some, Option.elim_some, Option.elim_none, wi, x12_in, b3_z, ckb, ck0, ck1, putI, putR, putJ, not_true_eq_false, not_false_eq_true, if_true, if_false, and_self, and_true, true_and, one_ne0, zero_eq0, ite_self, sI_eq, sI_ne, sI_nk, sI_21, sI_22, sJ_21, sJ_1]
    · by_cases hl : nl < 40
      · refine ops_of (v := nI nl) (σ1 := sI (sI (sI σ 5 nl x) 6 nl (nI i)) 4 3 (nI (nl + 1))) (σ2 := sI (sI (sI (sI (sI (sI σ 5 nl x) 6 nl (nI i)) 4 3 (nI (nl + 1))) 47 nl x) 48 nl (nI i)) 37 13 (nI (nl + 1))) ?_ ?_ ?_
        · simp (disch := omega) only [f_X11_line, f_X11_isMark, f_X7_isFull, f_X7_addLine, hR.r0_0, hR.r0_1, hR.r4_1, hR.r4_2, hB_in eb hnb hi, el, nlt_l, hx, hl, wI_nI hS.l5, wI_nI hS.l6, nI_1, nI_pred, Option.bind_some, Option.elim_some, Option.elim_none, wi, x12_in, b3_z, ckb, ck0, ck1, putI, putR, putJ, not_true_eq_false, not_false_eq_true, if_true, if_false, and_self, and_true, true_and, one_ne0, zero_eq0, ite_self, sI_eq, sI_ne, sI_nk, sI_21, sI_22, sJ_21, sJ_1]
        · simp (disch := omega) only [f_X12_line, hR.r37_14, hR.r37_15, isBr_in (show (sI (sI (sI σ 5 nl x) 6 nl (nI i)) 4 3 (nI (nl + 1))).1 37 2 = nI nb by simp (disch := omega) only [sI_ne, eb']) hnb hi, el', neq_l, hx, show ¬ nl = 40 by omega, wI_nI hS.l47, wI_nI hS.l48, nI_1, nI_pred, Option.bind_some, Option.elim_some, Option.elim_none, wi, x12_in, b3_z, ckb, ck0, ck1, putI, putR, putJ, not_true_eq_false, not_false_eq_true, if_true, if_false, and_self, and_true, true_and, one_ne0, zero_eq0, ite_self, sI_eq, sI_ne, sI_nk, sI_21, sI_22, sJ_21, sJ_1]
        · refine ⟨nb, nm, nl + 1, nB, nN, td, nt, nw, lw, w, hS, hR, ⟨⟨by omega, by omega, by omega, by omega, by omega, by omega, by omega, by omega⟩, ⟨by simp (disch := omega) only [sI_eq, sI_ne, sI_nk, sI_21, eb, eb', em, em', el, el', eB, eB', eN, eN', et, et', ep, ep', ew, ew'], by simp (disch := omega) only [sI_eq, sI_ne, sI_nk, sI_21, eb, eb', em, em', el, el', eB, eB', eN, eN', et, et', ep, ep', ew, ew']⟩, ⟨by simp (disch := omega) only [sI_eq, sI_ne, sI_nk, sI_21, eb, eb', em, em', el, el', eB, eB', eN, eN', et, et', ep, ep', ew, ew'], by simp (disch := omega) only [sI_eq, sI_ne, sI_nk, sI_21, eb, eb', em, em', el, el', eB, eB', eN, eN', et, et', ep, ep', ew, ew']⟩, ⟨by simp (disch := omega) only [sI_eq, sI_ne, sI_nk, sI_21, eb, eb', em, em', el, el', eB, eB', eN, eN', et, et', ep, ep', ew, ew'], by simp (disch := omega) only [sI_eq, sI_ne, sI_nk, sI_21, eb, eb', em, em', el, el', eB, eB', eN, eN', et, et', ep, ep', ew, ew']⟩, ⟨by simp (disch := omega) only [sI_eq, sI_ne, sI_nk, sI_21, eb, eb', em, em', el, el', eB, eB', eN, eN', et, et', ep, ep', ew, ew'], by simp (disch := omega) only [sI_eq, sI_ne, sI_nk, sI_21, eb, eb', em, em', el, el', eB, eB', eN, eN', et, et', ep, ep', ew, ew']⟩, ⟨by simp (disch := omega) only [sI_eq, sI_ne, sI_nk, sI_21, eb, eb', em, em', el, el', eB, eB', eN, eN', et, et', ep, ep', ew, ew'], by simp (disch := omega) only [sI_eq, sI_ne, sI_nk, sI_21, eb, eb', em, em', el, el', eB, eB', eN, eN', et, et', ep, ep', ew, ew']⟩, ⟨by simp (disch := omega) only [sI_eq, sI_ne, sI_nk, sI_21, eb, eb', em, em', el, el', eB, eB', eN, eN', et, et', ep, ep', ew, ew'], by simp (disch := omega) only [sI_eq, sI_ne, sI_nk, sI_21, eb, eb', em, em', el, el', eB, eB', eN, eN', et, et', ep, ep', ew, ew']⟩, ⟨by simp (disch := omega) only [sI_eq, sI_ne, sI_nk, sI_21, eb, eb', em, em', el, el', eB, eB', eN, eN', et, et', ep, ep', ew, ew'], by simp (disch := omega) only [sI_eq, sI_ne, sI_nk, sI_21, eb, eb', em, em', el, el', eB, eB', eN, eN', et, et', ep, ep', ew, ew']⟩, by simp (disch := omega) only [sI_eq, sI_ne, sI_nk, sI_21, eb, eb', em, em', el, el', eB, eB', eN, eN', et, et', ep, ep', ew, ew'], by simp (disch := omega) only [sI_eq, sI_ne, sI_nk, sI_21, eb, eb', em, em', el, el', eB, eB', eN, eN', et, et', ep, ep', ew, ew']⟩, hBR.fr (((((((AG.rf _ _).wr rfl).wr rfl).wr rfl).wr rfl).wr rfl).wr rfl), hME.f (by omega) (by omega) (fun i _ => (((((((AG.rf _ _).wr rfl).wr rfl).wr rfl).wr rfl).wr rfl).wr rfl)) rfl, ?_, hBA.f hnm (by omega) (by omega) (fun j _ => (((((((AG.rf _ _).wr rfl).wr rfl).wr rfl).wr rfl).wr rfl).wr rfl)) rfl, hTA.fr (((((((AG.rf _ _).wr rfl).wr rfl).wr rfl).wr rfl).wr rfl).wr rfl), hNO.f (by omega) (by omega) (fun j _ => (((((((AG.rf _ _).wr rfl).wr rfl).wr rfl).wr rfl).wr rfl).wr rfl)) rfl, hHA.fr (((((((AG.rf _ _).wr rfl).wr rfl).wr rfl).wr rfl).wr rfl).wr rfl), hRU.fr (((((((AG.rf _ _).wr rfl).wr rfl).wr rfl).wr rfl).wr rfl).wr rfl), hWA.fr (((((((AG.rf _ _).wr rfl).wr rfl).wr rfl).wr rfl).wr rfl).wr rfl), hSH.fr (((((((AG.rf _ _).wr rfl).wr rfl).wr rfl).wr rfl).wr rfl).wr rfl), hLA.fr hR.lw (((((((AG.rf _ _).wr rfl).wr rfl).wr rfl).wr rfl).wr rfl).wr rfl)⟩
          intro k hk
          by_cases q : k = nl
          · subst q
            simp (disch := omega) only [sI_eq, sI_ne, and_self]
          · simp (disch := omega) only [sI_nk, sI_ne]
            exact hLI k (by omega)
      · refine ops_of (v := -1000000003) (σ1 := σ) (σ2 := σ) ?_ ?_ h.iv
        · simp (disch := omega) only [f_X11_line, f_X11_isMark, f_X7_isFull, hR.r0_0, hR.r0_1, hB_in eb hnb hi, el, nlt_l, hx, hl, Option.bind_some, Option.elim_some, Option.elim_none, wi, x12_in, b3_z, ckb, ck0, ck1, putI, putR, putJ, not_true_eq_false, not_false_eq_true, if_true, if_false, and_self, and_true, true_and, one_ne0, zero_eq0, ite_self, sI_eq, sI_ne, sI_nk, sI_21, sI_22, sJ_21, sJ_1]
        · simp (disch := omega) only [f_X12_line, isBr_in eb' hnb hi, el', neq_l, hx, show nl = 40 by omega, Option.bind_some, Option.elim_some, Option.elim_none, wi, x12_in, b3_z, ckb, ck0, ck1, putI, putR, putJ, not_true_eq_false, not_false_eq_true, if_true, if_false, and_self, and_true, true_and, one_ne0, zero_eq0, ite_self, sI_eq, sI_ne, sI_nk, sI_21, sI_22, sJ_21, sJ_1]
  · refine ops_of (v := -1000000001) (σ1 := σ) (σ2 := σ) ?_ ?_ h.iv
    · simp only [f_X11_line, f_X11_isMark, hx, Option.bind_some, Option.elim_some, Option.elim_none, wi, x12_in, b3_z, ckb, ck0, ck1, putI, putR, putJ, not_true_eq_false, not_false_eq_true, if_true, if_false, and_self, and_true, true_and, one_ne0, zero_eq0, ite_self, sI_eq, sI_ne, sI_nk, sI_21, sI_22, sJ_21, sJ_1]
    · simp only [f_X12_line, hx, Option.bind_some, Option.elim_some, Option.elim_none, wi, x12_in, b3_z, ckb, ck0, ck1, putI, putR, putJ, not_true_eq_false, not_false_eq_true, if_true, if_false, and_self, and_true, true_and, one_ne0, zero_eq0, ite_self, sI_eq, sI_ne, sI_nk, sI_21, sI_22, sJ_21, sJ_1]
theorem op_wipe (h : INVP nb nm nl nB nN td nt nw lw w L σ) : OPs L (f_X11_wipe L σ 0) (fun σ1 => f_X12_wipe L σ1 37) := by
  have hN := h.hN
  obtain ⟨hS, hR, ⟨⟨hnb, hnm, hnl, hnB, hnN, htd, hnt, hnw⟩, ⟨eb, eb'⟩, ⟨em, em'⟩, ⟨el, el'⟩, ⟨eB, eB'⟩, ⟨eN, eN'⟩, ⟨et, et'⟩, ⟨ep, ep'⟩, ew, ew'⟩, hBR, hME, hLI, hBA, hTA, hNO, hHA, hRU, hWA, hSH, hLA⟩ := id h
  refine ops_of (v := nI nl) (σ1 := sI σ 4 3 (nI 0)) (σ2 := sI (sI σ 4 3 (nI 0)) 37 13 (nI 0)) ?_ ?_ ?_
  · simp (disch := omega) only [f_X11_wipe, hR.r0_1, el, nI_0, Option.bind_some, Option.elim_some, Option.elim_none, wi, x12_in, b3_z, ckb, ck0, ck1, putI, putR, putJ, not_true_eq_false, not_false_eq_true, if_true, if_false, and_self, and_true, true_and, one_ne0, zero_eq0, ite_self, sI_eq, sI_ne, sI_nk, sI_21, sI_22, sJ_21, sJ_1]
  · simp (disch := omega) only [f_X12_wipe, el', nI_0, Option.bind_some, Option.elim_some, Option.elim_none, wi, x12_in, b3_z, ckb, ck0, ck1, putI, putR, putJ, not_true_eq_false, not_false_eq_true, if_true, if_false, and_self, and_true, true_and, one_ne0, zero_eq0, ite_self, sI_eq, sI_ne, sI_nk, sI_21, sI_22, sJ_21, sJ_1]
  · refine ⟨nb, nm, 0, nB, nN, td, nt, nw, lw, w, hS, hR, ⟨⟨by omega, by omega, by omega, by omega, by omega, by omega, by omega, by omega⟩, ⟨by simp (disch := omega) only [sI_eq, sI_ne, sI_nk, sI_21, eb, eb', em, em', el, el', eB, eB', eN, eN', et, et', ep, ep', ew, ew'], by simp (disch := omega) only [sI_eq, sI_ne, sI_nk, sI_21, eb, eb', em, em', el, el', eB, eB', eN, eN', et, et', ep, ep', ew, ew']⟩, ⟨by simp (disch := omega) only [sI_eq, sI_ne, sI_nk, sI_21, eb, eb', em, em', el, el', eB, eB', eN, eN', et, et', ep, ep', ew, ew'], by simp (disch := omega) only [sI_eq, sI_ne, sI_nk, sI_21, eb, eb', em, em', el, el', eB, eB', eN, eN', et, et', ep, ep', ew, ew']⟩, ⟨by simp (disch := omega) only [sI_eq, sI_ne, sI_nk, sI_21, eb, eb', em, em', el, el', eB, eB', eN, eN', et, et', ep, ep', ew, ew'], by simp (disch := omega) only [sI_eq, sI_ne, sI_nk, sI_21, eb, eb', em, em', el, el', eB, eB', eN, eN', et, et', ep, ep', ew, ew']⟩, ⟨by simp (disch := omega) only [sI_eq, sI_ne, sI_nk, sI_21, eb, eb', em, em', el, el', eB, eB', eN, eN', et, et', ep, ep', ew, ew'], by simp (disch := omega) only [sI_eq, sI_ne, sI_nk, sI_21, eb, eb', em, em', el, el', eB, eB', eN, eN', et, et', ep, ep', ew, ew']⟩, ⟨by simp (disch := omega) only [sI_eq, sI_ne, sI_nk, sI_21, eb, eb', em, em', el, el', eB, eB', eN, eN', et, et', ep, ep', ew, ew'], by simp (disch := omega) only [sI_eq, sI_ne, sI_nk, sI_21, eb, eb', em, em', el, el', eB, eB', eN, eN', et, et', ep, ep', ew, ew']⟩, ⟨by simp (disch := omega) only [sI_eq, sI_ne, sI_nk, sI_21, eb, eb', em, em', el, el', eB, eB', eN, eN', et, et', ep, ep', ew, ew'], by simp (disch := omega) only [sI_eq, sI_ne, sI_nk, sI_21, eb, eb', em, em', el, el', eB, eB', eN, eN', et, et', ep, ep', ew, ew']⟩, ⟨by simp (disch := omega) only [sI_eq, sI_ne, sI_nk, sI_21, eb, eb', em, em', el, el', eB, eB', eN, eN', et, et', ep, ep', ew, ew'], by simp (disch := omega) only [sI_eq, sI_ne, sI_nk, sI_21, eb, eb', em, em', el, el', eB, eB', eN, eN', et, et', ep, ep', ew, ew']⟩, by simp (disch := omega) only [sI_eq, sI_ne, sI_nk, sI_21, eb, eb', em, em', el, el', eB, eB', eN, eN', et, et', ep, ep', ew, ew'], by simp (disch := omega) only [sI_eq, sI_ne, sI_nk, sI_21, eb, eb', em, em', el, el', eB, eB', eN, eN', et, et', ep, ep', ew, ew']⟩, hBR.fr (((AG.rf _ _).wr rfl).wr rfl), hME.f (by omega) (by omega) (fun i _ => (((AG.rf _ _).wr rfl).wr rfl)) rfl, fun i hi => absurd hi (by omega), hBA.f hnm (by omega) (by omega) (fun j _ => (((AG.rf _ _).wr rfl).wr rfl)) rfl, hTA.fr (((AG.rf _ _).wr rfl).wr rfl), hNO.f (by omega) (by omega) (fun j _ => (((AG.rf _ _).wr rfl).wr rfl)) rfl, hHA.fr (((AG.rf _ _).wr rfl).wr rfl), hRU.fr (((AG.rf _ _).wr rfl).wr rfl), hWA.fr (((AG.rf _ _).wr rfl).wr rfl), hSH.fr (((AG.rf _ _).wr rfl).wr rfl), hLA.fr hR.lw (((AG.rf _ _).wr rfl).wr rfl)⟩
theorem op_days (h : INVP nb nm nl nB nN td nt nw lw w L σ) (x : Int32) : OPs L (f_X11_days L σ 0 x) (fun σ1 => f_X12_days L σ1 37 x) := by
  have hN := h.hN
  obtain ⟨hS, hR, ⟨⟨hnb, hnm, hnl, hnB, hnN, htd, hnt, hnw⟩, ⟨eb, eb'⟩, ⟨em, em'⟩, ⟨el, el'⟩, ⟨eB, eB'⟩, ⟨eN, eN'⟩, ⟨et, et'⟩, ⟨ep, ep'⟩, ew, ew'⟩, hBR, hME, hLI, hBA, hTA, hNO, hHA, hRU, hWA, hSH, hLA⟩ := id h
  by_cases hx : 1 ≤ x ∧ x ≤ 60
  · have hx0 := hx
    obtain ⟨n, h1, h2, rfl⟩ := of_btw (a := 1) (b := 60) hx (by omega)
    by_cases ht : td + n ≤ 400
    · refine ops_of (v := nI (td + n)) (σ1 := sI σ 1 4 (nI (td + n))) (σ2 := sI (sI σ 1 4 (nI (td + n))) 37 1 (nI (td + n))) ?_ ?_ ?_
      · simp (disch := omega) only [f_X11_days, hR.r0_0, et, hx0, nI_add, nle_l, ht, Option.bind_some, Option.elim_some, Option.elim_none, wi, x12_in, b3_z, ckb, ck0, ck1, putI, putR, putJ, not_true_eq_false, not_false_eq_true, if_true, if_false, and_self, and_true, true_and, one_ne0, zero_eq0, ite_self, sI_eq, sI_ne, sI_nk, sI_21, sI_22, sJ_21, sJ_1]
      · simp (disch := omega) only [f_X12_days, et', hx0, nI_add, nle_l, ht, Option.bind_some, Option.elim_some, Option.elim_none, wi, x12_in, b3_z, ckb, ck0, ck1, putI, putR, putJ, not_true_eq_false, not_false_eq_true, if_true, if_false, and_self, and_true, true_and, one_ne0, zero_eq0, ite_self, sI_eq, sI_ne, sI_nk, sI_21, sI_22, sJ_21, sJ_1]
      · refine ⟨nb, nm, nl, nB, nN, td + n, nt, nw, lw, w, hS, hR, ⟨⟨by omega, by omega, by omega, by omega, by omega, by omega, by omega, by omega⟩, ⟨by simp (disch := omega) only [sI_eq, sI_ne, sI_nk, sI_21, eb, eb', em, em', el, el', eB, eB', eN, eN', et, et', ep, ep', ew, ew'], by simp (disch := omega) only [sI_eq, sI_ne, sI_nk, sI_21, eb, eb', em, em', el, el', eB, eB', eN, eN', et, et', ep, ep', ew, ew']⟩, ⟨by simp (disch := omega) only [sI_eq, sI_ne, sI_nk, sI_21, eb, eb', em, em', el, el', eB, eB', eN, eN', et, et', ep, ep', ew, ew'], by simp (disch := omega) only [sI_eq, sI_ne, sI_nk, sI_21, eb, eb', em, em', el, el', eB, eB', eN, eN', et, et', ep, ep', ew, ew']⟩, ⟨by simp (disch := omega) only [sI_eq, sI_ne, sI_nk, sI_21, eb, eb', em, em', el, el', eB, eB', eN, eN', et, et', ep, ep', ew, ew'], by simp (disch := omega) only [sI_eq, sI_ne, sI_nk, sI_21, eb, eb', em, em', el, el', eB, eB', eN, eN', et, et', ep, ep', ew, ew']⟩, ⟨by simp (disch := omega) only [sI_eq, sI_ne, sI_nk, sI_21, eb, eb', em, em', el, el', eB, eB', eN, eN', et, et', ep, ep', ew, ew'], by simp (disch := omega) only [sI_eq, sI_ne, sI_nk, sI_21, eb, eb', em, em', el, el', eB, eB', eN, eN', et, et', ep, ep', ew, ew']⟩, ⟨by simp (disch := omega) only [sI_eq, sI_ne, sI_nk, sI_21, eb, eb', em, em', el, el', eB, eB', eN, eN', et, et', ep, ep', ew, ew'], by simp (disch := omega) only [sI_eq, sI_ne, sI_nk, sI_21, eb, eb', em, em', el, el', eB, eB', eN, eN', et, et', ep, ep', ew, ew']⟩, ⟨by simp (disch := omega) only [sI_eq, sI_ne, sI_nk, sI_21, eb, eb', em, em', el, el', eB, eB', eN, eN', et, et', ep, ep', ew, ew'], by simp (disch := omega) only [sI_eq, sI_ne, sI_nk, sI_21, eb, eb', em, em', el, el', eB, eB', eN, eN', et, et', ep, ep', ew, ew']⟩, ⟨by simp (disch := omega) only [sI_eq, sI_ne, sI_nk, sI_21, eb, eb', em, em', el, el', eB, eB', eN, eN', et, et', ep, ep', ew, ew'], by simp (disch := omega) only [sI_eq, sI_ne, sI_nk, sI_21, eb, eb', em, em', el, el', eB, eB', eN, eN', et, et', ep, ep', ew, ew']⟩, by simp (disch := omega) only [sI_eq, sI_ne, sI_nk, sI_21, eb, eb', em, em', el, el', eB, eB', eN, eN', et, et', ep, ep', ew, ew'], by simp (disch := omega) only [sI_eq, sI_ne, sI_nk, sI_21, eb, eb', em, em', el, el', eB, eB', eN, eN', et, et', ep, ep', ew, ew']⟩, hBR.fr (((AG.rf _ _).wr rfl).wr rfl), hME.f (by omega) (by omega) (fun i _ => (((AG.rf _ _).wr rfl).wr rfl)) rfl, hLI.fr (((AG.rf _ _).wr rfl).wr rfl), hBA.f hnm (by omega) (by omega) (fun j _ => (((AG.rf _ _).wr rfl).wr rfl)) rfl, hTA.fr (((AG.rf _ _).wr rfl).wr rfl), hNO.f (by omega) (by omega) (fun j _ => (((AG.rf _ _).wr rfl).wr rfl)) rfl, hHA.fr (((AG.rf _ _).wr rfl).wr rfl), hRU.fr (((AG.rf _ _).wr rfl).wr rfl), hWA.fr (((AG.rf _ _).wr rfl).wr rfl), hSH.fr (((AG.rf _ _).wr rfl).wr rfl), hLA.fr hR.lw (((AG.rf _ _).wr rfl).wr rfl)⟩
    · refine ops_of (v := -1000000001) (σ1 := σ) (σ2 := σ) ?_ ?_ h.iv
      · simp (disch := omega) only [f_X11_days, hR.r0_0, et, hx0, nI_add, nle_l, ht, Option.bind_some, Option.elim_some, Option.elim_none, wi, x12_in, b3_z, ckb, ck0, ck1, putI, putR, putJ, not_true_eq_false, not_false_eq_true, if_true, if_false, and_self, and_true, true_and, one_ne0, zero_eq0, ite_self, sI_eq, sI_ne, sI_nk, sI_21, sI_22, sJ_21, sJ_1]
      · simp (disch := omega) only [f_X12_days, et', hx0, nI_add, nle_l, ht, Option.bind_some, Option.elim_some, Option.elim_none, wi, x12_in, b3_z, ckb, ck0, ck1, putI, putR, putJ, not_true_eq_false, not_false_eq_true, if_true, if_false, and_self, and_true, true_and, one_ne0, zero_eq0, ite_self, sI_eq, sI_ne, sI_nk, sI_21, sI_22, sJ_21, sJ_1]
  · refine ops_of (v := -1000000001) (σ1 := σ) (σ2 := σ) ?_ ?_ h.iv
    · simp only [f_X11_days, hx, Option.bind_some, Option.elim_some, Option.elim_none, wi, x12_in, b3_z, ckb, ck0, ck1, putI, putR, putJ, not_true_eq_false, not_false_eq_true, if_true, if_false, and_self, and_true, true_and, one_ne0, zero_eq0, ite_self, sI_eq, sI_ne, sI_nk, sI_21, sI_22, sJ_21, sJ_1]
    · simp only [f_X12_days, hx, Option.bind_some, Option.elim_some, Option.elim_none, wi, x12_in, b3_z, ckb, ck0, ck1, putI, putR, putJ, not_true_eq_false, not_false_eq_true, if_true, if_false, and_self, and_true, true_and, one_ne0, zero_eq0, ite_self, sI_eq, sI_ne, sI_nk, sI_21, sI_22, sJ_21, sJ_1]
theorem op_harm (h : INVP nb nm nl nB nN td nt nw lw w L σ) (x y : Int32) : OPs L (f_X11_harm L σ 0 x y) (fun σ1 => f_X12_harm L σ1 37 x y) := by
  have hN := h.hN
  obtain ⟨hS, hR, ⟨⟨hnb, hnm, hnl, hnB, hnN, htd, hnt, hnw⟩, ⟨eb, eb'⟩, ⟨em, em'⟩, ⟨el, el'⟩, ⟨eB, eB'⟩, ⟨eN, eN'⟩, ⟨et, et'⟩, ⟨ep, ep'⟩, ew, ew'⟩, hBR, hME, hLI, hBA, hTA, hNO, hHA, hRU, hWA, hSH, hLA⟩ := id h
  by_cases hx : 0 ≤ x ∧ x ≤ 11
  · have hx0 := hx
    obtain ⟨i, h1, rfl⟩ := of_le (n := 11) hx (by omega)
    by_cases hy : 0 ≤ y ∧ y ≤ 999
    · have hy0 := hy
      obtain ⟨v, h2, rfl⟩ := of_le (n := 999) hy (by omega)
      obtain ⟨q, q1, q2, q3⟩ := hHA i (by omega)
      refine ops_of (v := nI q) (σ1 := sI σ 29 i (nI v)) (σ2 := sI (sI σ 29 i (nI v)) 63 i (nI v)) ?_ ?_ ?_
      · simp (disch := omega) only [f_X11_harm, hR.r0_12, hR.r28_0, hx0, hy0, rI_nI hS.l29, wI_nI hS.l29, q2, Option.bind_some, Option.elim_some, Option.elim_none, wi, x12_in, b3_z, ckb, ck0, ck1, putI, putR, putJ, not_true_eq_false, not_false_eq_true, if_true, if_false, and_self, and_true, true_and, one_ne0, zero_eq0, ite_self, sI_eq, sI_ne, sI_nk, sI_21, sI_22, sJ_21, sJ_1]
      · simp (disch := omega) only [f_X12_harm, hR.r37_35, hx0, hy0, rI_nI hS.l63, wI_nI hS.l63, q3, Option.bind_some, Option.elim_some, Option.elim_none, wi, x12_in, b3_z, ckb, ck0, ck1, putI, putR, putJ, not_true_eq_false, not_false_eq_true, if_true, if_false, and_self, and_true, true_and, one_ne0, zero_eq0, ite_self, sI_eq, sI_ne, sI_nk, sI_21, sI_22, sJ_21, sJ_1]
      · refine ⟨nb, nm, nl, nB, nN, td, nt, nw, lw, w, hS, hR, hN.fr (((AG.rf _ _).wr rfl).wr rfl), hBR.fr (((AG.rf _ _).wr rfl).wr rfl), hME.f (by omega) (by omega) (fun i _ => (((AG.rf _ _).wr rfl).wr rfl)) rfl, hLI.fr (((AG.rf _ _).wr rfl).wr rfl), hBA.f hnm (by omega) (by omega) (fun j _ => (((AG.rf _ _).wr rfl).wr rfl)) rfl, hTA.fr (((AG.rf _ _).wr rfl).wr rfl), hNO.f (by omega) (by omega) (fun j _ => (((AG.rf _ _).wr rfl).wr rfl)) rfl, ?_, hRU.fr (((AG.rf _ _).wr rfl).wr rfl), hWA.fr (((AG.rf _ _).wr rfl).wr rfl), hSH.fr (((AG.rf _ _).wr rfl).wr rfl), hLA.fr hR.lw (((AG.rf _ _).wr rfl).wr rfl)⟩
        intro k hk
        by_cases z : k = i
        · subst z
          exact ⟨v, h2, by simp (disch := omega) only [sI_eq, sI_ne], by simp (disch := omega) only [sI_eq, sI_ne]⟩
        · simp (disch := omega) only [sI_nk, sI_ne]
          exact hHA k hk
    · refine ops_of (v := -1000000001) (σ1 := σ) (σ2 := σ) ?_ ?_ h.iv
      · simp only [f_X11_harm, hx0, hy, Option.bind_some, Option.elim_some, Option.elim_none, wi, x12_in, b3_z, ckb, ck0, ck1, putI, putR, putJ, not_true_eq_false, not_false_eq_true, if_true, if_false, and_self, and_true, true_and, one_ne0, zero_eq0, ite_self, sI_eq, sI_ne, sI_nk, sI_21, sI_22, sJ_21, sJ_1]
      · simp only [f_X12_harm, hx0, hy, Option.bind_some, Option.elim_some, Option.elim_none, wi, x12_in, b3_z, ckb, ck0, ck1, putI, putR, putJ, not_true_eq_false, not_false_eq_true, if_true, if_false, and_self, and_true, true_and, one_ne0, zero_eq0, ite_self, sI_eq, sI_ne, sI_nk, sI_21, sI_22, sJ_21, sJ_1]
  · refine ops_of (v := -1000000001) (σ1 := σ) (σ2 := σ) ?_ ?_ h.iv
    · simp only [f_X11_harm, hx, Option.bind_some, Option.elim_some, Option.elim_none, wi, x12_in, b3_z, ckb, ck0, ck1, putI, putR, putJ, not_true_eq_false, not_false_eq_true, if_true, if_false, and_self, and_true, true_and, one_ne0, zero_eq0, ite_self, sI_eq, sI_ne, sI_nk, sI_21, sI_22, sJ_21, sJ_1]
    · simp only [f_X12_harm, hx, Option.bind_some, Option.elim_some, Option.elim_none, wi, x12_in, b3_z, ckb, ck0, ck1, putI, putR, putJ, not_true_eq_false, not_false_eq_true, if_true, if_false, and_self, and_true, true_and, one_ne0, zero_eq0, ite_self, sI_eq, sI_ne, sI_nk, sI_21, sI_22, sJ_21, sJ_1]
theorem rC_lo {i : Nat} (hi : i < 5) : rC 2 0 (nI i) = some (nI (lo5 i)) := by
  rcases (show i = 0 ∨ i = 1 ∨ i = 2 ∨ i = 3 ∨ i = 4 by omega) with rfl | rfl | rfl | rfl | rfl <;> decide
theorem rC_hi {i : Nat} (hi : i < 5) : rC 2 1 (nI i) = some (nI (hi5 i)) := by
  rcases (show i = 0 ∨ i = 1 ∨ i = 2 ∨ i = 3 ∨ i = 4 by omega) with rfl | rfl | rfl | rfl | rfl <;> decide
theorem hi5_le (i : Nat) : hi5 i ≤ 1000000 := by unfold hi5; repeat' (first | omega | split)
theorem op_rule (h : INVP nb nm nl nB nN td nt nw lw w L σ) (x y : Int32) : OPs L (f_X11_rule L σ 0 x y) (fun σ1 => f_X12_rule L σ1 37 x y) := by
  have hN := h.hN
  obtain ⟨hS, hR, ⟨⟨hnb, hnm, hnl, hnB, hnN, htd, hnt, hnw⟩, ⟨eb, eb'⟩, ⟨em, em'⟩, ⟨el, el'⟩, ⟨eB, eB'⟩, ⟨eN, eN'⟩, ⟨et, et'⟩, ⟨ep, ep'⟩, ew, ew'⟩, hBR, hME, hLI, hBA, hTA, hNO, hHA, hRU, hWA, hSH, hLA⟩ := id h
  by_cases hx : 0 ≤ x ∧ x ≤ 4
  · have hx0 := hx
    obtain ⟨i, h1, rfl⟩ := of_le (n := 4) hx (by omega)
    obtain ⟨⟨z1, z2⟩, q, q1, q2, q3, q4⟩ := hRU i (by omega)
    by_cases hy : nI (lo5 i) ≤ y ∧ y ≤ nI (hi5 i)
    · have hy0 := hy
      have hh := hi5_le i
      obtain ⟨v, h2, h3, rfl⟩ := of_btw hy (by omega) (by omega)
      refine ops_of (v := nI q) (σ1 := sI σ 30 i (nI v)) (σ2 := sI (sI σ 30 i (nI v)) 64 i (nI v)) ?_ ?_ ?_
      · simp (disch := omega) only [f_X11_rule, hR.r0_12, hR.r28_1, hx0, hy0, rC_lo (show i < 5 by omega), rC_hi (show i < 5 by omega), rI_nI hS.l30, wI_nI hS.l30, q3, Option.bind_some, Option.elim_some, Option.elim_none, wi, x12_in, b3_z, ckb, ck0, ck1, putI, putR, putJ, not_true_eq_false, not_false_eq_true, if_true, if_false, and_self, and_true, true_and, one_ne0, zero_eq0, ite_self, sI_eq, sI_ne, sI_nk, sI_21, sI_22, sJ_21, sJ_1]
      · simp (disch := omega) only [f_X12_rule, hR.r37_36, hR.r37_37, hR.r37_38, hx0, hy0, rI_nI hS.l64, rI_nI hS.l65, rI_nI hS.l66, wI_nI hS.l64, q4, z1, z2, Option.bind_some, Option.elim_some, Option.elim_none, wi, x12_in, b3_z, ckb, ck0, ck1, putI, putR, putJ, not_true_eq_false, not_false_eq_true, if_true, if_false, and_self, and_true, true_and, one_ne0, zero_eq0, ite_self, sI_eq, sI_ne, sI_nk, sI_21, sI_22, sJ_21, sJ_1]
      · refine ⟨nb, nm, nl, nB, nN, td, nt, nw, lw, w, hS, hR, hN.fr (((AG.rf _ _).wr rfl).wr rfl), hBR.fr (((AG.rf _ _).wr rfl).wr rfl), hME.f (by omega) (by omega) (fun i _ => (((AG.rf _ _).wr rfl).wr rfl)) rfl, hLI.fr (((AG.rf _ _).wr rfl).wr rfl), hBA.f hnm (by omega) (by omega) (fun j _ => (((AG.rf _ _).wr rfl).wr rfl)) rfl, hTA.fr (((AG.rf _ _).wr rfl).wr rfl), hNO.f (by omega) (by omega) (fun j _ => (((AG.rf _ _).wr rfl).wr rfl)) rfl, hHA.fr (((AG.rf _ _).wr rfl).wr rfl), ?_, hWA.fr (((AG.rf _ _).wr rfl).wr rfl), hSH.fr (((AG.rf _ _).wr rfl).wr rfl), hLA.fr hR.lw (((AG.rf _ _).wr rfl).wr rfl)⟩
        intro k hk
        by_cases z : k = i
        · subst z
          refine ⟨⟨?_, ?_⟩, v, h2, h3, ?_, ?_⟩ <;> simp (disch := omega) only [sI_eq, sI_ne, z1, z2]
        · simp (disch := omega) only [sI_nk, sI_ne]
          exact hRU k hk
    · refine ops_of (v := -1000000001) (σ1 := σ) (σ2 := σ) ?_ ?_ h.iv
      · simp (disch := omega) only [f_X11_rule, hx0, hy, rC_lo (show i < 5 by omega), rC_hi (show i < 5 by omega), Option.bind_some, Option.elim_some, Option.elim_none, wi, x12_in, b3_z, ckb, ck0, ck1, putI, putR, putJ, not_true_eq_false, not_false_eq_true, if_true, if_false, and_self, and_true, true_and, one_ne0, zero_eq0, ite_self, sI_eq, sI_ne, sI_nk, sI_21, sI_22, sJ_21, sJ_1]
      · simp (disch := omega) only [f_X12_rule, hR.r37_37, hR.r37_38, hx0, hy, rI_nI hS.l65, rI_nI hS.l66, z1, z2, Option.bind_some, Option.elim_some, Option.elim_none, wi, x12_in, b3_z, ckb, ck0, ck1, putI, putR, putJ, not_true_eq_false, not_false_eq_true, if_true, if_false, and_self, and_true, true_and, one_ne0, zero_eq0, ite_self, sI_eq, sI_ne, sI_nk, sI_21, sI_22, sJ_21, sJ_1]
  · refine ops_of (v := -1000000001) (σ1 := σ) (σ2 := σ) ?_ ?_ h.iv
    · simp only [f_X11_rule, hx, Option.bind_some, Option.elim_some, Option.elim_none, wi, x12_in, b3_z, ckb, ck0, ck1, putI, putR, putJ, not_true_eq_false, not_false_eq_true, if_true, if_false, and_self, and_true, true_and, one_ne0, zero_eq0, ite_self, sI_eq, sI_ne, sI_nk, sI_21, sI_22, sJ_21, sJ_1]
    · simp only [f_X12_rule, hx, Option.bind_some, Option.elim_some, Option.elim_none, wi, x12_in, b3_z, ckb, ck0, ck1, putI, putR, putJ, not_true_eq_false, not_false_eq_true, if_true, if_false, and_self, and_true, true_and, one_ne0, zero_eq0, ite_self, sI_eq, sI_ne, sI_nk, sI_21, sI_22, sJ_21, sJ_1]
theorem op_tell (h : INVP nb nm nl nB nN td nt nw lw w L σ) (x : Int32) : OPs L (f_X11_tell L σ 0 x) (fun σ1 => f_X12_tell L σ1 37 x) := by
  have hN := h.hN
  obtain ⟨hS, hR, ⟨⟨hnb, hnm, hnl, hnB, hnN, htd, hnt, hnw⟩, ⟨eb, eb'⟩, ⟨em, em'⟩, ⟨el, el'⟩, ⟨eB, eB'⟩, ⟨eN, eN'⟩, ⟨et, et'⟩, ⟨ep, ep'⟩, ew, ew'⟩, hBR, hME, hLI, hBA, hTA, hNO, hHA, hRU, hWA, hSH, hLA⟩ := id h
  by_cases hb : nw < 30
  · refine ops_of (v := nI (nw + 1)) (σ1 := sI (sI σ 31 nw x) 28 3 (nI (nw + 1))) (σ2 := sI (sI (sI (sI σ 31 nw x) 28 3 (nI (nw + 1))) 67 nw x) 37 39 (nI (nw + 1))) ?_ ?_ ?_
    · simp (disch := omega) only [f_X11_tell, hR.r0_12, hR.r28_2, ew, nlt_l, hb, wI_nI hS.l31, nI_1, Option.bind_some, Option.elim_some, Option.elim_none, wi, x12_in, b3_z, ckb, ck0, ck1, putI, putR, putJ, not_true_eq_false, not_false_eq_true, if_true, if_false, and_self, and_true, true_and, one_ne0, zero_eq0, ite_self, sI_eq, sI_ne, sI_nk, sI_21, sI_22, sJ_21, sJ_1]
    · simp (disch := omega) only [f_X12_tell, hR.r37_40, ew', neq_l, show ¬ nw = 30 by omega, wI_nI hS.l67, nI_1, Option.bind_some, Option.elim_some, Option.elim_none, wi, x12_in, b3_z, ckb, ck0, ck1, putI, putR, putJ, not_true_eq_false, not_false_eq_true, if_true, if_false, and_self, and_true, true_and, one_ne0, zero_eq0, ite_self, sI_eq, sI_ne, sI_nk, sI_21, sI_22, sJ_21, sJ_1]
    · refine ⟨nb, nm, nl, nB, nN, td, nt, nw + 1, lw, w, hS, hR, ⟨⟨by omega, by omega, by omega, by omega, by omega, by omega, by omega, by omega⟩, ⟨by simp (disch := omega) only [sI_eq, sI_ne, sI_nk, sI_21, eb, eb', em, em', el, el', eB, eB', eN, eN', et, et', ep, ep', ew, ew'], by simp (disch := omega) only [sI_eq, sI_ne, sI_nk, sI_21, eb, eb', em, em', el, el', eB, eB', eN, eN', et, et', ep, ep', ew, ew']⟩, ⟨by simp (disch := omega) only [sI_eq, sI_ne, sI_nk, sI_21, eb, eb', em, em', el, el', eB, eB', eN, eN', et, et', ep, ep', ew, ew'], by simp (disch := omega) only [sI_eq, sI_ne, sI_nk, sI_21, eb, eb', em, em', el, el', eB, eB', eN, eN', et, et', ep, ep', ew, ew']⟩, ⟨by simp (disch := omega) only [sI_eq, sI_ne, sI_nk, sI_21, eb, eb', em, em', el, el', eB, eB', eN, eN', et, et', ep, ep', ew, ew'], by simp (disch := omega) only [sI_eq, sI_ne, sI_nk, sI_21, eb, eb', em, em', el, el', eB, eB', eN, eN', et, et', ep, ep', ew, ew']⟩, ⟨by simp (disch := omega) only [sI_eq, sI_ne, sI_nk, sI_21, eb, eb', em, em', el, el', eB, eB', eN, eN', et, et', ep, ep', ew, ew'], by simp (disch := omega) only [sI_eq, sI_ne, sI_nk, sI_21, eb, eb', em, em', el, el', eB, eB', eN, eN', et, et', ep, ep', ew, ew']⟩, ⟨by simp (disch := omega) only [sI_eq, sI_ne, sI_nk, sI_21, eb, eb', em, em', el, el', eB, eB', eN, eN', et, et', ep, ep', ew, ew'], by simp (disch := omega) only [sI_eq, sI_ne, sI_nk, sI_21, eb, eb', em, em', el, el', eB, eB', eN, eN', et, et', ep, ep', ew, ew']⟩, ⟨by simp (disch := omega) only [sI_eq, sI_ne, sI_nk, sI_21, eb, eb', em, em', el, el', eB, eB', eN, eN', et, et', ep, ep', ew, ew'], by simp (disch := omega) only [sI_eq, sI_ne, sI_nk, sI_21, eb, eb', em, em', el, el', eB, eB', eN, eN', et, et', ep, ep', ew, ew']⟩, ⟨by simp (disch := omega) only [sI_eq, sI_ne, sI_nk, sI_21, eb, eb', em, em', el, el', eB, eB', eN, eN', et, et', ep, ep', ew, ew'], by simp (disch := omega) only [sI_eq, sI_ne, sI_nk, sI_21, eb, eb', em, em', el, el', eB, eB', eN, eN', et, et', ep, ep', ew, ew']⟩, by simp (disch := omega) only [sI_eq, sI_ne, sI_nk, sI_21, eb, eb', em, em', el, el', eB, eB', eN, eN', et, et', ep, ep', ew, ew'], by simp (disch := omega) only [sI_eq, sI_ne, sI_nk, sI_21, eb, eb', em, em', el, el', eB, eB', eN, eN', et, et', ep, ep', ew, ew']⟩, hBR.fr (((((AG.rf _ _).wr rfl).wr rfl).wr rfl).wr rfl), hME.f (by omega) (by omega) (fun i _ => (((((AG.rf _ _).wr rfl).wr rfl).wr rfl).wr rfl)) rfl, hLI.fr (((((AG.rf _ _).wr rfl).wr rfl).wr rfl).wr rfl), hBA.f hnm (by omega) (by omega) (fun j _ => (((((AG.rf _ _).wr rfl).wr rfl).wr rfl).wr rfl)) rfl, hTA.fr (((((AG.rf _ _).wr rfl).wr rfl).wr rfl).wr rfl), hNO.f (by omega) (by omega) (fun j _ => (((((AG.rf _ _).wr rfl).wr rfl).wr rfl).wr rfl)) rfl, hHA.fr (((((AG.rf _ _).wr rfl).wr rfl).wr rfl).wr rfl), hRU.fr (((((AG.rf _ _).wr rfl).wr rfl).wr rfl).wr rfl), ?_, hSH.fr (((((AG.rf _ _).wr rfl).wr rfl).wr rfl).wr rfl), hLA.fr hR.lw (((((AG.rf _ _).wr rfl).wr rfl).wr rfl).wr rfl)⟩
      intro k hk
      by_cases q : k = nw
      · subst q
        simp (disch := omega) only [sI_eq, sI_ne]
      · simp (disch := omega) only [sI_nk, sI_ne]
        exact hWA k (by omega)
  · refine ops_of (v := -1000000003) (σ1 := σ) (σ2 := σ) ?_ ?_ h.iv
    · simp (disch := omega) only [f_X11_tell, hR.r0_12, ew, nlt_l, hb, Option.bind_some, Option.elim_some, Option.elim_none, wi, x12_in, b3_z, ckb, ck0, ck1, putI, putR, putJ, not_true_eq_false, not_false_eq_true, if_true, if_false, and_self, and_true, true_and, one_ne0, zero_eq0, ite_self, sI_eq, sI_ne, sI_nk, sI_21, sI_22, sJ_21, sJ_1]
    · simp (disch := omega) only [f_X12_tell, ew', neq_l, show nw = 30 by omega, Option.bind_some, Option.elim_some, Option.elim_none, wi, x12_in, b3_z, ckb, ck0, ck1, putI, putR, putJ, not_true_eq_false, not_false_eq_true, if_true, if_false, and_self, and_true, true_and, one_ne0, zero_eq0, ite_self, sI_eq, sI_ne, sI_nk, sI_21, sI_22, sJ_21, sJ_1]
theorem op_trim (h : INVP nb nm nl nB nN td nt nw lw w L σ) (x : Int32) : OPs L (f_X11_trim L σ 0 x) (fun σ1 => f_X12_trim L σ1 37 x) := by
  have hN := h.hN
  obtain ⟨hS, hR, ⟨⟨hnb, hnm, hnl, hnB, hnN, htd, hnt, hnw⟩, ⟨eb, eb'⟩, ⟨em, em'⟩, ⟨el, el'⟩, ⟨eB, eB'⟩, ⟨eN, eN'⟩, ⟨et, et'⟩, ⟨ep, ep'⟩, ew, ew'⟩, hBR, hME, hLI, hBA, hTA, hNO, hHA, hRU, hWA, hSH, hLA⟩ := id h
  by_cases hx : 0 ≤ x ∧ x ≤ nI nt
  · have hx0 := hx
    obtain ⟨n, h1, rfl⟩ := of_le hx (by omega)
    refine ops_of (v := nI n) (σ1 := sI σ 15 1 (nI n)) (σ2 := sI (sI σ 15 1 (nI n)) 37 25 (nI n)) ?_ ?_ ?_
    · simp (disch := omega) only [f_X11_trim, hR.r0_5, ep, hx0, Option.bind_some, Option.elim_some, Option.elim_none, wi, x12_in, b3_z, ckb, ck0, ck1, putI, putR, putJ, not_true_eq_false, not_false_eq_true, if_true, if_false, and_self, and_true, true_and, one_ne0, zero_eq0, ite_self, sI_eq, sI_ne, sI_nk, sI_21, sI_22, sJ_21, sJ_1]
    · simp (disch := omega) only [f_X12_trim, ep', hx0, Option.bind_some, Option.elim_some, Option.elim_none, wi, x12_in, b3_z, ckb, ck0, ck1, putI, putR, putJ, not_true_eq_false, not_false_eq_true, if_true, if_false, and_self, and_true, true_and, one_ne0, zero_eq0, ite_self, sI_eq, sI_ne, sI_nk, sI_21, sI_22, sJ_21, sJ_1]
    · refine ⟨nb, nm, nl, nB, nN, td, n, nw, lw, w, hS, hR, ⟨⟨by omega, by omega, by omega, by omega, by omega, by omega, by omega, by omega⟩, ⟨by simp (disch := omega) only [sI_eq, sI_ne, sI_nk, sI_21, eb, eb', em, em', el, el', eB, eB', eN, eN', et, et', ep, ep', ew, ew'], by simp (disch := omega) only [sI_eq, sI_ne, sI_nk, sI_21, eb, eb', em, em', el, el', eB, eB', eN, eN', et, et', ep, ep', ew, ew']⟩, ⟨by simp (disch := omega) only [sI_eq, sI_ne, sI_nk, sI_21, eb, eb', em, em', el, el', eB, eB', eN, eN', et, et', ep, ep', ew, ew'], by simp (disch := omega) only [sI_eq, sI_ne, sI_nk, sI_21, eb, eb', em, em', el, el', eB, eB', eN, eN', et, et', ep, ep', ew, ew']⟩, ⟨by simp (disch := omega) only [sI_eq, sI_ne, sI_nk, sI_21, eb, eb', em, em', el, el', eB, eB', eN, eN', et, et', ep, ep', ew, ew'], by simp (disch := omega) only [sI_eq, sI_ne, sI_nk, sI_21, eb, eb', em, em', el, el', eB, eB', eN, eN', et, et', ep, ep', ew, ew']⟩, ⟨by simp (disch := omega) only [sI_eq, sI_ne, sI_nk, sI_21, eb, eb', em, em', el, el', eB, eB', eN, eN', et, et', ep, ep', ew, ew'], by simp (disch := omega) only [sI_eq, sI_ne, sI_nk, sI_21, eb, eb', em, em', el, el', eB, eB', eN, eN', et, et', ep, ep', ew, ew']⟩, ⟨by simp (disch := omega) only [sI_eq, sI_ne, sI_nk, sI_21, eb, eb', em, em', el, el', eB, eB', eN, eN', et, et', ep, ep', ew, ew'], by simp (disch := omega) only [sI_eq, sI_ne, sI_nk, sI_21, eb, eb', em, em', el, el', eB, eB', eN, eN', et, et', ep, ep', ew, ew']⟩, ⟨by simp (disch := omega) only [sI_eq, sI_ne, sI_nk, sI_21, eb, eb', em, em', el, el', eB, eB', eN, eN', et, et', ep, ep', ew, ew'], by simp (disch := omega) only [sI_eq, sI_ne, sI_nk, sI_21, eb, eb', em, em', el, el', eB, eB', eN, eN', et, et', ep, ep', ew, ew']⟩, ⟨by simp (disch := omega) only [sI_eq, sI_ne, sI_nk, sI_21, eb, eb', em, em', el, el', eB, eB', eN, eN', et, et', ep, ep', ew, ew'], by simp (disch := omega) only [sI_eq, sI_ne, sI_nk, sI_21, eb, eb', em, em', el, el', eB, eB', eN, eN', et, et', ep, ep', ew, ew']⟩, by simp (disch := omega) only [sI_eq, sI_ne, sI_nk, sI_21, eb, eb', em, em', el, el', eB, eB', eN, eN', et, et', ep, ep', ew, ew'], by simp (disch := omega) only [sI_eq, sI_ne, sI_nk, sI_21, eb, eb', em, em', el, el', eB, eB', eN, eN', et, et', ep, ep', ew, ew']⟩, hBR.fr (((AG.rf _ _).wr rfl).wr rfl), hME.f (by omega) (by omega) (fun i _ => (((AG.rf _ _).wr rfl).wr rfl)) rfl, hLI.fr (((AG.rf _ _).wr rfl).wr rfl), hBA.f hnm (by omega) (by omega) (fun j _ => (((AG.rf _ _).wr rfl).wr rfl)) rfl, ?_, hNO.f (by omega) (by omega) (fun j _ => (((AG.rf _ _).wr rfl).wr rfl)) rfl, hHA.fr (((AG.rf _ _).wr rfl).wr rfl), hRU.fr (((AG.rf _ _).wr rfl).wr rfl), hWA.fr (((AG.rf _ _).wr rfl).wr rfl), hSH.fr (((AG.rf _ _).wr rfl).wr rfl), hLA.fr hR.lw (((AG.rf _ _).wr rfl).wr rfl)⟩
      intro k hk
      simp (disch := omega) only [sI_ne]
      exact hTA k (by omega)
  · refine ops_of (v := -1000000001) (σ1 := σ) (σ2 := σ) ?_ ?_ h.iv
    · simp only [f_X11_trim, hR.r0_5, ep, hx, Option.bind_some, Option.elim_some, Option.elim_none, wi, x12_in, b3_z, ckb, ck0, ck1, putI, putR, putJ, not_true_eq_false, not_false_eq_true, if_true, if_false, and_self, and_true, true_and, one_ne0, zero_eq0, ite_self, sI_eq, sI_ne, sI_nk, sI_21, sI_22, sJ_21, sJ_1]
    · simp only [f_X12_trim, ep', hx, Option.bind_some, Option.elim_some, Option.elim_none, wi, x12_in, b3_z, ckb, ck0, ck1, putI, putR, putJ, not_true_eq_false, not_false_eq_true, if_true, if_false, and_self, and_true, true_and, one_ne0, zero_eq0, ite_self, sI_eq, sI_ne, sI_nk, sI_21, sI_22, sJ_21, sJ_1]
theorem op_about (h : INVP nb nm nl nB nN td nt nw lw w L σ) (x y : Int32) : OPr (f_X11_about L σ 0 x y) (f_X12_about L σ 37 x y) := by
  obtain ⟨hS, hR, ⟨⟨hnb, hnm, hnl, hnB, hnN, htd, hnt, hnw⟩, ⟨eb, eb'⟩, ⟨em, em'⟩, ⟨el, el'⟩, ⟨eB, eB'⟩, ⟨eN, eN'⟩, ⟨et, et'⟩, ⟨ep, ep'⟩, ew, ew'⟩, hBR, hME, hLI, hBA, hTA, hNO, hHA, hRU, hWA, hSH, hLA⟩ := id h
  rcases ixc x nB (by omega) with hx | ⟨j, hj, rfl⟩
  · refine ⟨-1000000001, ?_, ?_⟩
    · simp only [f_X11_about, bAt_out eB hnB hx, Option.bind_some, Option.elim_some, Option.elim_none, wi, x12_in, b3_z, ckb, ck0, ck1, putI, putR, putJ, not_true_eq_false, not_false_eq_true, if_true, if_false, and_self, and_true, true_and, one_ne0, zero_eq0, ite_self, sI_eq, sI_ne, sI_nk, sI_21, sI_22, sJ_21, sJ_1]
    · simp only [f_X12_about, isBa_out eB' hnB hx, Option.bind_some, Option.elim_some, Option.elim_none, wi, x12_in, b3_z, ckb, ck0, ck1, putI, putR, putJ, not_true_eq_false, not_false_eq_true, if_true, if_false, and_self, and_true, true_and, one_ne0, zero_eq0, ite_self, sI_eq, sI_ne, sI_nk, sI_21, sI_22, sJ_21, sJ_1]
  · obtain ⟨r, o, hb⟩ := hBA j hj
    obtain ⟨⟨m1, -⟩, -, -, ⟨m14, -, m17, m18, -⟩, m20, -⟩ := hb
    unfold OPr
    simp (disch := omega) only [f_X11_about, f_X12_about, f_X11_dayOrNone, hR.r37_17, hR.r37_18, hR.r37_19, rI_nI hS.l49, rI_nI hS.l50, rI_nI hS.l51, bAt_in hS hR eB hnB hj, isBa_in eB' hnB hj, m1, m14, m17, m18, Option.bind_some, Option.elim_some, Option.elim_none, wi, x12_in, b3_z, ckb, ck0, ck1, putI, putR, putJ, not_true_eq_false, not_false_eq_true, if_true, if_false, and_self, and_true, true_and, one_ne0, zero_eq0, ite_self, sI_eq, sI_ne, sI_nk, sI_21, sI_22, sJ_21, sJ_1]
    by_cases h0 : y = 0
    · exact ⟨_, if_pos h0, if_pos h0⟩
    · rw [if_neg h0, if_neg h0]
      by_cases h1 : y = 1
      · exact ⟨_, if_pos h1, if_pos h1⟩
      · rw [if_neg h1, if_neg h1]
        by_cases h4 : y = 2
        · rw [if_pos h4, if_pos h4]
          rcases m20 with ⟨q1, q2⟩ | ⟨d, q0, q0', q1, q2⟩
          · rw [q1, q2]
            exact ⟨_, rfl, rfl⟩
          · rw [q1, q2, show (401 : Int32) = nI 401 from rfl, if_neg (fun e => by have := (nI_eq (by omega) (by omega)).mp e; omega), if_neg (nI_nneg (by omega) (by decide))]
            exact ⟨_, rfl, rfl⟩
        · exact ⟨_, if_neg h4, if_neg h4⟩
theorem op_noticed (h : INVP nb nm nl nB nN td nt nw lw w L σ) (x y : Int32) : OPr (f_X11_noticed L σ 0 x y) (f_X12_noticed L σ 37 x y) := by
  obtain ⟨hS, hR, ⟨⟨hnb, hnm, hnl, hnB, hnN, htd, hnt, hnw⟩, ⟨eb, eb'⟩, ⟨em, em'⟩, ⟨el, el'⟩, ⟨eB, eB'⟩, ⟨eN, eN'⟩, ⟨et, et'⟩, ⟨ep, ep'⟩, ew, ew'⟩, hBR, hME, hLI, hBA, hTA, hNO, hHA, hRU, hWA, hSH, hLA⟩ := id h
  rcases ixc x nN (by omega) with hx | ⟨j, hj, rfl⟩
  · refine ⟨-1000000001, ?_, ?_⟩
    · simp only [f_X11_noticed, nAt_out eN hnN hx, Option.bind_some, Option.elim_some, Option.elim_none, wi, x12_in, b3_z, ckb, ck0, ck1, putI, putR, putJ, not_true_eq_false, not_false_eq_true, if_true, if_false, and_self, and_true, true_and, one_ne0, zero_eq0, ite_self, sI_eq, sI_ne, sI_nk, sI_21, sI_22, sJ_21, sJ_1]
    · simp only [f_X12_noticed, eN', x12_in, wi_out L σ hx (show nN < 2 ^ 30 by omega), Option.bind_some, if_true]
  · obtain ⟨r, b, g, f, ⟨m1, -⟩, -, ⟨m8, m9⟩, ⟨m10, m11⟩, ⟨m12, m13⟩, m14, m15⟩ := hNO j hj
    unfold OPr
    simp (disch := omega) only [f_X11_noticed, f_X12_noticed, hR.r37_30, hR.r37_31, hR.r37_32, hR.r37_33, hR.r37_34, rI_nI hS.l58, rI_nI hS.l59, rI_nI hS.l60, rI_nI hS.l61, rI_nI hS.l62, nAt_in hS hR eN hnN hj, eN', x12_in, wi_in L σ hj (show nN < 2 ^ 30 by omega), Option.bind_some, Option.elim_some, one_ne0, if_false, m1, m8, m9, m10, m11, m12, m13, m14, m15]
    refine opr_self ?_
    (repeat' split) <;> exact ⟨_, rfl⟩
theorem x2_dayWage (a : Nat) : f_X2_dayWage L σ a = some (σ.1 a 1 * σ.1 a 2 / 5) := by
  simp only [f_X2_dayWage, dv5, Option.bind_some]
theorem x12_dayWage (hS : SF L) (hR : RF lw σ.2.1) {i : Nat} (hi : i < 40) : f_X12_dayWage L σ 37 (nI i) = some (σ.1 40 i * σ.1 41 i / 5) := by
  simp (disch := omega) only [f_X12_dayWage, hR.r37_6, hR.r37_7, rI_nI hS.l40, rI_nI hS.l41, dv5, Option.bind_some]
theorem op_docked (h : INVP nb nm nl nB nN td nt nw lw w L σ) (x y : Int32) : OPr (f_X11_docked L σ 0 x y) (f_X12_docked L σ 37 x y) := by
  obtain ⟨hS, hR, ⟨⟨hnb, hnm, hnl, hnB, hnN, htd, hnt, hnw⟩, ⟨eb, eb'⟩, ⟨em, em'⟩, ⟨el, el'⟩, ⟨eB, eB'⟩, ⟨eN, eN'⟩, ⟨et, et'⟩, ⟨ep, ep'⟩, ew, ew'⟩, hBR, hME, hLI, hBA, hTA, hNO, hHA, hRU, hWA, hSH, hLA⟩ := id h
  rcases ixc x nm (by omega) with hx | ⟨i, hi, rfl⟩
  · refine ⟨-1000000001, ?_, ?_⟩
    · simp only [f_X11_docked, hR.r0_0, mAt_out em hnm hx, Option.bind_some, Option.elim_some, Option.elim_none, wi, x12_in, b3_z, ckb, ck0, ck1, putI, putR, putJ, not_true_eq_false, not_false_eq_true, if_true, if_false, and_self, and_true, true_and, one_ne0, zero_eq0, ite_self, sI_eq, sI_ne, sI_nk, sI_21, sI_22, sJ_21, sJ_1]
    · simp only [f_X12_docked, isM_out em' hnm hx, Option.bind_some, Option.elim_some, Option.elim_none, wi, x12_in, b3_z, ckb, ck0, ck1, putI, putR, putJ, not_true_eq_false, not_false_eq_true, if_true, if_false, and_self, and_true, true_and, one_ne0, zero_eq0, ite_self, sI_eq, sI_ne, sI_nk, sI_21, sI_22, sJ_21, sJ_1]
  · obtain ⟨r, mv, c, hm⟩ := hME i hi
    obtain ⟨⟨m1, m2, m3, m4, m5⟩, ⟨m6, m7, m8, m9⟩, ⟨m10, m11, m12, m13, m14, m15⟩, m16, -⟩ := hm
    by_cases hy : 0 ≤ y ∧ y ≤ 600
    · have e1 := x2_dayWage (L := L) (σ := σ) (r + 80)
      have e2 := x12_dayWage hS hR (show i < 40 by omega)
      rw [m11, m12] at e1
      obtain ⟨u, hu⟩ : ∃ u, u = σ.1 40 i * σ.1 41 i / 5 := ⟨_, rfl⟩
      rw [← hu] at e1 e2
      obtain ⟨z, hz⟩ : ∃ z, dv (σ.1 41 i * y) 60 = some z := ⟨_, dv60 _⟩
      refine ⟨if 0 < u - z then u - z else 0, ?_, ?_⟩
      · simp (disch := omega) only [f_X11_docked, e1, hR.r0_0, mAt_in hS hR em hnm hi, m1, m12, hy, hz, Option.bind_some, Option.elim_some, Option.elim_none, wi, x12_in, b3_z, ckb, ck0, ck1, putI, putR, putJ, not_true_eq_false, not_false_eq_true, if_true, if_false, and_self, and_true, true_and, one_ne0, zero_eq0, ite_self, sI_eq, sI_ne, sI_nk, sI_21, sI_22, sJ_21, sJ_1]
      · unfold f_X12_docked
        rw [isM_in em' hnm hi, Option.bind_some, if_neg (by decide), x12_in, wi, b3_t hy, Option.bind_some, if_neg (by decide), e2, Option.bind_some, hR.r37_7, Option.bind_some, rI_nI hS.l41 (show i < 40 by omega) (by omega), Option.bind_some, hz, Option.bind_some]
        exact max0s (u - z)
    · refine ⟨-1000000001, ?_, ?_⟩
      · simp only [f_X11_docked, hR.r0_0, mAt_in hS hR em hnm hi, m1, hy, Option.bind_some, Option.elim_some, Option.elim_none, wi, x12_in, b3_z, ckb, ck0, ck1, putI, putR, putJ, not_true_eq_false, not_false_eq_true, if_true, if_false, and_self, and_true, true_and, one_ne0, zero_eq0, ite_self, sI_eq, sI_ne, sI_nk, sI_21, sI_22, sJ_21, sJ_1]
      · simp only [f_X12_docked, isM_in em' hnm hi, hy, Option.bind_some, Option.elim_some, Option.elim_none, wi, x12_in, b3_z, ckb, ck0, ck1, putI, putR, putJ, not_true_eq_false, not_false_eq_true, if_true, if_false, and_self, and_true, true_and, one_ne0, zero_eq0, ite_self, sI_eq, sI_ne, sI_nk, sI_21, sI_22, sJ_21, sJ_1]
end
