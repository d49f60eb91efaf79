/-! What calls read first -/
theorem one_ne0 : ((1 : Int32) = 0) = False := eq_false (by decide)
theorem zero_eq0 : ((0 : Int32) = 0) = True := eq_true rfl
theorem of_le {y : Int32} {n : Nat} (h : 0 ≤ y ∧ y ≤ nI n) (hn : n < 2 ^ 30) : ∃ d, d ≤ n ∧ y = nI d := by
  rcases ixc y (n + 1) (by omega) with (q | q) | ⟨j, q, e⟩
  · exact absurd h.1 (Int32.not_le.mpr q)
  · exact absurd (Int32.le_trans q h.2) (nI_ge (by omega) (by omega))
  · exact ⟨j, by omega, e⟩
def OPr (x y : Option Int32) : Prop := ∃ v, x = some v ∧ y = some v
def OPs (L : Lay) (x : Option (Int32 × Sto)) (y : Sto → Option (Int32 × Sto)) : Prop := ∃ v σ1 σ2, x = some (v, σ1) ∧ y σ1 = some (v, σ2) ∧ IV L σ2
def OPa (L : Lay) (x : Option (Int32 × Lay × Sto)) (y : Lay → Sto → Option (Int32 × Sto)) : Prop := ∃ v L1 σ1 σ2, x = some (v, L1, σ1) ∧ y L1 σ1 = some (v, σ2) ∧ IV L1 σ2 ∧ L1.2.2.1 ≤ L.2.2.1 + 4 ∧ L1.2.2.2 ≤ L.2.2.2 + 128
theorem ops_of {L : Lay} {x : Option (Int32 × Sto)} {y : Sto → Option (Int32 × Sto)} {v : Int32} {σ1 σ2 : Sto} (h1 : x = some (v, σ1)) (h2 : y σ1 = some (v, σ2)) (h3 : IV L σ2) : OPs L x y := ⟨v, σ1, σ2, h1, h2, h3⟩
theorem opa_of {L : Lay} {x : Option (Int32 × Lay × Sto)} {y : Lay → Sto → Option (Int32 × Sto)} {v : Int32} {σ : Sto} (h1 : x = some (v, L, σ)) (h2 : y L σ = some (v, σ)) (h3 : IV L σ) : OPa L x y := ⟨v, L, σ, σ, h1, h2, h3, by omega, by omega⟩
theorem INVP.iv {nb nm nl nB nN td nt nw lw : Nat} {w : Nat → Nat} {L : Lay} {σ : Sto} (h : INVP nb nm nl nB nN td nt nw lw w L σ) : IV L σ := ⟨nb, nm, nl, nB, nN, td, nt, nw, lw, w, h⟩
section
variable {L : Lay} {σ : Sto} {lw : Nat}
theorem mAt_in (hS : SF L) (hR : RF lw σ.2.1) {nm i : Nat} (em : σ.1 1 3 = nI nm) (hnm : nm ≤ 40) (hi : i < nm) : f_X10_memberAt L σ 1 (nI i) = some (σ.2.1 3 i) := by
  unfold f_X10_memberAt
  rw [em, wi_in L σ hi (by omega)]
  simp (disch := omega) only [Option.bind_some, one_ne0, if_false, hR.r1_2, rR_nI hS.l3]
theorem mAt_out {nm : Nat} {x : Int32} (em : σ.1 1 3 = nI nm) (hnm : nm ≤ 40) (hx : x < 0 ∨ nI nm ≤ x) : f_X10_memberAt L σ 1 x = some none := by
  unfold f_X10_memberAt
  rw [em, wi_out L σ hx (by omega)]
  rfl
theorem bAt_in (hS : SF L) (hR : RF lw σ.2.1) {nB j : Nat} (eB : σ.1 0 3 = nI nB) (hnB : nB ≤ 12) (hj : j < nB) : f_X11_ballotAt L σ 0 (nI j) = some (σ.2.1 9 j) := by
  unfold f_X11_ballotAt
  rw [eB, wi_in L σ hj (by omega)]
  simp (disch := omega) only [Option.bind_some, one_ne0, if_false, hR.r0_2, rR_nI hS.l9]
theorem bAt_out {nB : Nat} {x : Int32} (eB : σ.1 0 3 = nI nB) (hnB : nB ≤ 12) (hx : x < 0 ∨ nI nB ≤ x) : f_X11_ballotAt L σ 0 x = some none := by
  unfold f_X11_ballotAt
  rw [eB, wi_out L σ hx (by omega)]
  rfl
theorem nAt_in (hS : SF L) (hR : RF lw σ.2.1) {nN j : Nat} (eN : σ.1 0 11 = nI nN) (hnN : nN ≤ 12) (hj : j < nN) : f_X11_noticeAt L σ 0 (nI j) = some (σ.2.1 27 j) := by
  unfold f_X11_noticeAt
  rw [eN, wi_in L σ hj (by omega)]
  simp (disch := omega) only [Option.bind_some, one_ne0, if_false, hR.r0_10, rR_nI hS.l27]
theorem nAt_out {nN : Nat} {x : Int32} (eN : σ.1 0 11 = nI nN) (hnN : nN ≤ 12) (hx : x < 0 ∨ nI nN ≤ x) : f_X11_noticeAt L σ 0 x = some none := by
  unfold f_X11_noticeAt
  rw [eN, wi_out L σ hx (by omega)]
  rfl
theorem hB_in {nb i : Nat} (eb : σ.1 1 1 = nI nb) (hnb : nb ≤ 6) (hi : i < nb) : f_X10_hasBranch L σ 1 (nI i) = some 1 := by
  unfold f_X10_hasBranch
  rw [eb, wi_in L σ hi (by omega)]
  rfl
theorem hB_out {nb : Nat} {x : Int32} (eb : σ.1 1 1 = nI nb) (hnb : nb ≤ 6) (hx : x < 0 ∨ nI nb ≤ x) : f_X10_hasBranch L σ 1 x = some 0 := by
  unfold f_X10_hasBranch
  rw [eb, wi_out L σ hx (by omega)]
  rfl
theorem isM_in {nm i : Nat} (em' : σ.1 37 4 = nI nm) (hnm : nm ≤ 40) (hi : i < nm) : f_X12_isMember L σ 37 (nI i) = some 1 := by
  unfold f_X12_isMember
  rw [em', x12_in, wi_in L σ hi (by omega)]
  rfl
theorem isM_out {nm : Nat} {x : Int32} (em' : σ.1 37 4 = nI nm) (hnm : nm ≤ 40) (hx : x < 0 ∨ nI nm ≤ x) : f_X12_isMember L σ 37 x = some 0 := by
  unfold f_X12_isMember
  rw [em', x12_in, wi_out L σ hx (by omega)]
  rfl
theorem isBr_in {nb i : Nat} (eb' : σ.1 37 2 = nI nb) (hnb : nb ≤ 6) (hi : i < nb) : f_X12_isBranch L σ 37 (nI i) = some 1 := by
  unfold f_X12_isBranch
  rw [eb', x12_in, wi_in L σ hi (by omega)]
  rfl
theorem isBr_out {nb : Nat} {x : Int32} (eb' : σ.1 37 2 = nI nb) (hnb : nb ≤ 6) (hx : x < 0 ∨ nI nb ≤ x) : f_X12_isBranch L σ 37 x = some 0 := by
  unfold f_X12_isBranch
  rw [eb', x12_in, wi_out L σ hx (by omega)]
  rfl
theorem isBa_in {nB j : Nat} (eB' : σ.1 37 16 = nI nB) (hnB : nB ≤ 12) (hi : j < nB) : f_X12_isBallot L σ 37 (nI j) = some 1 := by
  unfold f_X12_isBallot
  rw [eB', x12_in, wi_in L σ hi (by omega)]
  rfl
theorem isBa_out {nB : Nat} {x : Int32} (eB' : σ.1 37 16 = nI nB) (hnB : nB ≤ 12) (hx : x < 0 ∨ nI nB ≤ x) : f_X12_isBallot L σ 37 x = some 0 := by
  unfold f_X12_isBallot
  rw [eB', x12_in, wi_out L σ hx (by omega)]
  rfl
end
section
variable {nb nm nl nB nN td nt nw lw : Nat} {w : Nat → Nat} {L : Lay} {σ : Sto}
theorem INVP.hN (h : INVP nb nm nl nB nN td nt nw lw w L σ) : NUM nb nm nl nB nN td nt nw σ := h.2.2.1
theorem op_of (h : INVP nb nm nl nB nN td nt nw lw w L σ) (x y : Int32) : OPr (f_X11_of L σ 0 x y) (f_X12_of L σ 37 x y) := by
  obtain ⟨hS, hR, ⟨⟨hnb, hnm, hnl, hnB, hnN, htd, hnt, hnw⟩, ⟨eb, eb'⟩, ⟨em, em'⟩, ⟨el, el'⟩, ⟨eB, eB'⟩, ⟨eN, eN'⟩, ⟨et, et'⟩, ⟨ep, ep'⟩, ew, ew'⟩, hBR, hME, hLI, hBA, hTA, hNO, hHA, hRU, hWA, hSH, hLA⟩ := id h
  rcases ixc x nm (by omega) with hx | ⟨i, hi, rfl⟩
  · refine ⟨-1000000001, ?_, ?_⟩
    · simp only [f_X11_of, hR.r0_0, mAt_out em hnm hx, Option.bind_some, Option.elim_some, Option.elim_none, wi, x12_in, b3_z, ckb, ck0, ck1, putI, putR, putJ, not_true_eq_false, not_false_eq_true, if_true, if_false, and_self, and_true, true_and, one_ne0, zero_eq0, ite_self, sI_eq, sI_ne, sI_nk, sI_21, sI_22, sJ_21, sJ_1]
    · simp only [f_X12_of, isM_out em' hnm hx, Option.bind_some, Option.elim_some, Option.elim_none, wi, x12_in, b3_z, ckb, ck0, ck1, putI, putR, putJ, not_true_eq_false, not_false_eq_true, if_true, if_false, and_self, and_true, true_and, one_ne0, zero_eq0, ite_self, sI_eq, sI_ne, sI_nk, sI_21, sI_22, sJ_21, sJ_1]
  · obtain ⟨r, mv, c, hm⟩ := hME i hi
    by_cases hy : 0 ≤ y ∧ y ≤ nI td
    · obtain ⟨d, hd, rfl⟩ := of_le hy (by omega)
      refine ⟨ofS σ i (nI d), ?_, ?_⟩
      · simp only [f_X11_of, hR.r0_0, mAt_in hS hR em hnm hi, hm.1.1, et, hy, x2_branchOn hm htd (show d ≤ 400 by omega), Option.bind_some, Option.elim_some, Option.elim_none, wi, x12_in, b3_z, ckb, ck0, ck1, putI, putR, putJ, not_true_eq_false, not_false_eq_true, if_true, if_false, and_self, and_true, true_and, one_ne0, zero_eq0, ite_self, sI_eq, sI_ne, sI_nk, sI_21, sI_22, sJ_21, sJ_1]
      · simp only [f_X12_of, isM_in em' hnm hi, et', hy, x12_ofOn hS hR (show i < 40 by omega) hm.2.2.2.2.1.2.2.1 (show mv + 1 ≤ 7 by have := hm.2.2.2.2.1.1; omega), Option.bind_some, Option.elim_some, Option.elim_none, wi, x12_in, b3_z, ckb, ck0, ck1, putI, putR, putJ, not_true_eq_false, not_false_eq_true, if_true, if_false, and_self, and_true, true_and, one_ne0, zero_eq0, ite_self, sI_eq, sI_ne, sI_nk, sI_21, sI_22, sJ_21, sJ_1]
    · refine ⟨-1000000001, ?_, ?_⟩
      · simp only [f_X11_of, hR.r0_0, mAt_in hS hR em hnm hi, hm.1.1, et, hy, Option.bind_some, Option.elim_some, Option.elim_none, wi, x12_in, b3_z, ckb, ck0, ck1, putI, putR, putJ, not_true_eq_false, not_false_eq_true, if_true, if_false, and_self, and_true, true_and, one_ne0, zero_eq0, ite_self, sI_eq, sI_ne, sI_nk, sI_21, sI_22, sJ_21, sJ_1]
      · simp only [f_X12_of, isM_in em' hnm hi, et', hy, Option.bind_some, Option.elim_some, Option.elim_none, wi, x12_in, b3_z, ckb, ck0, ck1, putI, putR, putJ, not_true_eq_false, not_false_eq_true, if_true, if_false, and_self, and_true, true_and, one_ne0, zero_eq0, ite_self, sI_eq, sI_ne, sI_nk, sI_21, sI_22, sJ_21, sJ_1]
theorem op_told (h : INVP nb nm nl nB nN td nt nw lw w L σ) (x y : Int32) : OPr (f_X11_told L σ 0 x y) (f_X12_told L σ 37 x y) := by
  obtain ⟨hS, hR, ⟨⟨hnb, hnm, hnl, hnB, hnN, htd, hnt, hnw⟩, ⟨eb, eb'⟩, ⟨em, em'⟩, ⟨el, el'⟩, ⟨eB, eB'⟩, ⟨eN, eN'⟩, ⟨et, et'⟩, ⟨ep, ep'⟩, ew, ew'⟩, hBR, hME, hLI, hBA, hTA, hNO, hHA, hRU, hWA, hSH, hLA⟩ := id h
  rcases ixc x nm (by omega) with hx | ⟨i, hi, rfl⟩
  · refine ⟨-1000000001, ?_, ?_⟩
    · simp only [f_X11_told, hR.r0_0, mAt_out em hnm hx, Option.bind_some, Option.elim_some, Option.elim_none, wi, x12_in, b3_z, ckb, ck0, ck1, putI, putR, putJ, not_true_eq_false, not_false_eq_true, if_true, if_false, and_self, and_true, true_and, one_ne0, zero_eq0, ite_self, sI_eq, sI_ne, sI_nk, sI_21, sI_22, sJ_21, sJ_1]
    · simp only [f_X12_told, isM_out em' hnm hx, Option.bind_some, Option.elim_some, Option.elim_none, wi, x12_in, b3_z, ckb, ck0, ck1, putI, putR, putJ, not_true_eq_false, not_false_eq_true, if_true, if_false, and_self, and_true, true_and, one_ne0, zero_eq0, ite_self, sI_eq, sI_ne, sI_nk, sI_21, sI_22, sJ_21, sJ_1]
  · obtain ⟨r, mv, c, hm⟩ := hME i hi
    obtain ⟨⟨m1, m2, m3, m4, m5⟩, ⟨m6, m7, m8, m9⟩, ⟨m10, m11, m12, m13, m14, m15⟩, m16, -⟩ := hm
    unfold OPr
    simp (disch := omega) only [f_X11_told, f_X12_told, f_X11_dayOrNone, hR.r0_0, hR.r37_5, hR.r37_6, hR.r37_7, hR.r37_8, hR.r37_9, rI_nI hS.l39, rI_nI hS.l40, rI_nI hS.l41, rI_nI hS.l42, rI_nI hS.l43, mAt_in hS hR em hnm hi, isM_in em' hnm hi, m1, m10, m11, m12, m13, m14, Option.bind_some, Option.elim_some, Option.elim_none, wi, x12_in, b3_z, ckb, ck0, ck1, putI, putR, putJ, not_true_eq_false, not_false_eq_true, if_true, if_false, and_self, and_true, true_and, one_ne0, zero_eq0, ite_self, sI_eq, sI_ne, sI_nk, sI_21, sI_22, sJ_21, sJ_1]
    by_cases h0 : y = 0
    · exact ⟨_, if_pos h0, if_pos h0⟩
    · rw [if_neg h0, if_neg h0]
      by_cases h1 : y = 1
      · exact ⟨_, if_pos h1, if_pos h1⟩
      · rw [if_neg h1, if_neg h1]
        by_cases h2 : y = 2
        · exact ⟨_, if_pos h2, if_pos h2⟩
        · rw [if_neg h2, if_neg h2]
          by_cases h3 : y = 3
          · exact ⟨_, if_pos h3, if_pos h3⟩
          · rw [if_neg h3, if_neg h3]
            by_cases h4 : y = 4
            · rw [if_pos h4, if_pos h4]
              rcases m16 with ⟨q1, q2⟩ | ⟨d, q0, q1, q2⟩
              · rw [q1, q2]
                exact ⟨_, rfl, rfl⟩
              · rw [q1, q2, show (401 : Int32) = nI 401 from rfl, if_neg (fun e => by have := (nI_eq (by omega) (by omega)).mp e; omega), if_neg (nI_nneg (by omega) (by decide))]
                exact ⟨_, rfl, rfl⟩
            · exact ⟨_, if_neg h4, if_neg h4⟩
theorem op_branch (h : INVP nb nm nl nB nN td nt nw lw w L σ) (x : Int32) : OPs L (f_X11_branch L σ 0 x) (fun σ1 => f_X12_branch L σ1 37 x) := by
  have hN := h.hN
  obtain ⟨hS, hR, ⟨⟨hnb, hnm, hnl, hnB, hnN, htd, hnt, hnw⟩, ⟨eb, eb'⟩, ⟨em, em'⟩, ⟨el, el'⟩, ⟨eB, eB'⟩, ⟨eN, eN'⟩, ⟨et, et'⟩, ⟨ep, ep'⟩, ew, ew'⟩, hBR, hME, hLI, hBA, hTA, hNO, hHA, hRU, hWA, hSH, hLA⟩ := id h
  by_cases hx : 0 ≤ x ∧ x ≤ 3
  · by_cases hb : nb < 6
    · refine ops_of (v := nI nb) (σ1 := sI (sI σ 2 nb x) 1 1 (nI (nb + 1))) (σ2 := sI (sI (sI (sI σ 2 nb x) 1 1 (nI (nb + 1))) 38 nb x) 37 2 (nI (nb + 1))) ?_ ?_ ?_
      · simp (disch := omega) only [f_X11_branch, f_X10_isKind, f_X10_addBranch, hR.r0_0, hR.r1_0, eb, nlt_l, hx, hb, wI_nI hS.l2, nI_1, nI_pred, Option.bind_some, Option.elim_some, Option.elim_none, wi, x12_in, b3_z, ckb, ck0, ck1, putI, putR, putJ, not_true_eq_false, not_false_eq_true, if_true, if_false, and_self, and_true, true_and, one_ne0, zero_eq0, ite_self, sI_eq, sI_ne, sI_nk, sI_21, sI_22, sJ_21, sJ_1]
      · simp (disch := omega) only [f_X12_branch, hR.r37_3, eb', neq_l, hx, show ¬ nb = 6 by omega, wI_nI hS.l38, nI_1, nI_pred, Option.bind_some, Option.elim_some, Option.elim_none, wi, x12_in, b3_z, ckb, ck0, ck1, putI, putR, putJ, not_true_eq_false, not_false_eq_true, if_true, if_false, and_self, and_true, true_and, one_ne0, zero_eq0, ite_self, sI_eq, sI_ne, sI_nk, sI_21, sI_22, sJ_21, sJ_1]
      · refine ⟨nb + 1, nm, nl, nB, nN, td, nt, nw, lw, w, hS, hR, ⟨⟨by omega, by omega, by omega, by omega, by omega, by omega, by omega, by omega⟩, ⟨by simp (disch := omega) only [sI_eq, sI_ne, sI_nk, sI_21, eb, eb', em, em', el, el', eB, eB', eN, eN', et, et', ep, ep', ew, ew'], by simp (disch := omega) only [sI_eq, sI_ne, sI_nk, sI_21, eb, eb', em, em', el, el', eB, eB', eN, eN', et, et', ep, ep', ew, ew']⟩, ⟨by simp (disch := omega) only [sI_eq, sI_ne, sI_nk, sI_21, eb, eb', em, em', el, el', eB, eB', eN, eN', et, et', ep, ep', ew, ew'], by simp (disch := omega) only [sI_eq, sI_ne, sI_nk, sI_21, eb, eb', em, em', el, el', eB, eB', eN, eN', et, et', ep, ep', ew, ew']⟩, ⟨by simp (disch := omega) only [sI_eq, sI_ne, sI_nk, sI_21, eb, eb', em, em', el, el', eB, eB', eN, eN', et, et', ep, ep', ew, ew'], by simp (disch := omega) only [sI_eq, sI_ne, sI_nk, sI_21, eb, eb', em, em', el, el', eB, eB', eN, eN', et, et', ep, ep', ew, ew']⟩, ⟨by simp (disch := omega) only [sI_eq, sI_ne, sI_nk, sI_21, eb, eb', em, em', el, el', eB, eB', eN, eN', et, et', ep, ep', ew, ew'], by simp (disch := omega) only [sI_eq, sI_ne, sI_nk, sI_21, eb, eb', em, em', el, el', eB, eB', eN, eN', et, et', ep, ep', ew, ew']⟩, ⟨by simp (disch := omega) only [sI_eq, sI_ne, sI_nk, sI_21, eb, eb', em, em', el, el', eB, eB', eN, eN', et, et', ep, ep', ew, ew'], by simp (disch := omega) only [sI_eq, sI_ne, sI_nk, sI_21, eb, eb', em, em', el, el', eB, eB', eN, eN', et, et', ep, ep', ew, ew']⟩, ⟨by simp (disch := omega) only [sI_eq, sI_ne, sI_nk, sI_21, eb, eb', em, em', el, el', eB, eB', eN, eN', et, et', ep, ep', ew, ew'], by simp (disch := omega) only [sI_eq, sI_ne, sI_nk, sI_21, eb, eb', em, em', el, el', eB, eB', eN, eN', et, et', ep, ep', ew, ew']⟩, ⟨by simp (disch := omega) only [sI_eq, sI_ne, sI_nk, sI_21, eb, eb', em, em', el, el', eB, eB', eN, eN', et, et', ep, ep', ew, ew'], by simp (disch := omega) only [sI_eq, sI_ne, sI_nk, sI_21, eb, eb', em, em', el, el', eB, eB', eN, eN', et, et', ep, ep', ew, ew']⟩, by simp (disch := omega) only [sI_eq, sI_ne, sI_nk, sI_21, eb, eb', em, em', el, el', eB, eB', eN, eN', et, et', ep, ep', ew, ew'], by simp (disch := omega) only [sI_eq, sI_ne, sI_nk, sI_21, eb, eb', em, em', el, el', eB, eB', eN, eN', et, et', ep, ep', ew, ew']⟩, ?_, hME.f (by omega) (by omega) (fun i _ => (((((AG.rf _ _).wr rfl).wr rfl).wr rfl).wr rfl)) rfl, hLI.fr (((((AG.rf _ _).wr rfl).wr rfl).wr rfl).wr rfl), hBA.f hnm (by omega) (by omega) (fun j _ => (((((AG.rf _ _).wr rfl).wr rfl).wr rfl).wr rfl)) rfl, hTA.fr (((((AG.rf _ _).wr rfl).wr rfl).wr rfl).wr rfl), hNO.f (by omega) (by omega) (fun j _ => (((((AG.rf _ _).wr rfl).wr rfl).wr rfl).wr rfl)) rfl, hHA.fr (((((AG.rf _ _).wr rfl).wr rfl).wr rfl).wr rfl), hRU.fr (((((AG.rf _ _).wr rfl).wr rfl).wr rfl).wr rfl), hWA.fr (((((AG.rf _ _).wr rfl).wr rfl).wr rfl).wr rfl), hSH.fr (((((AG.rf _ _).wr rfl).wr rfl).wr rfl).wr rfl), hLA.fr hR.lw (((((AG.rf _ _).wr rfl).wr rfl).wr rfl).wr rfl)⟩
        intro i hi
        by_cases q : i = nb
        · subst q
          simp (disch := omega) only [sI_eq, sI_ne]
        · simp (disch := omega) only [sI_nk, sI_ne]
          exact hBR i (by omega)
    · refine ops_of (v := -1000000003) (σ1 := σ) (σ2 := σ) ?_ ?_ h.iv
      · simp (disch := omega) only [f_X11_branch, f_X10_isKind, hR.r0_0, eb, nlt_l, hx, hb, Option.bind_some, Option.elim_some, Option.elim_none, wi, x12_in, b3_z, ckb, ck0, ck1, putI, putR, putJ, not_true_eq_false, not_false_eq_true, if_true, if_false, and_self, and_true, true_and, one_ne0, zero_eq0, ite_self, sI_eq, sI_ne, sI_nk, sI_21, sI_22, sJ_21, sJ_1]
      · simp (disch := omega) only [f_X12_branch, eb', neq_l, hx, show nb = 6 by omega, Option.bind_some, Option.elim_some, Option.elim_none, wi, x12_in, b3_z, ckb, ck0, ck1, putI, putR, putJ, not_true_eq_false, not_false_eq_true, if_true, if_false, and_self, and_true, true_and, one_ne0, zero_eq0, ite_self, sI_eq, sI_ne, sI_nk, sI_21, sI_22, sJ_21, sJ_1]
  · refine ops_of (v := -1000000001) (σ1 := σ) (σ2 := σ) ?_ ?_ h.iv
    · simp only [f_X11_branch, f_X10_isKind, hx, Option.bind_some, Option.elim_some, Option.elim_none, wi, x12_in, b3_z, ckb, ck0, ck1, putI, putR, putJ, not_true_eq_false, not_false_eq_true, if_true, if_false, and_self, and_true, true_and, one_ne0, zero_eq0, ite_self, sI_eq, sI_ne, sI_nk, sI_21, sI_22, sJ_21, sJ_1]
    · simp only [f_X12_branch, hx, Option.bind_some, Option.elim_some, Option.elim_none, wi, x12_in, b3_z, ckb, ck0, ck1, putI, putR, putJ, not_true_eq_false, not_false_eq_true, if_true, if_false, and_self, and_true, true_and, one_ne0, zero_eq0, ite_self, sI_eq, sI_ne, sI_nk, sI_21, sI_22, sJ_21, sJ_1]
end
