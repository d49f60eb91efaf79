/-! parcels, parcel -/
section
variable {nb nm nl nB nN td nt nw lw : Nat} {w : Nat → Nat} {L : Lay} {σ : Sto}
theorem pmg_le {ls : Int32} {P : PS} (h : PI 6 P) : (pmg ls P).1 ≤ 6 := by
  unfold pmg
  have := h.1
  split
  · exact this
  · show P.1 - 1 ≤ 6
    omega
theorem w03 {z : Int32} (h : 0 ≤ z ∧ z ≤ 3) (L : Lay) (σ : Sto) : f_X11_isWithin L σ z 0 3 = some 1 := by rw [wi, b3_t h]
theorem w03a (L : Lay) (σ : Sto) : f_X11_isWithin L σ 0 0 3 = some 1 := w03 (by decide) L σ
theorem w03b (L : Lay) (σ : Sto) : f_X11_isWithin L σ 1 0 3 = some 1 := w03 (by decide) L σ
theorem w03c (L : Lay) (σ : Sto) : f_X11_isWithin L σ 2 0 3 = some 1 := w03 (by decide) L σ
theorem w03d (L : Lay) (σ : Sto) : f_X11_isWithin L σ 3 0 3 = some 1 := w03 (by decide) L σ
/-- both gather alike -/
theorem par_both (h : INVP nb nm nl nB nN td nt nw lw w L σ) {j r o : Nat} (hj : j < 12) (hb : BAL1 nb nm td w L σ j r o) : ∃ (Q : PS) (σ1 σ2 : Sto), Q.1 ≤ 6 ∧ f_X5_gather L σ 10 (some (r + 80)) (σ.1 30 4) = some σ1 ∧ PCc Q σ σ1 ∧ f_X12_parts L σ1 37 (nI j) = some σ2 ∧ SC σ σ2 ∧ SC σ σ1 ∧ σ2.1 37 47 = nI Q.1 ∧ ∀ t, t < Q.1 → σ2.1 74 t = nI (Q.2.1 t) ∧ σ2.1 75 t = Q.2.2.1 t ∧ σ2.1 76 t = Q.2.2.2.1 t ∧ σ2.1 77 t = Q.2.2.2.2 t := by
  have hnm : nm ≤ 40 := h.2.2.1.1.2.1
  have e4 : σ.1 30 4 = σ.1 64 4 := by
    obtain ⟨hS, hR, ⟨⟨hnb, hnm, hnl, hnB, hnN, htd, hnt, hnw⟩, ⟨eb, eb'⟩, ⟨em, em'⟩, ⟨el, el'⟩, ⟨eB, eB'⟩, ⟨eN, eN'⟩, ⟨et, et'⟩, ⟨ep, ep'⟩, ew, ew'⟩, hBR, hME, hLI, hBA, hTA, hNO, hHA, hRU, hWA, hSH, hLA⟩ := id h
    obtain ⟨-, v, -, -, a, b⟩ := hRU 4 (by omega)
    rw [a, b]
  rw [e4]
  obtain ⟨σ1, a1, a2⟩ := x5_gather h hb (σ.1 64 4)
  have s1 := a2.2.2
  obtain ⟨σ2, b1, b2, b3, b4⟩ := x12_parts (h.sc s1) hj (hb.sc hnm s1)
  have e64 : σ1.1 64 4 = σ.1 64 4 := s1.at rfl
  rw [e64, pall_sc s1] at b2 b3
  exact ⟨_, σ1, σ2, pmg_le (PI_all σ j o nm _ 6 (by omega)), a1, a2, b1, s1.tr b4, s1, b2, b3⟩
theorem op_parcels (h : INVP nb nm nl nB nN td nt nw lw w L σ) (x : Int32) : OPs L (f_X11_parcels L σ 0 x) (fun σ1 => f_X12_parcels L σ1 37 x) := by
  have h0 := h
  obtain ⟨hS, hR, ⟨⟨hnb, hnm, hnl, hnB, hnN, htd, hnt, hnw⟩, ⟨eb, eb'⟩, ⟨em, em'⟩, ⟨el, el'⟩, ⟨eB, eB'⟩, ⟨eN, eN'⟩, ⟨et, et'⟩, ⟨ep, ep'⟩, ew, ew'⟩, hBR, hME, hLI, hBA, hTA, hNO, hHA, hRU, hWA, hSH, hLA⟩ := id h
  rcases ixc x nB (by omega) with hx | ⟨j, hj, rfl⟩
  · refine ops_of (v := -1000000001) (σ1 := σ) (σ2 := σ) ?_ ?_ h.iv
    · simp only [f_X11_parcels, bAt_out eB hnB hx, Option.bind_some, Option.elim_some, Option.elim_none, wi, x12_in, b3_z, ckb, ck0, ck1, putI, putR, putJ, not_true_eq_false, not_false_eq_true, if_true, if_false, and_self, and_true, true_and, one_ne0, zero_eq0, ite_self, sI_eq, sI_ne, sI_nk, sI_21, sI_22, sJ_21, sJ_1]
    · simp only [f_X12_parcels, isBa_out eB' hnB hx, Option.bind_some, Option.elim_some, Option.elim_none, wi, x12_in, b3_z, ckb, ck0, ck1, putI, putR, putJ, not_true_eq_false, not_false_eq_true, if_true, if_false, and_self, and_true, true_and, one_ne0, zero_eq0, ite_self, sI_eq, sI_ne, sI_nk, sI_21, sI_22, sJ_21, sJ_1]
  · obtain ⟨r, o, hb⟩ := hBA j hj
    obtain ⟨Q, σ1, σ2, q0, q1, q2, q3, q4, q5, q6, q7⟩ := par_both h0 (show j < 12 by omega) hb
    have b1 := hb.1.1
    have hR1 : RF lw σ1.2.1 := (h0.sc q5).2.1
    have r4 : rI L σ 30 4 = some (σ.1 30 4) := rI_nI (i := 4) hS.l30 (by omega) (by omega)
    refine ops_of (v := nI Q.1) (σ1 := σ1) (σ2 := σ2) ?_ ?_ (h0.sc q4).iv
    · simp only [f_X11_parcels, bAt_in hS hR eB hnB hj, b1, hR.r0_12, hR.r28_1, hR.r0_4, r4, q1, hR1.r0_4, q2.1, Option.bind_some, Option.elim_some, Option.elim_none, wi, x12_in, b3_z, ckb, ck0, ck1, putI, putR, putJ, not_true_eq_false, not_false_eq_true, if_true, if_false, and_self, and_true, true_and, one_ne0, zero_eq0, ite_self, sI_eq, sI_ne, sI_nk, sI_21, sI_22, sJ_21, sJ_1]
    · simp only [f_X12_parcels, isBa_in ((q5.at rfl).trans eB') hnB hj, q3, q6, Option.bind_some, Option.elim_some, Option.elim_none, wi, x12_in, b3_z, ckb, ck0, ck1, putI, putR, putJ, not_true_eq_false, not_false_eq_true, if_true, if_false, and_self, and_true, true_and, one_ne0, zero_eq0, ite_self, sI_eq, sI_ne, sI_nk, sI_21, sI_22, sJ_21, sJ_1]
theorem op_parcel (h : INVP nb nm nl nB nN td nt nw lw w L σ) (x y z : Int32) : OPs L (f_X11_parcel L σ 0 x y z) (fun σ1 => f_X12_parcel L σ1 37 x y z) := by
  have h0 := h
  obtain ⟨hS, hR, ⟨⟨hnb, hnm, hnl, hnB, hnN, htd, hnt, hnw⟩, ⟨eb, eb'⟩, ⟨em, em'⟩, ⟨el, el'⟩, ⟨eB, eB'⟩, ⟨eN, eN'⟩, ⟨et, et'⟩, ⟨ep, ep'⟩, ew, ew'⟩, hBR, hME, hLI, hBA, hTA, hNO, hHA, hRU, hWA, hSH, hLA⟩ := id h
  rcases ixc x nB (by omega) with hx | ⟨j, hj, rfl⟩
  · refine ops_of (v := -1000000001) (σ1 := σ) (σ2 := σ) ?_ ?_ h.iv
    · simp only [f_X11_parcel, bAt_out eB hnB hx, Option.bind_some, Option.elim_some, Option.elim_none, wi, x12_in, b3_z, ckb, ck0, ck1, putI, putR, putJ, not_true_eq_false, not_false_eq_true, if_true, if_false, and_self, and_true, true_and, one_ne0, zero_eq0, ite_self, sI_eq, sI_ne, sI_nk, sI_21, sI_22, sJ_21, sJ_1]
    · simp only [f_X12_parcel, isBa_out eB' hnB hx, Option.bind_some, Option.elim_some, Option.elim_none, wi, x12_in, b3_z, ckb, ck0, ck1, putI, putR, putJ, not_true_eq_false, not_false_eq_true, if_true, if_false, and_self, and_true, true_and, one_ne0, zero_eq0, ite_self, sI_eq, sI_ne, sI_nk, sI_21, sI_22, sJ_21, sJ_1]
  · obtain ⟨r, o, hb⟩ := hBA j hj
    have b1 := hb.1.1
    by_cases hy : y < 0
    · refine ops_of (v := -1000000001) (σ1 := σ) (σ2 := σ) ?_ ?_ h0.iv
      · simp only [f_X11_parcel, bAt_in hS hR eB hnB hj, b1, hy, Option.bind_some, Option.elim_some, Option.elim_none, wi, x12_in, b3_z, ckb, ck0, ck1, putI, putR, putJ, not_true_eq_false, not_false_eq_true, if_true, if_false, and_self, and_true, true_and, one_ne0, zero_eq0, ite_self, sI_eq, sI_ne, sI_nk, sI_21, sI_22, sJ_21, sJ_1]
      · simp only [f_X12_parcel, isBa_in eB' hnB hj, hy, Option.bind_some, Option.elim_some, Option.elim_none, wi, x12_in, b3_z, ckb, ck0, ck1, putI, putR, putJ, not_true_eq_false, not_false_eq_true, if_true, if_false, and_self, and_true, true_and, one_ne0, zero_eq0, ite_self, sI_eq, sI_ne, sI_nk, sI_21, sI_22, sJ_21, sJ_1]
    · by_cases hz : 0 ≤ z ∧ z ≤ 3
      · obtain ⟨Q, σ1, σ2, q0, q1, q2, q3, q4, q5, q6, q7⟩ := par_both h0 (show j < 12 by omega) hb
        obtain ⟨p1, p2, -⟩ := q2
        have hR1 : RF lw σ1.2.1 := (h0.sc q5).2.1
        have hR2 : RF lw σ2.2.1 := (h0.sc q4).2.1
        have eB1 : σ1.1 37 16 = nI nB := (q5.at rfl).trans eB'
        have r4 : rI L σ 30 4 = some (σ.1 30 4) := rI_nI (i := 4) hS.l30 (by omega) (by omega)
        have w0 : ∀ L σ, f_X11_isWithin L σ z 0 3 = some 1 := fun L σ => by rw [wi, b3_t hz]
        have v0 : ∀ L σ, f_X12_in L σ z 0 3 = some 1 := fun L σ => by rw [x12_in, wi, b3_t hz]
        by_cases ht : y < nI Q.1
        · obtain ⟨t, ht', rfl⟩ : ∃ t, t < Q.1 ∧ y = nI t := by
            obtain ⟨t, a, rfl⟩ := nI_of hy
            exact ⟨t, (nI_ltI a (by omega)).mp ht, rfl⟩
          obtain ⟨c1, c2, c3, c4⟩ := p2 t ht'
          obtain ⟨d1, d2, d3, d4⟩ := q7 t ht'
          obtain ⟨k, hk, rfl⟩ := of_le (n := 3) hz (by omega)
          have z1 : ¬ (1 : Int32) = 0 := by decide
          have z2 : ¬ (2 : Int32) = 0 := by decide
          have z3 : ¬ (3 : Int32) = 0 := by decide
          have z4 : ¬ (2 : Int32) = 1 := by decide
          have z5 : ¬ (3 : Int32) = 1 := by decide
          have z6 : ¬ (3 : Int32) = 2 := by decide
          have A : ∀ {v : Int32} {σ1 σ2 : Sto}, f_X11_parcel L σ 0 (nI j) (nI t) (nI k) = some (v, σ1) → f_X12_parcel L σ1 37 (nI j) (nI t) (nI k) = some (v, σ2) → SC σ σ2 → OPs L (f_X11_parcel L σ 0 (nI j) (nI t) (nI k)) (fun σ1 => f_X12_parcel L σ1 37 (nI j) (nI t) (nI k)) := fun a b c => ops_of a b (h0.sc c).iv
          rcases (show k = 0 ∨ k = 1 ∨ k = 2 ∨ k = 3 by omega) with rfl | rfl | rfl | rfl
          · refine A (v := nI (Q.2.1 t)) (σ1 := σ1) (σ2 := σ2) ?_ ?_ q4
            · simp (disch := omega) only [f_X11_parcel, bAt_in hS hR eB hnB hj, b1, hy, w03a, nI_0, hR.r0_12, hR.r28_1, hR.r0_4, r4, q1, hR1.r0_4, hR1.r10_0, p1, ht, rI_nI hS.l11, c1, Option.bind_some, Option.elim_some, if_true, if_false, one_ne0]
            · simp (disch := omega) only [f_X12_parcel, isBa_in eB1 hnB hj, hy, x12_in, w03a, nI_0, q3, q6, ht, hR2.r37_48, rI_nI hS.l74, d1, Option.bind_some, if_true, if_false, one_ne0]
          · refine A (v := Q.2.2.1 t) (σ1 := σ1) (σ2 := σ2) ?_ ?_ q4
            · simp (disch := omega) only [f_X11_parcel, bAt_in hS hR eB hnB hj, b1, hy, w03b, show nI 1 = 1 from rfl, hR.r0_12, hR.r28_1, hR.r0_4, r4, q1, hR1.r0_4, hR1.r10_1, p1, ht, rI_nI hS.l12, c2, Option.bind_some, Option.elim_some, if_true, if_false, one_ne0]
            · simp (disch := omega) only [f_X12_parcel, isBa_in eB1 hnB hj, hy, x12_in, w03b, show nI 1 = 1 from rfl, q3, q6, ht, hR2.r37_49, rI_nI hS.l75, d2, Option.bind_some, if_true, if_false, one_ne0]
          · refine A (v := Q.2.2.2.1 t) (σ1 := σ1) (σ2 := σ2) ?_ ?_ q4
            · simp (disch := omega) only [f_X11_parcel, bAt_in hS hR eB hnB hj, b1, hy, w03c, show nI 2 = 2 from rfl, z2, z4, hR.r0_12, hR.r28_1, hR.r0_4, r4, q1, hR1.r0_4, hR1.r10_2, p1, ht, rI_nI hS.l13, c3, Option.bind_some, Option.elim_some, if_true, if_false, one_ne0]
            · simp (disch := omega) only [f_X12_parcel, isBa_in eB1 hnB hj, hy, x12_in, w03c, show nI 2 = 2 from rfl, z2, z4, q3, q6, ht, hR2.r37_50, rI_nI hS.l76, d3, Option.bind_some, if_true, if_false, one_ne0]
          · refine A (v := Q.2.2.2.2 t) (σ1 := σ1) (σ2 := σ2) ?_ ?_ q4
            · simp (disch := omega) only [f_X11_parcel, bAt_in hS hR eB hnB hj, b1, hy, w03d, show nI 3 = 3 from rfl, z3, z5, z6, hR.r0_12, hR.r28_1, hR.r0_4, r4, q1, hR1.r0_4, hR1.r10_3, p1, ht, rI_nI hS.l14, c4, Option.bind_some, Option.elim_some, if_true, if_false, one_ne0]
            · simp (disch := omega) only [f_X12_parcel, isBa_in eB1 hnB hj, hy, x12_in, w03d, show nI 3 = 3 from rfl, z3, z5, z6, q3, q6, ht, hR2.r37_51, rI_nI hS.l77, d4, Option.bind_some, if_true, if_false, one_ne0]
        · refine ops_of (v := -1000000005) (σ1 := σ1) (σ2 := σ2) ?_ ?_ (h0.sc q4).iv
          · simp only [f_X11_parcel, bAt_in hS hR eB hnB hj, b1, hy, w0, hR.r0_12, hR.r28_1, hR.r0_4, r4, q1, hR1.r0_4, p1, ht, Option.bind_some, Option.elim_some, if_true, if_false, one_ne0]
          · simp only [f_X12_parcel, isBa_in eB1 hnB hj, hy, v0, q3, q6, ht, Option.bind_some, if_true, if_false, one_ne0]
      · refine ops_of (v := -1000000001) (σ1 := σ) (σ2 := σ) ?_ ?_ h0.iv
        · simp only [f_X11_parcel, bAt_in hS hR eB hnB hj, b1, hy, wi, b3_f hz, Option.bind_some, Option.elim_some, if_true, if_false, zero_eq0]
        · simp only [f_X12_parcel, isBa_in eB' hnB hj, hy, x12_in, wi, b3_f hz, Option.bind_some, if_true, if_false, zero_eq0, ite_self]
end
