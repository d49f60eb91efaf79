/-! Calls that change members and papers -/
theorem lo_N {a k : Nat} (h : 80 ≤ a) : pNUM a k = false := pf_of (fun z => by simp [pNUM] at z; omega)
theorem lo_BR {a k : Nat} (h : 80 ≤ a) : pBRA a k = false := pf_of (fun z => by simp [pBRA] at z; omega)
theorem lo_LI {a k : Nat} (h : 80 ≤ a) : pLIN a k = false := pf_of (fun z => by simp [pLIN] at z; omega)
theorem lo_TA {a k : Nat} (h : 80 ≤ a) : pTAP a k = false := pf_of (fun z => by simp [pTAP] at z; omega)
theorem lo_HA {a k : Nat} (h : 80 ≤ a) : pHAR a k = false := pf_of (fun z => by simp [pHAR] at z; omega)
theorem lo_RU {a k : Nat} (h : 80 ≤ a) : pRUL a k = false := pf_of (fun z => by simp [pRUL] at z; omega)
theorem lo_WA {a k : Nat} (h : 80 ≤ a) : pWAI a k = false := pf_of (fun z => by simp [pWAI] at z; omega)
theorem lo_SH {a k : Nat} (h : 80 ≤ a) : pSHE a k = false := pf_of (fun z => by simp [pSHE] at z; omega)
theorem lo_LA {a k : Nat} (h : 80 ≤ a) : pLAW a k = false := pf_of (fun z => by simp [pLAW] at z; omega)
theorem nd_ME {w : Nat → Nat} {N i r k : Nat} (h : w r ≠ i) : pMEM1 w N i (r + 80) k = false := pf_of (fun z => by simp [pMEM1] at z; omega)
theorem nd_BA {w : Nat → Nat} {N j r k : Nat} (h : w r ≠ 40 + j) : pBAL1 w N j (r + 80) k = false := pf_of (fun z => by simp [pBAL1] at z; omega)
theorem nd_NO {w : Nat → Nat} {N j r k : Nat} (h : w r ≠ 52 + j) : pNOT1 w N j (r + 80) k = false := pf_of (fun z => by simp [pNOT1] at z; omega)
theorem na_ME {w : Nat → Nat} {N i a k : Nat} (ha : a ≤ 44) (h : k ≠ i) : pMEM1 w N i a k = false := pf_of (fun z => by simp [pMEM1] at z; omega)
theorem nr_ME {w : Nat → Nat} {N i a k : Nat} (ha : 45 ≤ a) (ha' : a < 80) (h : k < 7 * i ∨ 7 * i + 6 < k) : pMEM1 w N i a k = false := pf_of (fun z => by simp [pMEM1] at z; omega)
theorem na_BA {w : Nat → Nat} {N j a k : Nat} (ha : a ≤ 51) (h : k ≠ j) : pBAL1 w N j a k = false := pf_of (fun z => by simp [pBAL1] at z; omega)
theorem nr_BA {w : Nat → Nat} {N j a k : Nat} (ha : 52 ≤ a) (ha' : a < 80) (h : k < 40 * j ∨ 40 * j + 39 < k) : pBAL1 w N j a k = false := pf_of (fun z => by simp [pBAL1] at z; omega)
theorem nI_pa (a b : Nat) : nI (a + (b + 1)) - 1 = nI (a + b) := nI_pred (a + b)
theorem nI401 {d : Nat} (h : d ≤ 400) : (nI d = 401) = False := eq_false (fun e => by have := (nI_eq (a := d) (b := 401) (by omega) (by omega)).mp e; omega)
theorem nIm1 {d : Nat} (h : d < 2 ^ 31) : (nI d = -1) = False := eq_false (nI_nneg h (by decide))
theorem m1m1 : ((-1 : Int32) = -1) = True := eq_true rfl
theorem e401 : ((401 : Int32) = 401) = True := eq_true rfl
section
variable {nb nm nl nB nN td nt nw lw : Nat} {w : Nat → Nat} {L : Lay} {σ : Sto}
theorem lB {r mv : Nat} {v : Int32} (h8 : σ.1 (r + 80) 8 = nI mv) (h7 : σ.2.1 (r + 80) 7 = some (r + 82)) (h9 : L.2.1 (r + 82) = 6) (hmv : mv ≤ 6) (h0 : mv = 0 → σ.1 (r + 80) 5 = v) (h1 : ∀ k, mv = k + 1 → σ.1 (r + 82) k = v) : f_X2_lastBranch L σ (r + 80) = some v := by
  unfold f_X2_lastBranch
  rw [h8]
  cases mv with
  | zero => rw [nI_0, if_pos rfl, h0 rfl]
  | succ k => rw [if_neg (nI_ne0 (by omega) (by omega)), h7, nI_pred, Option.bind_some, rI_nI h9 (by omega) (by omega), Option.bind_some, h1 k rfl]
theorem x12_branchOf (hS : SF L) (hR : RF lw σ.2.1) {i mv : Nat} (hi : i < 40) (hmv : mv ≤ 6) (h : σ.1 44 i = nI (mv + 1)) : f_X12_branchOf L σ 37 (nI i) = some (σ.1 45 (7 * i + mv)) := by
  simp (disch := omega) only [f_X12_branchOf, hR.r37_10, hR.r37_11, rI_nI hS.l44, rI_nI hS.l45, h, mul_lit, nI_add, nI_pa, Option.bind_some]
theorem op_leave (h : INVP nb nm nl nB nN td nt nw lw w L σ) (x : Int32) : OPs L (f_X11_leave L σ 0 x) (fun σ1 => f_X12_leave L σ1 37 x) := by
  have hN := h.hN
  obtain ⟨hS, hR, ⟨⟨hnb, hnm, hnl, hnB, hnN, htd, hnt, hnw⟩, ⟨eb, eb'⟩, ⟨em, em'⟩, ⟨el, el'⟩, ⟨eB, eB'⟩, ⟨eN, eN'⟩, ⟨et, et'⟩, ⟨ep, ep'⟩, ew, ew'⟩, hBR, hME, hLI, hBA, hTA, hNO, hHA, hRU, hWA, hSH, hLA⟩ := id h
  rcases ixc x nm (by omega) with hx | ⟨i, hi, rfl⟩
  · refine ops_of (v := -1000000001) (σ1 := σ) (σ2 := σ) ?_ ?_ h.iv
    · simp only [f_X11_leave, hR.r0_0, mAt_out em hnm hx, Option.bind_some, Option.elim_some, Option.elim_none, wi, x12_in, b3_z, ckb, ck0, ck1, putI, putR, putJ, not_true_eq_false, not_false_eq_true, if_true, if_false, and_self, and_true, true_and, one_ne0, zero_eq0, ite_self, sI_eq, sI_ne, sI_nk, sI_21, sI_22, sJ_21, sJ_1]
    · simp only [f_X12_leave, isM_out em' hnm hx, Option.bind_some, Option.elim_some, Option.elim_none, wi, x12_in, b3_z, ckb, ck0, ck1, putI, putR, putJ, not_true_eq_false, not_false_eq_true, if_true, if_false, and_self, and_true, true_and, one_ne0, zero_eq0, ite_self, sI_eq, sI_ne, sI_nk, sI_21, sI_22, sJ_21, sJ_1]
  · obtain ⟨r, mv, c, hm⟩ := hME i hi
    obtain ⟨⟨m1, m2, m3, m4, m5⟩, ⟨m6, m7, m8, m9⟩, ⟨m10, m11, m12, m13, m14, m15⟩, m16, ⟨m17, m18, m19, m20, m21⟩, m22, m23, m24⟩ := id hm
    rcases m16 with ⟨q1, q2⟩ | ⟨d, q0, q1, q2⟩
    · refine ops_of (v := σ.1 45 (7 * i + mv)) (σ1 := sI σ (r + 80) 4 (nI td)) (σ2 := sI (sI σ (r + 80) 4 (nI td)) 43 i (nI td)) ?_ ?_ ?_
      · have e : f_X2_lastBranch L (sI σ (r + 80) 4 (nI td)) (r + 80) = some (σ.1 45 (7 * i + mv)) := lB (by simp (disch := omega) only [sI_nk, m18]) m7 m9 m17 (fun z => by subst z; simp (disch := omega) only [sI_nk, m20, Nat.add_zero]) (fun k z => by subst z; simp (disch := omega) only [sI_ne]; exact (m22 k (by omega)).2.1)
        simp (disch := omega) only [f_X11_leave, f_X2_hasLeft, hR.r0_0, mAt_in hS hR em hnm hi, m1, q2, e401, e, et, Option.bind_some, Option.elim_some, Option.elim_none, wi, x12_in, b3_z, ckb, ck0, ck1, putI, putR, putJ, not_true_eq_false, not_false_eq_true, if_true, if_false, and_self, and_true, true_and, one_ne0, zero_eq0, ite_self, sI_eq, sI_ne, sI_nk, sI_21, sI_22, sJ_21, sJ_1]
      · have e : f_X12_branchOf L (sI (sI σ (r + 80) 4 (nI td)) 43 i (nI td)) 37 (nI i) = some (σ.1 45 (7 * i + mv)) := by
          refine (x12_branchOf (lw := lw) (σ := sI (sI σ (r + 80) 4 (nI td)) 43 i (nI td)) (i := i) (mv := mv) hS hR (by omega) m17 ?_).trans ?_
          · simp (disch := omega) only [sI_ne, m19]
          · simp (disch := omega) only [sI_ne]
        simp (disch := omega) only [f_X12_leave, isM_in (show (sI σ (r + 80) 4 (nI td)).1 37 4 = nI nm by simp (disch := omega) only [sI_ne, em']) hnm hi, hR.r37_9, rI_nI hS.l43, wI_nI hS.l43, q1, m1m1, e, et', Option.bind_some, Option.elim_some, Option.elim_none, wi, x12_in, b3_z, ckb, ck0, ck1, putI, putR, putJ, not_true_eq_false, not_false_eq_true, if_true, if_false, and_self, and_true, true_and, one_ne0, zero_eq0, ite_self, sI_eq, sI_ne, sI_nk, sI_21, sI_22, sJ_21, sJ_1]
      · refine ⟨nb, nm, nl, nB, nN, td, nt, nw, lw, w, hS, hR, hN.fr ((((AG.rf _ _).wr (lo_N (by omega))).wr rfl)), hBR.fr ((((AG.rf _ _).wr (lo_BR (by omega))).wr rfl)), ?_, hLI.fr ((((AG.rf _ _).wr (lo_LI (by omega))).wr rfl)), hBA.f hnm (by omega) (by omega) (fun j _ => ((AG.rf _ _).wr (nd_BA (by omega))).wr rfl) rfl, hTA.fr ((((AG.rf _ _).wr (lo_TA (by omega))).wr rfl)), hNO.f (by omega) (by omega) (fun j _ => ((AG.rf _ _).wr (nd_NO (by omega))).wr rfl) rfl, hHA.fr ((((AG.rf _ _).wr (lo_HA (by omega))).wr rfl)), hRU.fr ((((AG.rf _ _).wr (lo_RU (by omega))).wr rfl)), hWA.fr ((((AG.rf _ _).wr (lo_WA (by omega))).wr rfl)), hSH.fr ((((AG.rf _ _).wr (lo_SH (by omega))).wr rfl)), hLA.fr hR.lw ((((AG.rf _ _).wr (lo_LA (by omega))).wr rfl))⟩
        intro k hk
        by_cases z : k = i
        · subst z
          refine ⟨r, mv, c, ?_⟩
          unfold MEM1
          simp (disch := omega) only [sI_eq, sI_ne, sI_nk, sI_21]
          exact ⟨⟨m1, m2, m3, m4, m5⟩, ⟨m6, m7, m8, m9⟩, ⟨m10, m11, m12, m13, m14, m15⟩, Or.inr ⟨td, by omega, rfl, rfl⟩, ⟨m17, m18, m19, m20, m21⟩, m22, m23, m24⟩
        · obtain ⟨r', mv', c', hm'⟩ := hME k hk
          exact ⟨r', mv', c', hm'.fr (LE.rf L) (fun _ _ => rfl) (by omega) (by omega) (((AG.rf _ _).wr (nd_ME (by omega))).wr (na_ME (by omega) (by omega))) rfl (fun _ _ _ _ => rfl)⟩
    · refine ops_of (v := -1000000002) (σ1 := σ) (σ2 := σ) ?_ ?_ h.iv
      · simp (disch := omega) only [f_X11_leave, f_X2_hasLeft, hR.r0_0, mAt_in hS hR em hnm hi, m1, q2, nI401, Option.bind_some, Option.elim_some, Option.elim_none, wi, x12_in, b3_z, ckb, ck0, ck1, putI, putR, putJ, not_true_eq_false, not_false_eq_true, if_true, if_false, and_self, and_true, true_and, one_ne0, zero_eq0, ite_self, sI_eq, sI_ne, sI_nk, sI_21, sI_22, sJ_21, sJ_1]
      · simp (disch := omega) only [f_X12_leave, isM_in em' hnm hi, hR.r37_9, rI_nI hS.l43, q1, nIm1, Option.bind_some, Option.elim_some, Option.elim_none, wi, x12_in, b3_z, ckb, ck0, ck1, putI, putR, putJ, not_true_eq_false, not_false_eq_true, if_true, if_false, and_self, and_true, true_and, one_ne0, zero_eq0, ite_self, sI_eq, sI_ne, sI_nk, sI_21, sI_22, sJ_21, sJ_1]
theorem op_move (h : INVP nb nm nl nB nN td nt nw lw w L σ) (x y : Int32) : OPs L (f_X11_move L σ 0 x y) (fun σ1 => f_X12_move L σ1 37 x y) := by
  have hN := h.hN
  obtain ⟨hS, hR, ⟨⟨hnb, hnm, hnl, hnB, hnN, htd, hnt, hnw⟩, ⟨eb, eb'⟩, ⟨em, em'⟩, ⟨el, el'⟩, ⟨eB, eB'⟩, ⟨eN, eN'⟩, ⟨et, et'⟩, ⟨ep, ep'⟩, ew, ew'⟩, hBR, hME, hLI, hBA, hTA, hNO, hHA, hRU, hWA, hSH, hLA⟩ := id h
  rcases ixc x nm (by omega) with hx | ⟨i, hi, rfl⟩
  · refine ops_of (v := -1000000001) (σ1 := σ) (σ2 := σ) ?_ ?_ h.iv
    · simp only [f_X11_move, hR.r0_0, mAt_out em hnm hx, Option.bind_some, Option.elim_some, Option.elim_none, wi, x12_in, b3_z, ckb, ck0, ck1, putI, putR, putJ, not_true_eq_false, not_false_eq_true, if_true, if_false, and_self, and_true, true_and, one_ne0, zero_eq0, ite_self, sI_eq, sI_ne, sI_nk, sI_21, sI_22, sJ_21, sJ_1]
    · simp only [f_X12_move, isM_out em' hnm hx, Option.bind_some, Option.elim_some, Option.elim_none, wi, x12_in, b3_z, ckb, ck0, ck1, putI, putR, putJ, not_true_eq_false, not_false_eq_true, if_true, if_false, and_self, and_true, true_and, one_ne0, zero_eq0, ite_self, sI_eq, sI_ne, sI_nk, sI_21, sI_22, sJ_21, sJ_1]
  · obtain ⟨r, mv, c, hm⟩ := hME i hi
    obtain ⟨⟨m1, m2, m3, m4, m5⟩, ⟨m6, m7, m8, m9⟩, ⟨m10, m11, m12, m13, m14, m15⟩, m16, ⟨m17, m18, m19, m20, m21⟩, m22, m23, m24⟩ := id hm
    rcases ixc y nb (by omega) with hy | ⟨b, hb, rfl⟩
    · refine ops_of (v := -1000000001) (σ1 := σ) (σ2 := σ) ?_ ?_ h.iv
      · simp only [f_X11_move, hR.r0_0, mAt_in hS hR em hnm hi, m1, hB_out eb hnb hy, Option.bind_some, Option.elim_some, Option.elim_none, wi, x12_in, b3_z, ckb, ck0, ck1, putI, putR, putJ, not_true_eq_false, not_false_eq_true, if_true, if_false, and_self, and_true, true_and, one_ne0, zero_eq0, ite_self, sI_eq, sI_ne, sI_nk, sI_21, sI_22, sJ_21, sJ_1]
      · simp only [f_X12_move, isM_in em' hnm hi, isBr_out eb' hnb hy, Option.bind_some, Option.elim_some, Option.elim_none, wi, x12_in, b3_z, ckb, ck0, ck1, putI, putR, putJ, not_true_eq_false, not_false_eq_true, if_true, if_false, and_self, and_true, true_and, one_ne0, zero_eq0, ite_self, sI_eq, sI_ne, sI_nk, sI_21, sI_22, sJ_21, sJ_1]
    · have e : f_X2_lastBranch L σ (r + 80) = some (σ.1 45 (7 * i + mv)) := lB m18 m7 m9 m17 (fun z => by subst z; exact m20) (fun k z => by subst z; exact (m22 k (by omega)).2.1)
      have e' : f_X12_branchOf L σ 37 (nI i) = some (σ.1 45 (7 * i + mv)) := x12_branchOf (lw := lw) hS hR (by omega) m17 m19
      rcases m16 with ⟨q1, q2⟩ | ⟨d, q0, q1, q2⟩
      · by_cases hv : σ.1 45 (7 * i + mv) = nI b
        · refine ops_of (v := -1000000002) (σ1 := σ) (σ2 := σ) ?_ ?_ h.iv
          · simp (disch := omega) only [f_X11_move, f_X2_hasLeft, hR.r0_0, mAt_in hS hR em hnm hi, hB_in eb hnb hb, m1, q2, e401, e, hv, Option.bind_some, Option.elim_some, Option.elim_none, wi, x12_in, b3_z, ckb, ck0, ck1, putI, putR, putJ, not_true_eq_false, not_false_eq_true, if_true, if_false, and_self, and_true, true_and, one_ne0, zero_eq0, ite_self, sI_eq, sI_ne, sI_nk, sI_21, sI_22, sJ_21, sJ_1]
          · simp (disch := omega) only [f_X12_move, isM_in em' hnm hi, isBr_in eb' hnb hb, hR.r37_9, rI_nI hS.l43, q1, m1m1, e', hv, Option.bind_some, Option.elim_some, Option.elim_none, wi, x12_in, b3_z, ckb, ck0, ck1, putI, putR, putJ, not_true_eq_false, not_false_eq_true, if_true, if_false, and_self, and_true, true_and, one_ne0, zero_eq0, ite_self, sI_eq, sI_ne, sI_nk, sI_21, sI_22, sJ_21, sJ_1]
        · by_cases hf : mv < 6
          · refine ops_of (v := σ.1 45 (7 * i + mv)) (σ1 := sI (sI (sI σ (r + 81) mv (nI td)) (r + 82) mv (nI b)) (r + 80) 8 (nI (mv + 1))) (σ2 := sI (sI (sI (sI (sI (sI σ (r + 81) mv (nI td)) (r + 82) mv (nI b)) (r + 80) 8 (nI (mv + 1))) 45 (7 * i + (mv + 1)) (nI b)) 46 (7 * i + (mv + 1)) (nI td)) 44 i (nI (mv + 1 + 1))) ?_ ?_ ?_
            · simp (disch := omega) only [f_X11_move, f_X2_hasLeft, f_X2_goTo, hR.r0_0, mAt_in hS hR em hnm hi, hB_in eb hnb hb, m1, q2, e401, e, hv, m18, nlt_l, hf, m6, m7, wI_nI m8, wI_nI m9, nI_1, et, Option.bind_some, Option.elim_some, Option.elim_none, wi, x12_in, b3_z, ckb, ck0, ck1, putI, putR, putJ, not_true_eq_false, not_false_eq_true, if_true, if_false, and_self, and_true, true_and, one_ne0, zero_eq0, ite_self, sI_eq, sI_ne, sI_nk, sI_21, sI_22, sJ_21, sJ_1]
            · have e2 : f_X12_branchOf L (sI (sI (sI σ (r + 81) mv (nI td)) (r + 82) mv (nI b)) (r + 80) 8 (nI (mv + 1))) 37 (nI i) = some (σ.1 45 (7 * i + mv)) := by
                refine (x12_branchOf (lw := lw) (σ := sI (sI (sI σ (r + 81) mv (nI td)) (r + 82) mv (nI b)) (r + 80) 8 (nI (mv + 1))) (i := i) (mv := mv) hS hR (by omega) m17 ?_).trans ?_
                · simp (disch := omega) only [sI_ne, m19]
                · simp (disch := omega) only [sI_ne]
              simp (disch := omega) only [f_X12_move, isM_in (show (sI (sI (sI σ (r + 81) mv (nI td)) (r + 82) mv (nI b)) (r + 80) 8 (nI (mv + 1))).1 37 4 = nI nm by simp (disch := omega) only [sI_ne, em']) hnm hi, isBr_in (show (sI (sI (sI σ (r + 81) mv (nI td)) (r + 82) mv (nI b)) (r + 80) 8 (nI (mv + 1))).1 37 2 = nI nb by simp (disch := omega) only [sI_ne, eb']) hnb hb, hR.r37_9, hR.r37_10, hR.r37_11, hR.r37_12, rI_nI hS.l43, rI_nI hS.l44, wI_nI hS.l44, wI_nI hS.l45, wI_nI hS.l46, q1, m1m1, e2, hv, m19, mul_lit, nI_add, neq_l, show ¬ mv + 1 = 7 by omega, nI_1, et', Option.bind_some, Option.elim_some, Option.elim_none, wi, x12_in, b3_z, ckb, ck0, ck1, putI, putR, putJ, not_true_eq_false, not_false_eq_true, if_true, if_false, and_self, and_true, true_and, one_ne0, zero_eq0, ite_self, sI_eq, sI_ne, sI_nk, sI_21, sI_22, sJ_21, sJ_1]
            · refine ⟨nb, nm, nl, nB, nN, td, nt, nw, lw, w, hS, hR, hN.fr (((((((AG.rf _ _).wr (lo_N (by omega))).wr (lo_N (by omega))).wr (lo_N (by omega))).wr rfl).wr rfl).wr rfl), hBR.fr (((((((AG.rf _ _).wr (lo_BR (by omega))).wr (lo_BR (by omega))).wr (lo_BR (by omega))).wr rfl).wr rfl).wr rfl), ?_, hLI.fr (((((((AG.rf _ _).wr (lo_LI (by omega))).wr (lo_LI (by omega))).wr (lo_LI (by omega))).wr rfl).wr rfl).wr rfl), hBA.f hnm (by omega) (by omega) (fun j _ => ((((((AG.rf _ _).wr (nd_BA (r := r + 1) (by omega))).wr (nd_BA (r := r + 2) (by omega))).wr (nd_BA (by omega))).wr rfl).wr rfl).wr rfl) rfl, hTA.fr (((((((AG.rf _ _).wr (lo_TA (by omega))).wr (lo_TA (by omega))).wr (lo_TA (by omega))).wr rfl).wr rfl).wr rfl), hNO.f (by omega) (by omega) (fun j _ => ((((((AG.rf _ _).wr (nd_NO (r := r + 1) (by omega))).wr (nd_NO (r := r + 2) (by omega))).wr (nd_NO (by omega))).wr rfl).wr rfl).wr rfl) rfl, hHA.fr (((((((AG.rf _ _).wr (lo_HA (by omega))).wr (lo_HA (by omega))).wr (lo_HA (by omega))).wr rfl).wr rfl).wr rfl), hRU.fr (((((((AG.rf _ _).wr (lo_RU (by omega))).wr (lo_RU (by omega))).wr (lo_RU (by omega))).wr rfl).wr rfl).wr rfl), hWA.fr (((((((AG.rf _ _).wr (lo_WA (by omega))).wr (lo_WA (by omega))).wr (lo_WA (by omega))).wr rfl).wr rfl).wr rfl), hSH.fr (((((((AG.rf _ _).wr (lo_SH (by omega))).wr (lo_SH (by omega))).wr (lo_SH (by omega))).wr rfl).wr rfl).wr rfl), hLA.fr hR.lw (((((((AG.rf _ _).wr (lo_LA (by omega))).wr (lo_LA (by omega))).wr (lo_LA (by omega))).wr rfl).wr rfl).wr rfl)⟩
              intro k hk
              by_cases z : k = i
              · subst z
                refine ⟨r, mv + 1, c, ?_⟩
                unfold MEM1
                refine ⟨⟨m1, m2, m3, m4, m5⟩, ⟨m6, m7, m8, m9⟩, ?_, ?_, ?_, ?_, ?_, ?_⟩
                · simp (disch := omega) only [sI_eq, sI_ne, sI_nk]
                  exact ⟨m10, m11, m12, m13, m14, m15⟩
                · simp (disch := omega) only [sI_eq, sI_ne, sI_nk]
                  exact Or.inl ⟨q1, q2⟩
                · refine ⟨by omega, ?_, ?_, ?_, ?_⟩ <;> simp (disch := omega) only [sI_eq, sI_ne, sI_nk, m20, m21]
                · intro j hj
                  by_cases y : j = mv
                  · subst y
                    rw [show 7 * k + j + 1 = 7 * k + (j + 1) from rfl]
                    refine ⟨?_, ?_, td, m15, by omega, ?_⟩ <;> simp (disch := omega) only [sI_eq, sI_ne]
                  · simp (disch := omega) only [sI_eq, sI_ne, sI_nk]
                    exact m22 j (by omega)
                · intro j hj
                  by_cases y : j = mv + 1
                  · subst y
                    exact ⟨b, hb, by simp (disch := omega) only [sI_eq, sI_ne]⟩
                  · simp (disch := omega) only [sI_eq, sI_ne, sI_nk]
                    exact m23 j (by omega)
                · simp (disch := omega) only [sI_eq, sI_ne, sI_nk]
                  exact m24
              · obtain ⟨r', mv', c', hm'⟩ := hME k hk
                exact ⟨r', mv', c', hm'.fr (LE.rf L) (fun _ _ => rfl) (by omega) (by omega) (((((((AG.rf _ _).wr (nd_ME (r := r + 1) (by omega))).wr (nd_ME (r := r + 2) (by omega))).wr (nd_ME (by omega))).wr (nr_ME (by omega) (by omega) (by omega))).wr (nr_ME (by omega) (by omega) (by omega))).wr (na_ME (by omega) (by omega))) rfl (fun _ _ _ _ => rfl)⟩
          · refine ops_of (v := -1000000003) (σ1 := σ) (σ2 := σ) ?_ ?_ h.iv
            · simp (disch := omega) only [f_X11_move, f_X2_hasLeft, f_X2_goTo, hR.r0_0, mAt_in hS hR em hnm hi, hB_in eb hnb hb, m1, q2, e401, e, hv, m18, nlt_l, hf, Option.bind_some, Option.elim_some, Option.elim_none, wi, x12_in, b3_z, ckb, ck0, ck1, putI, putR, putJ, not_true_eq_false, not_false_eq_true, if_true, if_false, and_self, and_true, true_and, one_ne0, zero_eq0, ite_self, sI_eq, sI_ne, sI_nk, sI_21, sI_22, sJ_21, sJ_1]
            · simp (disch := omega) only [f_X12_move, isM_in em' hnm hi, isBr_in eb' hnb hb, hR.r37_9, hR.r37_10, rI_nI hS.l43, rI_nI hS.l44, q1, m1m1, e', hv, m19, neq_l, show mv + 1 = 7 by omega, Option.bind_some, Option.elim_some, Option.elim_none, wi, x12_in, b3_z, ckb, ck0, ck1, putI, putR, putJ, not_true_eq_false, not_false_eq_true, if_true, if_false, and_self, and_true, true_and, one_ne0, zero_eq0, ite_self, sI_eq, sI_ne, sI_nk, sI_21, sI_22, sJ_21, sJ_1]
      · refine ops_of (v := -1000000002) (σ1 := σ) (σ2 := σ) ?_ ?_ h.iv
        · simp (disch := omega) only [f_X11_move, f_X2_hasLeft, hR.r0_0, mAt_in hS hR em hnm hi, hB_in eb hnb hb, m1, q2, nI401, e, Option.bind_some, Option.elim_some, Option.elim_none, wi, x12_in, b3_z, ckb, ck0, ck1, putI, putR, putJ, not_true_eq_false, not_false_eq_true, if_true, if_false, and_self, and_true, true_and, one_ne0, zero_eq0, ite_self, sI_eq, sI_ne, sI_nk, sI_21, sI_22, sJ_21, sJ_1]
        · simp (disch := omega) only [f_X12_move, isM_in em' hnm hi, isBr_in eb' hnb hb, hR.r37_9, rI_nI hS.l43, q1, nIm1, e', Option.bind_some, Option.elim_some, Option.elim_none, wi, x12_in, b3_z, ckb, ck0, ck1, putI, putR, putJ, not_true_eq_false, not_false_eq_true, if_true, if_false, and_self, and_true, true_and, one_ne0, zero_eq0, ite_self, sI_eq, sI_ne, sI_nk, sI_21, sI_22, sJ_21, sJ_1]
end
