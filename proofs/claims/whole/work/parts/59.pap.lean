/-! Papers; loops with an invariant -/
def OK {α : Type} (x : Option α) (Q : α → Prop) : Prop := ∃ a, x = some a ∧ Q a
theorem loopI {S R : Type} (F : Nat → S → Option R) (I : Nat → S → Prop) (Q : R → Prop) (n : Nat) (hs : ∀ i k s, i < n → I i s → (∃ s', F (k + 1) s = F k s' ∧ I (i + 1) s') ∨ OK (F (k + 1) s) Q) (he : ∀ k s, I n s → OK (F (k + 1) s) Q) : ∀ {K : Nat} {s : S}, n < K → I 0 s → OK (F K s) Q := by
  have h : ∀ j i K s, i + j = n → j < K → I i s → OK (F K s) Q := by
    intro j
    induction j with
    | zero =>
      intro i K s h1 h2 h3
      obtain ⟨K, rfl⟩ := Nat.exists_eq_add_one_of_ne_zero (Nat.ne_of_gt h2)
      obtain rfl : i = n := by omega
      exact he K s h3
    | succ j ih =>
      intro i K s h1 h2 h3
      obtain ⟨K, rfl⟩ := Nat.exists_eq_add_one_of_ne_zero (show K ≠ 0 by omega)
      rcases hs i K s (by omega) h3 with ⟨s', e, q⟩ | q
      · rw [e]
        exact ih (i + 1) K s' (by omega) (by omega) q
      · exact q
  intro K s h1 h2
  exact h n 0 K s (by omega) h1 h2
theorem in39 {i : Nat} (h : i < 40) : 0 ≤ nI i ∧ nI i ≤ 39 := ⟨nI_pos' (by omega), nI_le (b := 39) (by omega) (by omega)⟩
theorem add1_comm (a b : Int32) : a + 1 + b = a + b + 1 := by rw [Int32.add_assoc, Int32.add_comm 1, ← Int32.add_assoc]
theorem cps_succ (σ : Sto) (j n : Nat) : cps σ j (n + 1) = cps σ j n + b3 (¬ σ.1 52 (40 * j + n) = -1) := rfl
theorem cps_upd {σ σ' : Sto} {j i : Nat} (h0 : σ.1 52 (40 * j + i) = -1) (h1 : ¬ σ'.1 52 (40 * j + i) = -1) (h2 : ∀ m, m ≠ i → σ'.1 52 (40 * j + m) = σ.1 52 (40 * j + m)) : ∀ n, i < n → cps σ' j n = cps σ j n + 1
  | 0, h => absurd h (by omega)
  | n + 1, h => by
    rw [cps_succ, cps_succ]
    by_cases e : i = n
    · subst e
      rw [b3_t h1, b3_f (p := ¬ σ.1 52 (40 * j + i) = -1) (fun z => z h0), cps_congr (σ := σ) (fun m hm => by rw [h2 m (by omega)]), Int32.add_zero]
    · rw [cps_upd h0 h1 h2 n (by omega), h2 n (by omega), add1_comm]
section
variable {nb nm nl nB nN td nt nw lw : Nat} {w : Nat → Nat} {L : Lay} {σ : Sto}
theorem x12_papers (hS : SF L) (hR : RF lw σ.2.1) {j : Nat} (hj : j < 12) (em' : σ.1 37 4 = nI nm) (hnm : nm ≤ 40) : f_X12_papers L σ 37 (nI j) = some (cps σ j nm) := by
  unfold f_X12_papers
  refine loop (F := fun k q => f_X12_papers_4 k L σ 37 (nI j) q.1 q.2) (s := fun m => (cps σ j m, nI m)) nm _ ?_ ?_ (FU_lt (by omega))
  · intro m K hm
    show f_X12_papers_4 (K + 1) L σ 37 (nI j) (cps σ j m) (nI m) = f_X12_papers_4 K L σ 37 (nI j) (cps σ j (m + 1)) (nI (m + 1))
    simp (disch := omega) only [f_X12_papers_4, f_X12_papers_33, em', nI_leI, show ¬ nm ≤ m by omega, hR.r37_20, rI_nI hS.l52, mul_lit, nI_add, nI_1, cps_succ, Option.bind_some, Option.elim_some, Option.elim_none, wi, x12_in, b3_z, ckb, ck0, ck1, putI, putR, putJ, not_true_eq_false, not_false_eq_true, if_true, if_false, and_self, and_true, true_and, one_ne0, zero_eq0, ite_self, sI_eq, sI_ne, sI_nk, sI_21, sI_22, sJ_21, sJ_1]
    by_cases q : σ.1 52 (40 * j + m) = -1
    · rw [if_pos q, b3_f (p := ¬ σ.1 52 (40 * j + m) = -1) (fun z => z q)]
    · rw [if_neg q, b3_t q]
  · intro K
    show f_X12_papers_4 (K + 1) L σ 37 (nI j) (cps σ j nm) (nI nm) = _
    simp (disch := omega) only [f_X12_papers_4, em', nI_leI, Nat.le_refl, Option.bind_some, Option.elim_some, Option.elim_none, wi, x12_in, b3_z, ckb, ck0, ck1, putI, putR, putJ, not_true_eq_false, not_false_eq_true, if_true, if_false, and_self, and_true, true_and, one_ne0, zero_eq0, ite_self, sI_eq, sI_ne, sI_nk, sI_21, sI_22, sJ_21, sJ_1]
theorem op_close (h : INVP nb nm nl nB nN td nt nw lw w L σ) (x : Int32) : OPs L (f_X11_close L σ 0 x) (fun σ1 => f_X12_close L σ1 37 x) := by
  have hN := h.hN
  obtain ⟨hS, hR, ⟨⟨hnb, hnm, hnl, hnB, hnN, htd, hnt, hnw⟩, ⟨eb, eb'⟩, ⟨em, em'⟩, ⟨el, el'⟩, ⟨eB, eB'⟩, ⟨eN, eN'⟩, ⟨et, et'⟩, ⟨ep, ep'⟩, ew, ew'⟩, hBR, hME, hLI, hBA, hTA, hNO, hHA, hRU, hWA, hSH, hLA⟩ := id h
  rcases ixc x nB (by omega) with hx | ⟨j, hj, rfl⟩
  · refine ops_of (v := -1000000001) (σ1 := σ) (σ2 := σ) ?_ ?_ h.iv
    · simp only [f_X11_close, bAt_out eB hnB hx, Option.bind_some, Option.elim_some, Option.elim_none, wi, x12_in, b3_z, ckb, ck0, ck1, putI, putR, putJ, not_true_eq_false, not_false_eq_true, if_true, if_false, and_self, and_true, true_and, one_ne0, zero_eq0, ite_self, sI_eq, sI_ne, sI_nk, sI_21, sI_22, sJ_21, sJ_1]
    · simp only [f_X12_close, isBa_out eB' hnB hx, Option.bind_some, Option.elim_some, Option.elim_none, wi, x12_in, b3_z, ckb, ck0, ck1, putI, putR, putJ, not_true_eq_false, not_false_eq_true, if_true, if_false, and_self, and_true, true_and, one_ne0, zero_eq0, ite_self, sI_eq, sI_ne, sI_nk, sI_21, sI_22, sJ_21, sJ_1]
  · obtain ⟨r, o, hb⟩ := hBA j hj
    obtain ⟨⟨b1, b2, b3, b4, b5, b6⟩, ⟨b7, b8, b9, b10⟩, ⟨b11, b12, b13⟩, ⟨b14, b15, b17, b18, b19⟩, b20, b21, b22⟩ := id hb
    rcases b20 with ⟨q1, q2⟩ | ⟨d, q0, q0', q1, q2⟩
    · refine ops_of (v := cps σ j nm) (σ1 := sI σ (r + 80) 3 (nI td)) (σ2 := sI (sI σ (r + 80) 3 (nI td)) 51 j (nI td)) ?_ ?_ ?_
      · simp (disch := omega) only [f_X11_close, f_X0_hasClosed, hR.r0_0, bAt_in hS hR eB hnB hj, b1, q2, e401, et, b21, Option.bind_some, Option.elim_some, Option.elim_none, wi, x12_in, b3_z, ckb, ck0, ck1, putI, putR, putJ, not_true_eq_false, not_false_eq_true, if_true, if_false, and_self, and_true, true_and, one_ne0, zero_eq0, ite_self, sI_eq, sI_ne, sI_nk, sI_21, sI_22, sJ_21, sJ_1]
      · have e : f_X12_papers L (sI (sI σ (r + 80) 3 (nI td)) 51 j (nI td)) 37 (nI j) = some (cps σ j nm) := by
          refine (x12_papers (lw := lw) (σ := sI (sI σ (r + 80) 3 (nI td)) 51 j (nI td)) (nm := nm) hS hR (show j < 12 by omega) ?_ hnm).trans (congrArg some (cps_congr (fun m hm => ?_)))
          · simp (disch := omega) only [sI_ne, em']
          · simp (disch := omega) only [sI_ne]
        simp (disch := omega) only [f_X12_close, isBa_in (show (sI σ (r + 80) 3 (nI td)).1 37 16 = nI nB by simp (disch := omega) only [sI_ne, eB']) hnB hj, hR.r37_19, rI_nI hS.l51, wI_nI hS.l51, q1, m1m1, e, et', Option.bind_some, Option.elim_some, Option.elim_none, wi, x12_in, b3_z, ckb, ck0, ck1, putI, putR, putJ, not_true_eq_false, not_false_eq_true, if_true, if_false, and_self, and_true, true_and, one_ne0, zero_eq0, ite_self, sI_eq, sI_ne, sI_nk, sI_21, sI_22, sJ_21, sJ_1]
      · refine ⟨nb, nm, nl, nB, nN, td, nt, nw, lw, w, hS, hR, hN.fr (((AG.rf _ _).wr (lo_N (by omega))).wr rfl), hBR.fr (((AG.rf _ _).wr (lo_BR (by omega))).wr rfl), hME.f (by omega) (by omega) (fun k hk => ((AG.rf _ _).wr (nd_ME (by omega))).wr rfl) rfl, hLI.fr (((AG.rf _ _).wr (lo_LI (by omega))).wr rfl), ?_, hTA.fr (((AG.rf _ _).wr (lo_TA (by omega))).wr rfl), hNO.f (by omega) (by omega) (fun k _ => ((AG.rf _ _).wr (nd_NO (by omega))).wr rfl) rfl, hHA.fr (((AG.rf _ _).wr (lo_HA (by omega))).wr rfl), hRU.fr (((AG.rf _ _).wr (lo_RU (by omega))).wr rfl), hWA.fr (((AG.rf _ _).wr (lo_WA (by omega))).wr rfl), hSH.fr (((AG.rf _ _).wr (lo_SH (by omega))).wr rfl), hLA.fr hR.lw (((AG.rf _ _).wr (lo_LA (by omega))).wr rfl)⟩
        intro k hk
        by_cases z : k = j
        · subst z
          refine ⟨r, o, ⟨b1, b2, b3, b4, b5, b6⟩, ⟨b7, b8, b9, b10⟩, ⟨b11, b12, b13⟩, ?_, ?_, ?_, ?_⟩
          · simp (disch := omega) only [sI_ne, sI_nk]
            exact ⟨b14, b15, b17, b18, b19⟩
          · simp (disch := omega) only [sI_eq, sI_ne, sI_nk]
            exact Or.inr ⟨td, b19, by omega, rfl, rfl⟩
          · simp (disch := omega) only [sI_ne, sI_nk]
            rw [b21]
            exact (cps_congr (fun m hm => by simp (disch := omega) only [sI_ne])).symm
          · intro m hm
            refine (b22 m hm).fr (by omega) (by omega) ?_ ?_ ?_ ?_ ?_ ?_ <;> simp (disch := omega) only [sI_ne]
        · obtain ⟨r', o', hb'⟩ := hBA k hk
          exact ⟨r', o', hb'.fr hnm (LE.rf L) (fun _ _ => rfl) (by omega) (by omega) (((AG.rf _ _).wr (nd_BA (by omega))).wr (na_BA (by omega) (by omega))) rfl (fun _ _ _ _ => rfl)⟩
    · refine ops_of (v := -1000000002) (σ1 := σ) (σ2 := σ) ?_ ?_ h.iv
      · simp (disch := omega) only [f_X11_close, f_X0_hasClosed, bAt_in hS hR eB hnB hj, b1, q2, nI401, Option.bind_some, Option.elim_some, Option.elim_none, wi, x12_in, b3_z, ckb, ck0, ck1, putI, putR, putJ, not_true_eq_false, not_false_eq_true, if_true, if_false, and_self, and_true, true_and, one_ne0, zero_eq0, ite_self, sI_eq, sI_ne, sI_nk, sI_21, sI_22, sJ_21, sJ_1]
      · simp (disch := omega) only [f_X12_close, isBa_in eB' hnB hj, hR.r37_19, rI_nI hS.l51, q1, nIm1, Option.bind_some, Option.elim_some, Option.elim_none, wi, x12_in, b3_z, ckb, ck0, ck1, putI, putR, putJ, not_true_eq_false, not_false_eq_true, if_true, if_false, and_self, and_true, true_and, one_ne0, zero_eq0, ite_self, sI_eq, sI_ne, sI_nk, sI_21, sI_22, sJ_21, sJ_1]
theorem op_send (h : INVP nb nm nl nB nN td nt nw lw w L σ) (x y : Int32) : OPs L (f_X11_send L σ 0 x y) (fun σ1 => f_X12_send L σ1 37 x y) := by
  have hN := h.hN
  obtain ⟨hS, hR, ⟨⟨hnb, hnm, hnl, hnB, hnN, htd, hnt, hnw⟩, ⟨eb, eb'⟩, ⟨em, em'⟩, ⟨el, el'⟩, ⟨eB, eB'⟩, ⟨eN, eN'⟩, ⟨et, et'⟩, ⟨ep, ep'⟩, ew, ew'⟩, hBR, hME, hLI, hBA, hTA, hNO, hHA, hRU, hWA, hSH, hLA⟩ := id h
  rcases ixc x nB (by omega) with hx | ⟨j, hj, rfl⟩
  · refine ops_of (v := -1000000001) (σ1 := σ) (σ2 := σ) ?_ ?_ h.iv
    · simp only [f_X11_send, bAt_out eB hnB hx, Option.bind_some, Option.elim_some, Option.elim_none, wi, x12_in, b3_z, ckb, ck0, ck1, putI, putR, putJ, not_true_eq_false, not_false_eq_true, if_true, if_false, and_self, and_true, true_and, one_ne0, zero_eq0, ite_self, sI_eq, sI_ne, sI_nk, sI_21, sI_22, sJ_21, sJ_1]
    · simp only [f_X12_send, isBa_out eB' hnB hx, Option.bind_some, Option.elim_some, Option.elim_none, wi, x12_in, b3_z, ckb, ck0, ck1, putI, putR, putJ, not_true_eq_false, not_false_eq_true, if_true, if_false, and_self, and_true, true_and, one_ne0, zero_eq0, ite_self, sI_eq, sI_ne, sI_nk, sI_21, sI_22, sJ_21, sJ_1]
  · obtain ⟨r, o, hb⟩ := hBA j hj
    obtain ⟨⟨b1, b2, b3, b4, b5, b6⟩, ⟨b7, b8, b9, b10⟩, ⟨b11, b12, b13⟩, ⟨b14, b15, b17, b18, b19⟩, b20, b21, b22⟩ := id hb
    rcases ixc y nm (by omega) with hy | ⟨i, hi, rfl⟩
    · refine ops_of (v := -1000000001) (σ1 := σ) (σ2 := σ) ?_ ?_ h.iv
      · simp only [f_X11_send, hR.r0_0, bAt_in hS hR eB hnB hj, b1, mAt_out em hnm hy, Option.bind_some, Option.elim_some, Option.elim_none, wi, x12_in, b3_z, ckb, ck0, ck1, putI, putR, putJ, not_true_eq_false, not_false_eq_true, if_true, if_false, and_self, and_true, true_and, one_ne0, zero_eq0, ite_self, sI_eq, sI_ne, sI_nk, sI_21, sI_22, sJ_21, sJ_1]
      · simp only [f_X12_send, isBa_in eB' hnB hj, isM_out em' hnm hy, Option.bind_some, Option.elim_some, Option.elim_none, wi, x12_in, b3_z, ckb, ck0, ck1, putI, putR, putJ, not_true_eq_false, not_false_eq_true, if_true, if_false, and_self, and_true, true_and, one_ne0, zero_eq0, ite_self, sI_eq, sI_ne, sI_nk, sI_21, sI_22, sJ_21, sJ_1]
    · obtain ⟨ri, mv, c, ⟨m1, -⟩, -⟩ := hME i hi
      have h39 := in39 (show i < 40 by omega)
      rcases b20 with ⟨q1, q2⟩ | ⟨d, q0, q0', q1, q2⟩
      · rcases b22 i (by omega) with ⟨p1, p2, p3, p4⟩ | ⟨p0, d, p1, p2, p3, p4, p5⟩
        · have ep : cps (sI (sI (sI σ (r + 81) i (nI td)) (r + 80) 4 (cps σ j nm + 1)) 52 (40 * j + i) (nI td)) j nm = cps σ j nm + 1 := by
            refine cps_upd p1 ?_ ?_ nm hi
            · rw [sI_eq]; exact nI_nneg (by omega) (by decide)
            · intro m hm; simp (disch := omega) only [sI_ne, sI_nk]
          refine ops_of (v := cps σ j nm + 1) (σ1 := sI (sI σ (r + 81) i (nI td)) (r + 80) 4 (cps σ j nm + 1)) (σ2 := sI (sI (sI σ (r + 81) i (nI td)) (r + 80) 4 (cps σ j nm + 1)) 52 (40 * j + i) (nI td)) ?_ ?_ ?_
          · simp (disch := omega) only [f_X11_send, f_X0_hasClosed, f_X0_hasSent, f_X0_post, hR.r0_0, bAt_in hS hR eB hnB hj, mAt_in hS hR em hnm hi, b1, m1, q2, e401, h39, b7, b8, rI_nI b11, wI_nI b11, p2, et, b21, Option.bind_some, Option.elim_some, Option.elim_none, wi, x12_in, b3_z, ckb, ck0, ck1, putI, putR, putJ, not_true_eq_false, not_false_eq_true, if_true, if_false, and_self, and_true, true_and, one_ne0, zero_eq0, ite_self, sI_eq, sI_ne, sI_nk, sI_21, sI_22, sJ_21, sJ_1]
          · have e := (x12_papers (lw := lw) (σ := sI (sI (sI σ (r + 81) i (nI td)) (r + 80) 4 (cps σ j nm + 1)) 52 (40 * j + i) (nI td)) (nm := nm) hS hR (show j < 12 by omega) (by simp (disch := omega) only [sI_ne, em']) hnm).trans (congrArg some ep)
            simp (disch := omega) only [f_X12_send, isBa_in (show (sI (sI σ (r + 81) i (nI td)) (r + 80) 4 (cps σ j nm + 1)).1 37 16 = nI nB by simp (disch := omega) only [sI_ne, eB']) hnB hj, isM_in (show (sI (sI σ (r + 81) i (nI td)) (r + 80) 4 (cps σ j nm + 1)).1 37 4 = nI nm by simp (disch := omega) only [sI_ne, em']) hnm hi, hR.r37_19, hR.r37_20, rI_nI hS.l51, rI_nI hS.l52, wI_nI hS.l52, mul_lit, nI_add, q1, p1, m1m1, e, et', Option.bind_some, Option.elim_some, Option.elim_none, wi, x12_in, b3_z, ckb, ck0, ck1, putI, putR, putJ, not_true_eq_false, not_false_eq_true, if_true, if_false, and_self, and_true, true_and, one_ne0, zero_eq0, ite_self, sI_eq, sI_ne, sI_nk, sI_21, sI_22, sJ_21, sJ_1]
          · refine ⟨nb, nm, nl, nB, nN, td, nt, nw, lw, w, hS, hR, hN.fr ((((AG.rf _ _).wr (lo_N (by omega))).wr (lo_N (by omega))).wr rfl), hBR.fr ((((AG.rf _ _).wr (lo_BR (by omega))).wr (lo_BR (by omega))).wr rfl), hME.f (by omega) (by omega) (fun k hk => (((AG.rf _ _).wr (nd_ME (r := r + 1) (by omega))).wr (nd_ME (by omega))).wr rfl) rfl, hLI.fr ((((AG.rf _ _).wr (lo_LI (by omega))).wr (lo_LI (by omega))).wr rfl), ?_, hTA.fr ((((AG.rf _ _).wr (lo_TA (by omega))).wr (lo_TA (by omega))).wr rfl), hNO.f (by omega) (by omega) (fun k _ => (((AG.rf _ _).wr (nd_NO (r := r + 1) (by omega))).wr (nd_NO (by omega))).wr rfl) rfl, hHA.fr ((((AG.rf _ _).wr (lo_HA (by omega))).wr (lo_HA (by omega))).wr rfl), hRU.fr ((((AG.rf _ _).wr (lo_RU (by omega))).wr (lo_RU (by omega))).wr rfl), hWA.fr ((((AG.rf _ _).wr (lo_WA (by omega))).wr (lo_WA (by omega))).wr rfl), hSH.fr ((((AG.rf _ _).wr (lo_SH (by omega))).wr (lo_SH (by omega))).wr rfl), hLA.fr hR.lw ((((AG.rf _ _).wr (lo_LA (by omega))).wr (lo_LA (by omega))).wr rfl)⟩
            intro k hk
            by_cases z : k = j
            · subst z
              refine ⟨r, o, ⟨b1, b2, b3, b4, b5, b6⟩, ⟨b7, b8, b9, b10⟩, ⟨b11, b12, b13⟩, ?_, ?_, ?_, ?_⟩
              · simp (disch := omega) only [sI_ne, sI_nk]
                exact ⟨b14, b15, b17, b18, b19⟩
              · simp (disch := omega) only [sI_ne, sI_nk]
                exact Or.inl ⟨q1, q2⟩
              · rw [ep]
                simp (disch := omega) only [sI_eq, sI_ne, sI_nk]
              · intro m hm
                by_cases y : m = i
                · subst y
                  refine Or.inr ⟨hi, td, b19, by omega, ?_, ?_, Or.inl ⟨?_, ?_⟩⟩ <;> simp (disch := omega) only [sI_eq, sI_ne, sI_nk, p3, p4]
                · refine (b22 m hm).fr (by omega) (by omega) ?_ ?_ ?_ ?_ ?_ ?_ <;> simp (disch := omega) only [sI_ne, sI_nk]
            · obtain ⟨r', o', hb'⟩ := hBA k hk
              exact ⟨r', o', hb'.fr hnm (LE.rf L) (fun _ _ => rfl) (by omega) (by omega) ((((AG.rf _ _).wr (nd_BA (r := r + 1) (by omega))).wr (nd_BA (by omega))).wr (nr_BA (by omega) (by omega) (by omega))) rfl (fun _ _ _ _ => rfl)⟩
        · refine ops_of (v := -1000000002) (σ1 := σ) (σ2 := σ) ?_ ?_ h.iv
          · simp (disch := omega) only [f_X11_send, f_X0_hasClosed, f_X0_hasSent, hR.r0_0, bAt_in hS hR eB hnB hj, mAt_in hS hR em hnm hi, b1, m1, q2, e401, h39, b8, rI_nI b11, p4, nI401, Option.bind_some, Option.elim_some, Option.elim_none, wi, x12_in, b3_z, ckb, ck0, ck1, putI, putR, putJ, not_true_eq_false, not_false_eq_true, if_true, if_false, and_self, and_true, true_and, one_ne0, zero_eq0, ite_self, sI_eq, sI_ne, sI_nk, sI_21, sI_22, sJ_21, sJ_1]
          · simp (disch := omega) only [f_X12_send, isBa_in eB' hnB hj, isM_in em' hnm hi, hR.r37_19, hR.r37_20, rI_nI hS.l51, rI_nI hS.l52, mul_lit, nI_add, q1, p3, m1m1, nIm1, Option.bind_some, Option.elim_some, Option.elim_none, wi, x12_in, b3_z, ckb, ck0, ck1, putI, putR, putJ, not_true_eq_false, not_false_eq_true, if_true, if_false, and_self, and_true, true_and, one_ne0, zero_eq0, ite_self, sI_eq, sI_ne, sI_nk, sI_21, sI_22, sJ_21, sJ_1]
      · refine ops_of (v := -1000000002) (σ1 := σ) (σ2 := σ) ?_ ?_ h.iv
        · simp (disch := omega) only [f_X11_send, f_X0_hasClosed, hR.r0_0, bAt_in hS hR eB hnB hj, mAt_in hS hR em hnm hi, b1, m1, q2, nI401, Option.bind_some, Option.elim_some, Option.elim_none, wi, x12_in, b3_z, ckb, ck0, ck1, putI, putR, putJ, not_true_eq_false, not_false_eq_true, if_true, if_false, and_self, and_true, true_and, one_ne0, zero_eq0, ite_self, sI_eq, sI_ne, sI_nk, sI_21, sI_22, sJ_21, sJ_1]
        · simp (disch := omega) only [f_X12_send, isBa_in eB' hnB hj, isM_in em' hnm hi, hR.r37_19, rI_nI hS.l51, q1, nIm1, Option.bind_some, Option.elim_some, Option.elim_none, wi, x12_in, b3_z, ckb, ck0, ck1, putI, putR, putJ, not_true_eq_false, not_false_eq_true, if_true, if_false, and_self, and_true, true_and, one_ne0, zero_eq0, ite_self, sI_eq, sI_ne, sI_nk, sI_21, sI_22, sJ_21, sJ_1]
theorem op_back (h : INVP nb nm nl nB nN td nt nw lw w L σ) (x y z : Int32) : OPs L (f_X11_back L σ 0 x y z) (fun σ1 => f_X12_back L σ1 37 x y z) := by
  have hN := h.hN
  obtain ⟨hS, hR, ⟨⟨hnb, hnm, hnl, hnB, hnN, htd, hnt, hnw⟩, ⟨eb, eb'⟩, ⟨em, em'⟩, ⟨el, el'⟩, ⟨eB, eB'⟩, ⟨eN, eN'⟩, ⟨et, et'⟩, ⟨ep, ep'⟩, ew, ew'⟩, hBR, hME, hLI, hBA, hTA, hNO, hHA, hRU, hWA, hSH, hLA⟩ := id h
  rcases ixc x nB (by omega) with hx | ⟨j, hj, rfl⟩
  · refine ops_of (v := -1000000001) (σ1 := σ) (σ2 := σ) ?_ ?_ h.iv
    · simp only [f_X11_back, bAt_out eB hnB hx, Option.bind_some, Option.elim_some, Option.elim_none, wi, x12_in, b3_z, ckb, ck0, ck1, putI, putR, putJ, not_true_eq_false, not_false_eq_true, if_true, if_false, and_self, and_true, true_and, one_ne0, zero_eq0, ite_self, sI_eq, sI_ne, sI_nk, sI_21, sI_22, sJ_21, sJ_1]
    · simp only [f_X12_back, isBa_out eB' hnB hx, Option.bind_some, Option.elim_some, Option.elim_none, wi, x12_in, b3_z, ckb, ck0, ck1, putI, putR, putJ, not_true_eq_false, not_false_eq_true, if_true, if_false, and_self, and_true, true_and, one_ne0, zero_eq0, ite_self, sI_eq, sI_ne, sI_nk, sI_21, sI_22, sJ_21, sJ_1]
  · obtain ⟨r, o, hb⟩ := hBA j hj
    obtain ⟨⟨b1, b2, b3, b4, b5, b6⟩, ⟨b7, b8, b9, b10⟩, ⟨b11, b12, b13⟩, ⟨b14, b15, b17, b18, b19⟩, b20, b21, b22⟩ := id hb
    rcases ixc y nm (by omega) with hy | ⟨i, hi, rfl⟩
    · refine ops_of (v := -1000000001) (σ1 := σ) (σ2 := σ) ?_ ?_ h.iv
      · simp only [f_X11_back, hR.r0_0, bAt_in hS hR eB hnB hj, b1, mAt_out em hnm hy, Option.bind_some, Option.elim_some, Option.elim_none, wi, x12_in, b3_z, ckb, ck0, ck1, putI, putR, putJ, not_true_eq_false, not_false_eq_true, if_true, if_false, and_self, and_true, true_and, one_ne0, zero_eq0, ite_self, sI_eq, sI_ne, sI_nk, sI_21, sI_22, sJ_21, sJ_1]
      · simp only [f_X12_back, isBa_in eB' hnB hj, isM_out em' hnm hy, Option.bind_some, Option.elim_some, Option.elim_none, wi, x12_in, b3_z, ckb, ck0, ck1, putI, putR, putJ, not_true_eq_false, not_false_eq_true, if_true, if_false, and_self, and_true, true_and, one_ne0, zero_eq0, ite_self, sI_eq, sI_ne, sI_nk, sI_21, sI_22, sJ_21, sJ_1]
    · obtain ⟨ri, mv, c, ⟨m1, -⟩, -⟩ := hME i hi
      have h39 := in39 (show i < 40 by omega)
      by_cases hz : 0 ≤ z ∧ z ≤ 3
      · have hz0 := hz
        obtain ⟨g, hg, rfl⟩ := of_le (n := 3) hz (by omega)
        rcases b20 with ⟨q1, q2⟩ | ⟨d, q0, q0', q1, q2⟩
        · rcases b22 i (by omega) with ⟨p1, p2, p3, p4⟩ | ⟨p0, d, p1, p2, p3, p4, ⟨p5, p6⟩ | ⟨g', e', p5, p6, p7, p8, p9, p10, p11⟩⟩
          · refine ops_of (v := -1000000002) (σ1 := σ) (σ2 := σ) ?_ ?_ h.iv
            · simp (disch := omega) only [f_X11_back, f_X0_hasClosed, f_X0_hasSent, hR.r0_0, bAt_in hS hR eB hnB hj, mAt_in hS hR em hnm hi, b1, m1, q2, e401, h39, hz0, b8, rI_nI b11, p2, Option.bind_some, Option.elim_some, Option.elim_none, wi, x12_in, b3_z, ckb, ck0, ck1, putI, putR, putJ, not_true_eq_false, not_false_eq_true, if_true, if_false, and_self, and_true, true_and, one_ne0, zero_eq0, ite_self, sI_eq, sI_ne, sI_nk, sI_21, sI_22, sJ_21, sJ_1]
            · simp (disch := omega) only [f_X12_back, isBa_in eB' hnB hj, isM_in em' hnm hi, hR.r37_19, hR.r37_20, rI_nI hS.l51, rI_nI hS.l52, hz0, mul_lit, nI_add, q1, p1, m1m1, Option.bind_some, Option.elim_some, Option.elim_none, wi, x12_in, b3_z, ckb, ck0, ck1, putI, putR, putJ, not_true_eq_false, not_false_eq_true, if_true, if_false, and_self, and_true, true_and, one_ne0, zero_eq0, ite_self, sI_eq, sI_ne, sI_nk, sI_21, sI_22, sJ_21, sJ_1]
          · refine ops_of (v := 1) (σ1 := sI (sI σ (r + 82) i (nI td)) (r + 83) i (nI g)) (σ2 := sI (sI (sI (sI σ (r + 82) i (nI td)) (r + 83) i (nI g)) 53 (40 * j + i) (nI g)) 54 (40 * j + i) (nI td)) ?_ ?_ ?_
            · simp (disch := omega) only [f_X11_back, f_X0_hasClosed, f_X0_hasSent, f_X0_hasHeard, f_X0_hear, hR.r0_0, bAt_in hS hR eB hnB hj, mAt_in hS hR em hnm hi, b1, m1, q2, e401, h39, hz0, b7, b8, b9, b10, rI_nI b11, rI_nI b12, wI_nI b12, wI_nI b13, p4, p6, nI401, et, Option.bind_some, Option.elim_some, Option.elim_none, wi, x12_in, b3_z, ckb, ck0, ck1, putI, putR, putJ, not_true_eq_false, not_false_eq_true, if_true, if_false, and_self, and_true, true_and, one_ne0, zero_eq0, ite_self, sI_eq, sI_ne, sI_nk, sI_21, sI_22, sJ_21, sJ_1]
            · simp (disch := omega) only [f_X12_back, isBa_in (show (sI (sI σ (r + 82) i (nI td)) (r + 83) i (nI g)).1 37 16 = nI nB by simp (disch := omega) only [sI_ne, eB']) hnB hj, isM_in (show (sI (sI σ (r + 82) i (nI td)) (r + 83) i (nI g)).1 37 4 = nI nm by simp (disch := omega) only [sI_ne, em']) hnm hi, hR.r37_19, hR.r37_20, hR.r37_21, hR.r37_22, rI_nI hS.l51, rI_nI hS.l52, rI_nI hS.l53, wI_nI hS.l53, wI_nI hS.l54, hz0, mul_lit, nI_add, q1, p3, p5, m1m1, nIm1, et', Option.bind_some, Option.elim_some, Option.elim_none, wi, x12_in, b3_z, ckb, ck0, ck1, putI, putR, putJ, not_true_eq_false, not_false_eq_true, if_true, if_false, and_self, and_true, true_and, one_ne0, zero_eq0, ite_self, sI_eq, sI_ne, sI_nk, sI_21, sI_22, sJ_21, sJ_1]
            · refine ⟨nb, nm, nl, nB, nN, td, nt, nw, lw, w, hS, hR, hN.fr (((((AG.rf _ _).wr (lo_N (by omega))).wr (lo_N (by omega))).wr rfl).wr rfl), hBR.fr (((((AG.rf _ _).wr (lo_BR (by omega))).wr (lo_BR (by omega))).wr rfl).wr rfl), hME.f (by omega) (by omega) (fun k hk => ((((AG.rf _ _).wr (nd_ME (r := r + 2) (by omega))).wr (nd_ME (r := r + 3) (by omega))).wr rfl).wr rfl) rfl, hLI.fr (((((AG.rf _ _).wr (lo_LI (by omega))).wr (lo_LI (by omega))).wr rfl).wr rfl), ?_, hTA.fr (((((AG.rf _ _).wr (lo_TA (by omega))).wr (lo_TA (by omega))).wr rfl).wr rfl), hNO.f (by omega) (by omega) (fun k _ => ((((AG.rf _ _).wr (nd_NO (r := r + 2) (by omega))).wr (nd_NO (r := r + 3) (by omega))).wr rfl).wr rfl) rfl, hHA.fr (((((AG.rf _ _).wr (lo_HA (by omega))).wr (lo_HA (by omega))).wr rfl).wr rfl), hRU.fr (((((AG.rf _ _).wr (lo_RU (by omega))).wr (lo_RU (by omega))).wr rfl).wr rfl), hWA.fr (((((AG.rf _ _).wr (lo_WA (by omega))).wr (lo_WA (by omega))).wr rfl).wr rfl), hSH.fr (((((AG.rf _ _).wr (lo_SH (by omega))).wr (lo_SH (by omega))).wr rfl).wr rfl), hLA.fr hR.lw (((((AG.rf _ _).wr (lo_LA (by omega))).wr (lo_LA (by omega))).wr rfl).wr rfl)⟩
              intro k hk
              by_cases z : k = j
              · subst z
                refine ⟨r, o, ⟨b1, b2, b3, b4, b5, b6⟩, ⟨b7, b8, b9, b10⟩, ⟨b11, b12, b13⟩, ?_, ?_, ?_, ?_⟩
                · simp (disch := omega) only [sI_ne, sI_nk]
                  exact ⟨b14, b15, b17, b18, b19⟩
                · simp (disch := omega) only [sI_ne, sI_nk]
                  exact Or.inl ⟨q1, q2⟩
                · simp (disch := omega) only [sI_ne, sI_nk]
                  rw [b21]
                  exact (cps_congr (fun m hm => by simp (disch := omega) only [sI_ne])).symm
                · intro m hm
                  by_cases y : m = i
                  · subst y
                    refine Or.inr ⟨hi, d, p1, p2, ?_, ?_, Or.inr ⟨g, td, hg, p2, by omega, ?_, ?_, ?_, ?_⟩⟩ <;> simp (disch := omega) only [sI_eq, sI_ne, sI_nk, p3, p4]
                  · refine (b22 m hm).fr (by omega) (by omega) ?_ ?_ ?_ ?_ ?_ ?_ <;> simp (disch := omega) only [sI_ne, sI_nk]
              · obtain ⟨r', o', hb'⟩ := hBA k hk
                exact ⟨r', o', hb'.fr hnm (LE.rf L) (fun _ _ => rfl) (by omega) (by omega) (((((AG.rf _ _).wr (nd_BA (r := r + 2) (by omega))).wr (nd_BA (r := r + 3) (by omega))).wr (nr_BA (by omega) (by omega) (by omega))).wr (nr_BA (by omega) (by omega) (by omega))) rfl (fun _ _ _ _ => rfl)⟩
          · refine ops_of (v := -1000000002) (σ1 := σ) (σ2 := σ) ?_ ?_ h.iv
            · simp (disch := omega) only [f_X11_back, f_X0_hasClosed, f_X0_hasSent, f_X0_hasHeard, hR.r0_0, bAt_in hS hR eB hnB hj, mAt_in hS hR em hnm hi, b1, m1, q2, e401, h39, hz0, b8, b9, rI_nI b11, rI_nI b12, p4, p11, nI401, Option.bind_some, Option.elim_some, Option.elim_none, wi, x12_in, b3_z, ckb, ck0, ck1, putI, putR, putJ, not_true_eq_false, not_false_eq_true, if_true, if_false, and_self, and_true, true_and, one_ne0, zero_eq0, ite_self, sI_eq, sI_ne, sI_nk, sI_21, sI_22, sJ_21, sJ_1]
            · simp (disch := omega) only [f_X12_back, isBa_in eB' hnB hj, isM_in em' hnm hi, hR.r37_19, hR.r37_20, hR.r37_21, rI_nI hS.l51, rI_nI hS.l52, rI_nI hS.l53, hz0, mul_lit, nI_add, q1, p3, p8, m1m1, nIm1, Option.bind_some, Option.elim_some, Option.elim_none, wi, x12_in, b3_z, ckb, ck0, ck1, putI, putR, putJ, not_true_eq_false, not_false_eq_true, if_true, if_false, and_self, and_true, true_and, one_ne0, zero_eq0, ite_self, sI_eq, sI_ne, sI_nk, sI_21, sI_22, sJ_21, sJ_1]
        · refine ops_of (v := -1000000002) (σ1 := σ) (σ2 := σ) ?_ ?_ h.iv
          · simp (disch := omega) only [f_X11_back, f_X0_hasClosed, hR.r0_0, bAt_in hS hR eB hnB hj, mAt_in hS hR em hnm hi, b1, m1, hz0, q2, nI401, Option.bind_some, Option.elim_some, Option.elim_none, wi, x12_in, b3_z, ckb, ck0, ck1, putI, putR, putJ, not_true_eq_false, not_false_eq_true, if_true, if_false, and_self, and_true, true_and, one_ne0, zero_eq0, ite_self, sI_eq, sI_ne, sI_nk, sI_21, sI_22, sJ_21, sJ_1]
          · simp (disch := omega) only [f_X12_back, isBa_in eB' hnB hj, isM_in em' hnm hi, hR.r37_19, rI_nI hS.l51, hz0, q1, nIm1, Option.bind_some, Option.elim_some, Option.elim_none, wi, x12_in, b3_z, ckb, ck0, ck1, putI, putR, putJ, not_true_eq_false, not_false_eq_true, if_true, if_false, and_self, and_true, true_and, one_ne0, zero_eq0, ite_self, sI_eq, sI_ne, sI_nk, sI_21, sI_22, sJ_21, sJ_1]
      · refine ops_of (v := -1000000001) (σ1 := σ) (σ2 := σ) ?_ ?_ h.iv
        · simp only [f_X11_back, hR.r0_0, bAt_in hS hR eB hnB hj, mAt_in hS hR em hnm hi, b1, m1, hz, Option.bind_some, Option.elim_some, Option.elim_none, wi, x12_in, b3_z, ckb, ck0, ck1, putI, putR, putJ, not_true_eq_false, not_false_eq_true, if_true, if_false, and_self, and_true, true_and, one_ne0, zero_eq0, ite_self, sI_eq, sI_ne, sI_nk, sI_21, sI_22, sJ_21, sJ_1]
        · simp only [f_X12_back, isBa_in eB' hnB hj, isM_in em' hnm hi, hz, Option.bind_some, Option.elim_some, Option.elim_none, wi, x12_in, b3_z, ckb, ck0, ck1, putI, putR, putJ, not_true_eq_false, not_false_eq_true, if_true, if_false, and_self, and_true, true_and, one_ne0, zero_eq0, ite_self, sI_eq, sI_ne, sI_nk, sI_21, sI_22, sJ_21, sJ_1]
end
