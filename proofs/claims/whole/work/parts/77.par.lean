/-! parcels: the class gathers -/
section
variable {nb nm nl nB nN td nt nw lw : Nat} {w : Nat → Nat} {L : Lay} {σ : Sto}
theorem BAL1.sc {σ' : Sto} {j r o : Nat} (hb : BAL1 nb nm td w L σ j r o) (hn : nm ≤ 40) (s : SC σ σ') : BAL1 nb nm td w L σ' j r o :=
  hb.fr hn (LE.rf L) (fun _ _ => rfl) (Nat.le_refl _) (Nat.le_refl _) (s.1.sub (psv_of (fun a k q => pf_of (fun z => by have := scr_cases q; simp [pBAL1] at z; omega)))) (by rw [s.2]) (fun a k _ _ => by rw [s.2])
theorem x5_begin (h : INVP nb nm nl nB nN td nt nw lw w L σ) {P : PS} {σ' : Sto} (c : PCc P σ σ') (hp : P.1 < 6) (hz : P.2.1 P.1 = 0 ∧ P.2.2.1 P.1 = 0 ∧ P.2.2.2.1 P.1 = 0 ∧ P.2.2.2.2 P.1 = 0) : ∃ σ2, f_X5_begin L σ' 10 = some σ2 ∧ PCc (P.1 + 1, P.2) σ σ2 := by
  obtain ⟨c1, c2, c3⟩ := c
  have h := h.sc c3
  obtain ⟨hS, hR, ⟨⟨hnb, hnm, hnl, hnB, hnN, htd, hnt, hnw⟩, ⟨eb, eb'⟩, ⟨em, em'⟩, ⟨el, el'⟩, ⟨eB, eB'⟩, ⟨eN, eN'⟩, ⟨et, et'⟩, ⟨ep, ep'⟩, ew, ew'⟩, hBR, hME, hLI, hBA, hTA, hNO, hHA, hRU, hWA, hSH, hLA⟩ := id h
  obtain ⟨z1, z2, z3, z4⟩ := hz
  refine ⟨sI (sI (sI (sI (sI σ' 11 P.1 0) 12 P.1 0) 13 P.1 0) 14 P.1 0) 10 4 (nI P.1 + 1), ?_, ?_, fun t ht => ?_, ((((c3.wr rfl).wr rfl).wr rfl).wr rfl).wr rfl⟩
  · simp (disch := omega) only [f_X5_begin, c1, nle_r, show ¬ 6 ≤ P.1 by omega, hR.r10_0, hR.r10_1, hR.r10_2, hR.r10_3, wI_nI hS.l11, wI_nI hS.l12, wI_nI hS.l13, wI_nI hS.l14, Option.bind_some, Option.elim_some, Option.elim_none, wi, x12_in, b3_z, ckb, ck0, ck1, putI, putR, putJ, not_true_eq_false, not_false_eq_true, if_true, if_false, and_self, and_true, true_and, one_ne0, zero_eq0, ite_self, sI_eq, sI_ne, sI_nk, sI_21, sI_22, sJ_21, sJ_1]
  · simp (disch := omega) only [sI_eq, nI_1]
  · have ht : t < P.1 + 1 := ht
    by_cases e : t = P.1
    · subst e
      simp (disch := omega) only [sI_eq, sI_ne, z1, z2, z3, z4, nI_0, and_self]
    · simp (disch := omega) only [sI_eq, sI_ne, sI_nk]
      exact c2 t (by omega)
theorem x5_addBranch (h : INVP nb nm nl nB nN td nt nw lw w L σ) {j r o : Nat} (hb : BAL1 nb nm td w L σ j r o) {ls : Int32} {P : PS} {σ' : Sto} (c : PCc (ptop ls P + 1, P.2) σ σ') (hT : ptop ls P < 6) {k : Nat} (hk : k < 6) (hB : P.2.1 (ptop ls P) < 64) : ∃ σ2, f_X5_addBranch L σ' 10 (some (r + 80)) (nI k) = some σ2 ∧ PCc (padd ls P k (cnt (hca σ j o k) nm) (cnt (hcc σ j o k 1) nm) (cnt (hcc σ j o k 2) nm)) σ σ2 := by
  obtain ⟨c1, c2, c3⟩ := c
  have hnm : nm ≤ 40 := h.2.2.1.1.2.1
  have hs := hca_sum hb hnm k nm (Nat.le_refl _)
  have ev : ∀ {σ1 : Sto}, SC σ σ1 → ∀ {hw : Nat}, 1 ≤ hw → hw ≤ 3 → f_X0_heardOf L σ1 (r + 80) (nI k) (nI hw) = some (cnt (hcc σ j o k hw) nm) := fun s _ a b => by
    rw [x0_heardOf (h.sc s) (hb.sc hnm s) k a b, hcc_sc s]
  have e1 : f_X0_heardOf L σ' (r + 80) (nI k) 1 = some (cnt (hcc σ j o k 1) nm) := ev c3 (hw := 1) (by omega) (by omega)
  have e2 : f_X0_heardOf L σ' (r + 80) (nI k) 2 = some (cnt (hcc σ j o k 2) nm) := ev c3 (hw := 2) (by omega) (by omega)
  have e3 : ∀ T v, f_X0_heardOf L (sI σ' 11 T v) (r + 80) (nI k) 3 = some (cnt (hcc σ j o k 3) nm) := fun T v => ev (c3.wr rfl) (hw := 3) (by omega) (by omega)
  have h := h.sc c3
  obtain ⟨hS, hR, ⟨⟨hnb, hnm, hnl, hnB, hnN, htd, hnt, hnw⟩, ⟨eb, eb'⟩, ⟨em, em'⟩, ⟨el, el'⟩, ⟨eB, eB'⟩, ⟨eN, eN'⟩, ⟨et, et'⟩, ⟨ep, ep'⟩, ew, ew'⟩, hBR, hME, hLI, hBA, hTA, hNO, hHA, hRU, hWA, hSH, hLA⟩ := id h
  have c1 : σ'.1 10 4 = nI (ptop ls P + 1) := c1
  obtain ⟨d1, d2, d3, d4⟩ := c2 (ptop ls P) (Nat.lt_succ_self _)
  have d1 : σ'.1 11 (ptop ls P) = nI (P.2.1 (ptop ls P)) := d1
  have d2 : σ'.1 12 (ptop ls P) = P.2.2.1 (ptop ls P) := d2
  have d3 : σ'.1 13 (ptop ls P) = P.2.2.2.1 (ptop ls P) := d3
  have d4 : σ'.1 14 (ptop ls P) = P.2.2.2.2 (ptop ls P) := d4
  have hp := nI_pos' (n := ptop ls P) (by omega)
  refine ⟨sI (sI (sI (sI σ' 11 (ptop ls P) (nI (P.2.1 (ptop ls P) ||| 2 ^ k))) 12 (ptop ls P) (P.2.2.1 (ptop ls P) + cnt (hca σ j o k) nm)) 13 (ptop ls P) (P.2.2.2.1 (ptop ls P) + cnt (hcc σ j o k 1) nm)) 14 (ptop ls P) (P.2.2.2.2 (ptop ls P) + cnt (hcc σ j o k 2) nm), ?_, ?_, fun t ht => ?_, (((c3.wr rfl).wr rfl).wr rfl).wr rfl⟩
  · simp (disch := omega) only [f_X5_addBranch, c1, nI_pred, hp, hR.r10_0, hR.r10_1, hR.r10_2, hR.r10_3, rI_nI hS.l11, rI_nI hS.l12, rI_nI hS.l13, rI_nI hS.l14, wI_nI hS.l11, wI_nI hS.l12, wI_nI hS.l13, wI_nI hS.l14, d1, d2, d3, d4, e1, e2, e3, one6 k hk, or32 (show P.2.1 (ptop ls P) < 2 ^ 31 by omega) (show 2 ^ k < 2 ^ 31 from Nat.pow_lt_pow_right (by omega) (by omega)), hs, Option.bind_some, Option.elim_some, Option.elim_none, wi, x12_in, b3_z, ckb, ck0, ck1, putI, putR, putJ, not_true_eq_false, not_false_eq_true, if_true, if_false, and_self, and_true, true_and, one_ne0, zero_eq0, ite_self, sI_eq, sI_ne, sI_nk, sI_21, sI_22, sJ_21, sJ_1]
  · simp (disch := omega) only [sI_ne, c1, padd]
  · have ht : t < ptop ls P + 1 := ht
    show _ = nI (if t = ptop ls P then P.2.1 t ||| 2 ^ k else P.2.1 t) ∧ _ = (if t = ptop ls P then P.2.2.1 t + _ else P.2.2.1 t) ∧ _ = (if t = ptop ls P then P.2.2.2.1 t + _ else P.2.2.2.1 t) ∧ _ = (if t = ptop ls P then P.2.2.2.2 t + _ else P.2.2.2.2 t)
    by_cases e : t = ptop ls P
    · rw [if_pos e, if_pos e, if_pos e, if_pos e, e]
      simp (disch := omega) only [sI_eq, sI_ne, and_self]
    · rw [if_neg e, if_neg e, if_neg e, if_neg e]
      simp (disch := omega) only [sI_ne, sI_nk]
      exact c2 t ht
/-- the last merged into the one before it, where it is too small -/
def pmg (ls : Int32) (P : PS) : PS := if P.1 ≤ 1 ∨ ls ≤ P.2.2.1 (P.1 - 1) then P else (P.1 - 1, fun t => if t = P.1 - 2 then P.2.1 t ||| P.2.1 (P.1 - 1) else P.2.1 t, fun t => if t = P.1 - 2 then P.2.2.1 t + P.2.2.1 (P.1 - 1) else P.2.2.1 t, fun t => if t = P.1 - 2 then P.2.2.2.1 t + P.2.2.2.1 (P.1 - 1) else P.2.2.2.1 t, fun t => if t = P.1 - 2 then P.2.2.2.2 t + P.2.2.2.2 (P.1 - 1) else P.2.2.2.2 t)
theorem x5_join (h : INVP nb nm nl nB nN td nt nw lw w L σ) {P : PS} {σ' : Sto} {q : Nat} (hq : P.1 = q + 2) (c : PCc P σ σ') (hT : P.1 ≤ 6) (hB : ∀ t, t < P.1 → P.2.1 t < 64) : ∃ σ2, f_X5_joinLastTwo L σ' 10 = some σ2 ∧ PCc (P.1 - 1, fun t => if t = P.1 - 2 then P.2.1 t ||| P.2.1 (P.1 - 1) else P.2.1 t, fun t => if t = P.1 - 2 then P.2.2.1 t + P.2.2.1 (P.1 - 1) else P.2.2.1 t, fun t => if t = P.1 - 2 then P.2.2.2.1 t + P.2.2.2.1 (P.1 - 1) else P.2.2.2.1 t, fun t => if t = P.1 - 2 then P.2.2.2.2 t + P.2.2.2.2 (P.1 - 1) else P.2.2.2.2 t) σ σ2 := by
  obtain ⟨c1, c2, c3⟩ := c
  have h := h.sc c3
  obtain ⟨hS, hR, ⟨⟨hnb, hnm, hnl, hnB, hnN, htd, hnt, hnw⟩, ⟨eb, eb'⟩, ⟨em, em'⟩, ⟨el, el'⟩, ⟨eB, eB'⟩, ⟨eN, eN'⟩, ⟨et, et'⟩, ⟨ep, ep'⟩, ew, ew'⟩, hBR, hME, hLI, hBA, hTA, hNO, hHA, hRU, hWA, hSH, hLA⟩ := id h
  rw [hq] at c1 hT
  obtain ⟨d1, d2, d3, d4⟩ := c2 q (by omega)
  obtain ⟨f1, f2, f3, f4⟩ := c2 (q + 1) (by omega)
  have g1 := hB q (by omega)
  have g2 := hB (q + 1) (by omega)
  have z1 : P.1 - 1 = q + 1 := by omega
  have z2 : P.1 - 2 = q := by omega
  rw [z1, z2]
  have hp : (1 : Int32) ≤ nI (q + 1) := nI_le (a := 1) (b := q + 1) (by omega) (by omega)
  refine ⟨sI (sI (sI (sI (sI σ' 11 q (nI (P.2.1 q ||| P.2.1 (q + 1)))) 12 q (P.2.2.1 q + P.2.2.1 (q + 1))) 13 q (P.2.2.2.1 q + P.2.2.2.1 (q + 1))) 14 q (P.2.2.2.2 q + P.2.2.2.2 (q + 1))) 10 4 (nI (q + 1)), ?_, ?_, fun t ht => ?_, ((((c3.wr rfl).wr rfl).wr rfl).wr rfl).wr rfl⟩
  · simp (disch := omega) only [f_X5_joinLastTwo, c1, nI_pred, show nI (q + 2) - 1 = nI (q + 1) from nI_pred (q + 1), hp, hR.r10_0, hR.r10_1, hR.r10_2, hR.r10_3, rI_nI hS.l11, rI_nI hS.l12, rI_nI hS.l13, rI_nI hS.l14, wI_nI hS.l11, wI_nI hS.l12, wI_nI hS.l13, wI_nI hS.l14, d1, d2, d3, d4, f1, f2, f3, f4, or32 (show P.2.1 q < 2 ^ 31 by omega) (show P.2.1 (q + 1) < 2 ^ 31 by omega), Option.bind_some, Option.elim_some, Option.elim_none, wi, x12_in, b3_z, ckb, ck0, ck1, putI, putR, putJ, not_true_eq_false, not_false_eq_true, if_true, if_false, and_self, and_true, true_and, one_ne0, zero_eq0, ite_self, sI_eq, sI_ne, sI_nk, sI_21, sI_22, sJ_21, sJ_1]
  · exact sI_eq _ _ _ _
  · have ht : t < q + 1 := ht
    show _ = nI (if t = q then _ else P.2.1 t) ∧ _ = (if t = q then _ else P.2.2.1 t) ∧ _ = (if t = q then _ else P.2.2.2.1 t) ∧ _ = (if t = q then _ else P.2.2.2.2 t)
    by_cases e : t = q
    · rw [if_pos e, if_pos e, if_pos e, if_pos e, e]
      simp (disch := omega) only [sI_eq, sI_ne, and_self]
    · rw [if_neg e, if_neg e, if_neg e, if_neg e]
      simp (disch := omega) only [sI_ne, sI_nk]
      exact c2 t (by omega)
theorem x5_gather (h : INVP nb nm nl nB nN td nt nw lw w L σ) {j r o : Nat} (hb : BAL1 nb nm td w L σ j r o) (ls : Int32) : OK (f_X5_gather L σ 10 (some (r + 80)) ls) (fun σ2 => PCc (pmg ls (pall σ j o nm ls 6)) σ σ2) := by
  have hnm : nm ≤ 40 := h.2.2.1.1.2.1
  obtain ⟨-, -, -, ⟨b14, -, -, -, -⟩, -⟩ := id hb
  have main : OK (f_X5_gather_7 FU L (sI σ 10 4 0) 10 (some (r + 80)) ls 0) (fun σ2 => PCc (pmg ls (pall σ j o nm ls 6)) σ σ2) := by
    refine loopI (F := fun f (q : Sto × Int32) => f_X5_gather_7 f L q.1 10 (some (r + 80)) ls q.2) (I := fun k q => PCc (pall σ j o nm ls k) σ q.1 ∧ q.2 = nI k) (n := 6) (s := (sI σ 10 4 0, 0)) _ ?_ ?_ (FU_lt (by omega)) ?_
    · rintro k K ⟨σ', x⟩ hk ⟨c, rfl⟩
      left
      dsimp only
      have c : PCc (pall σ j o nm ls k) σ σ' := c
      have hi := PI_all σ j o nm ls k (by omega)
      obtain ⟨p1, p2, p3⟩ := id hi
      have hsz : pall σ j o nm ls (k + 1) = pst σ j o nm ls k (pall σ j o nm ls k) := rfl
      rw [hsz]
      unfold pst
      generalize pall σ j o nm ls k = P at *
      have c3 := c.2.2
      have h' := h.sc c3
      have hb' := hb.sc hnm c3
      have h5 : 0 ≤ nI k ∧ nI k ≤ 5 := ⟨nI_pos' (by omega), nI_le (b := 5) (by omega) (by omega)⟩
      have e1 : f_X0_entitledOf L σ' (r + 80) (nI k) = some (cnt (ent σ o k) nm) := by rw [x0_entitledOf h' hb' k, ent_sc c3]
      have hbr : σ'.1 (r + 80) 1 = σ.1 49 j := by rw [← b14]; exact c3.at (scr_hi (by omega))
      have hr1 := h'.2.1.r10_1
      have hl12 := h'.1.l12
      by_cases q1 : ((σ.1 49 j >>> (nI k &&& 31)) &&& 1) = 1
      · have e2 : f_X0_hasBranch L σ' (r + 80) (nI k) = some 1 := by
          simp (disch := omega) only [f_X0_hasBranch, h5, hbr, q1, Option.bind_some, Option.elim_some, Option.elim_none, wi, x12_in, b3_z, ckb, ck0, ck1, putI, putR, putJ, not_true_eq_false, not_false_eq_true, if_true, if_false, and_self, and_true, true_and, one_ne0, zero_eq0, ite_self, sI_eq, sI_ne, sI_nk, sI_21, sI_22, sJ_21, sJ_1]
        by_cases q2 : any1 (ent σ o k) nm = 1
        · have q3 : ¬ cnt (ent σ o k) nm ≤ 0 := fun u => (cnt_any hnm).mp u q2
          have qq : qf σ j o nm k = true := decide_eq_true ⟨q1, q2⟩
          have hT := ptop_le ls P
          have hBt : P.2.1 (ptop ls P) < 64 := by
            rcases Nat.lt_or_ge (ptop ls P) P.1 with u | u
            · exact (p3 _ u).2
            · rw [(p2 _ u).1]; omega
          rw [if_pos qq]
          by_cases q4 : P.1 = 0 ∨ ls ≤ P.2.2.1 (P.1 - 1)
          · have et : ptop ls P = P.1 := if_pos q4
            obtain ⟨σ2, g1, g2⟩ := x5_begin h c (by omega) (p2 P.1 (Nat.le_refl _))
            rw [← et] at g2
            obtain ⟨σ3, g3, g4⟩ := x5_addBranch h hb g2 (by omega) hk hBt
            refine ⟨(σ3, nI (k + 1)), ?_, g4, rfl⟩
            have hst : f_X5_gather_51 (f_X5_gather_7 K) L σ' 10 (some (r + 80)) ls (nI k) = f_X5_gather_7 K L σ3 10 (some (r + 80)) ls (nI (k + 1)) := by
              simp only [f_X5_gather_51, f_X5_gather_55, f_X5_gather_61, g1, g3, Option.bind_some, nI_1]
            by_cases q5 : P.1 = 0
            · have c1 : σ'.1 10 4 = 0 := by rw [c.1, q5, nI_0]
              simp (disch := omega) only [f_X5_gather_7, nle_r, show ¬ 6 ≤ k by omega, e1, e2, q3, c1, hst, Option.bind_some, Option.elim_some, Option.elim_none, wi, x12_in, b3_z, ckb, ck0, ck1, putI, putR, putJ, not_true_eq_false, not_false_eq_true, if_true, if_false, and_self, and_true, true_and, one_ne0, zero_eq0, ite_self, sI_eq, sI_ne, sI_nk, sI_21, sI_22, sJ_21, sJ_1]
            · obtain ⟨u, hu⟩ : ∃ u, P.1 = u + 1 := ⟨P.1 - 1, by omega⟩
              have c1 : σ'.1 10 4 = nI (u + 1) := by rw [c.1, hu]
              have c2 : σ'.1 12 u = P.2.2.1 (P.1 - 1) := by rw [(c.2.1 u (by omega)).2.1, hu]; rfl
              have q6 : ¬ P.2.2.1 (P.1 - 1) < ls := Int32.not_lt.mpr (q4.resolve_left q5)
              simp (disch := omega) only [f_X5_gather_7, nle_r, show ¬ 6 ≤ k by omega, e1, e2, q3, c1, neq_l, show ¬ u + 1 = 0 by omega, nI_pred, hr1, rI_nI hl12, c2, q6, hst, Option.bind_some, Option.elim_some, Option.elim_none, wi, x12_in, b3_z, ckb, ck0, ck1, putI, putR, putJ, not_true_eq_false, not_false_eq_true, if_true, if_false, and_self, and_true, true_and, one_ne0, zero_eq0, ite_self, sI_eq, sI_ne, sI_nk, sI_21, sI_22, sJ_21, sJ_1]
          · have q5 : ¬ P.1 = 0 := fun u => q4 (Or.inl u)
            have q6 : P.2.2.1 (P.1 - 1) < ls := Int32.not_le.mp (fun u => q4 (Or.inr u))
            have et : ptop ls P = P.1 - 1 := if_neg q4
            have g2 : PCc (ptop ls P + 1, P.2) σ σ' := by
              have : ptop ls P + 1 = P.1 := by omega
              rw [this]; exact c
            obtain ⟨σ3, g3, g4⟩ := x5_addBranch h hb g2 (by omega) hk hBt
            refine ⟨(σ3, nI (k + 1)), ?_, g4, rfl⟩
            have hst : f_X5_gather_55 (f_X5_gather_7 K) L σ' 10 (some (r + 80)) ls (nI k) = f_X5_gather_7 K L σ3 10 (some (r + 80)) ls (nI (k + 1)) := by
              simp only [f_X5_gather_55, f_X5_gather_61, g3, Option.bind_some, nI_1]
            obtain ⟨u, hu⟩ : ∃ u, P.1 = u + 1 := ⟨P.1 - 1, by omega⟩
            have c1 : σ'.1 10 4 = nI (u + 1) := by rw [c.1, hu]
            have c2 : σ'.1 12 u = P.2.2.1 (P.1 - 1) := by rw [(c.2.1 u (by omega)).2.1, hu]; rfl
            simp (disch := omega) only [f_X5_gather_7, nle_r, show ¬ 6 ≤ k by omega, e1, e2, q3, c1, neq_l, show ¬ u + 1 = 0 by omega, nI_pred, hr1, rI_nI hl12, c2, q6, hst, Option.bind_some, Option.elim_some, Option.elim_none, wi, x12_in, b3_z, ckb, ck0, ck1, putI, putR, putJ, not_true_eq_false, not_false_eq_true, if_true, if_false, and_self, and_true, true_and, one_ne0, zero_eq0, ite_self, sI_eq, sI_ne, sI_nk, sI_21, sI_22, sJ_21, sJ_1]
        · have q3 : cnt (ent σ o k) nm ≤ 0 := (cnt_any hnm).mpr q2
          have qq : ¬ qf σ j o nm k = true := fun u => q2 (of_decide_eq_true u).2
          rw [if_neg qq]
          refine ⟨(σ', nI (k + 1)), ?_, c, rfl⟩
          simp (disch := omega) only [f_X5_gather_7, f_X5_gather_61, nle_r, show ¬ 6 ≤ k by omega, e1, e2, q3, nI_1, Option.bind_some, Option.elim_some, Option.elim_none, wi, x12_in, b3_z, ckb, ck0, ck1, putI, putR, putJ, not_true_eq_false, not_false_eq_true, if_true, if_false, and_self, and_true, true_and, one_ne0, zero_eq0, ite_self, sI_eq, sI_ne, sI_nk, sI_21, sI_22, sJ_21, sJ_1]
      · have e2 : f_X0_hasBranch L σ' (r + 80) (nI k) = some 0 := by
          simp (disch := omega) only [f_X0_hasBranch, h5, hbr, q1, Option.bind_some, Option.elim_some, Option.elim_none, wi, x12_in, b3_z, ckb, ck0, ck1, putI, putR, putJ, not_true_eq_false, not_false_eq_true, if_true, if_false, and_self, and_true, true_and, one_ne0, zero_eq0, ite_self, sI_eq, sI_ne, sI_nk, sI_21, sI_22, sJ_21, sJ_1]
        have qq : ¬ qf σ j o nm k = true := fun u => q1 (of_decide_eq_true u).1
        rw [if_neg qq]
        refine ⟨(σ', nI (k + 1)), ?_, c, rfl⟩
        simp (disch := omega) only [f_X5_gather_7, f_X5_gather_61, nle_r, show ¬ 6 ≤ k by omega, e2, nI_1, Option.bind_some, Option.elim_some, Option.elim_none, wi, x12_in, b3_z, ckb, ck0, ck1, putI, putR, putJ, not_true_eq_false, not_false_eq_true, if_true, if_false, and_self, and_true, true_and, one_ne0, zero_eq0, ite_self, sI_eq, sI_ne, sI_nk, sI_21, sI_22, sJ_21, sJ_1]
    · rintro K ⟨σ', x⟩ ⟨c, rfl⟩
      dsimp only
      have c : PCc (pall σ j o nm ls 6) σ σ' := c
      have hi := PI_all σ j o nm ls 6 (by omega)
      obtain ⟨p1, p2, p3⟩ := id hi
      generalize pall σ j o nm ls 6 = P at *
      have c3 := c.2.2
      have h' := h.sc c3
      have hr1 := h'.2.1.r10_1
      have hl12 := h'.1.l12
      have c1 := c.1
      unfold pmg
      by_cases q1 : P.1 ≤ 1
      · rw [if_pos (Or.inl q1)]
        exact ⟨σ', by simp (disch := omega) only [f_X5_gather_7, nle_r, nle_l, Nat.le_refl, c1, q1, Option.bind_some, Option.elim_some, Option.elim_none, wi, x12_in, b3_z, ckb, ck0, ck1, putI, putR, putJ, not_true_eq_false, not_false_eq_true, if_true, if_false, and_self, and_true, true_and, one_ne0, zero_eq0, ite_self, sI_eq, sI_ne, sI_nk, sI_21, sI_22, sJ_21, sJ_1], c⟩
      · obtain ⟨u, hu⟩ : ∃ u, P.1 = u + 2 := ⟨P.1 - 2, by omega⟩
        have c1' : σ'.1 10 4 = nI (u + 1 + 1) := by rw [c.1, hu]
        have c2 : σ'.1 12 (u + 1) = P.2.2.1 (P.1 - 1) := by rw [(c.2.1 (u + 1) (by omega)).2.1, hu]; rfl
        by_cases q2 : ls ≤ P.2.2.1 (P.1 - 1)
        · rw [if_pos (Or.inr q2)]
          exact ⟨σ', by simp (disch := omega) only [f_X5_gather_7, nle_r, nle_l, Nat.le_refl, c1', show ¬ u + 1 + 1 ≤ 1 by omega, nI_pred, hr1, rI_nI hl12, c2, q2, Option.bind_some, Option.elim_some, Option.elim_none, wi, x12_in, b3_z, ckb, ck0, ck1, putI, putR, putJ, not_true_eq_false, not_false_eq_true, if_true, if_false, and_self, and_true, true_and, one_ne0, zero_eq0, ite_self, sI_eq, sI_ne, sI_nk, sI_21, sI_22, sJ_21, sJ_1], c⟩
        · rw [if_neg (fun z => z.elim q1 q2)]
          obtain ⟨σ2, g1, g2⟩ := x5_join h hu c (by omega) (fun t ht => (p3 t ht).2)
          exact ⟨σ2, by simp (disch := omega) only [f_X5_gather_7, nle_r, nle_l, Nat.le_refl, c1', show ¬ u + 1 + 1 ≤ 1 by omega, nI_pred, hr1, rI_nI hl12, c2, q2, g1, Option.bind_some, Option.elim_some, Option.elim_none, wi, x12_in, b3_z, ckb, ck0, ck1, putI, putR, putJ, not_true_eq_false, not_false_eq_true, if_true, if_false, and_self, and_true, true_and, one_ne0, zero_eq0, ite_self, sI_eq, sI_ne, sI_nk, sI_21, sI_22, sJ_21, sJ_1], g2⟩
    · exact ⟨⟨sI_eq _ _ _ _, fun t ht => absurd ht (by show ¬ t < 0; omega), (SC.rf σ).wr rfl⟩, rfl⟩
  obtain ⟨σ2, m1, m2⟩ := main
  exact ⟨σ2, by simp only [f_X5_gather, putI, Option.bind_some, m1], m2⟩
end
