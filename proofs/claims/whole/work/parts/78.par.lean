/-! parcels: the reference parts -/
section
variable {nb nm nl nB nN td nt nw lw : Nat} {w : Nat → Nat} {L : Lay} {σ : Sto}
theorem x12_hasEntitled (h : RD nb nm td lw w L σ) {j o : Nat} (hj : j < 12) (ho : σ.1 50 j = nI o) (k : Nat) : f_X12_hasEntitled L σ 37 (nI j) (nI k) = some (any1 (ent σ o k) nm) := by
  have ea := fun i (hi : i < nm) => x12_ofOn' h hi (nI o)
  obtain ⟨⟨hS, hR⟩, ⟨hnb, hnm, htd⟩, ⟨eb, eb'⟩, ⟨em, em'⟩, ⟨et, et'⟩, hBR, hME⟩ := id h
  unfold f_X12_hasEntitled
  refine loop (F := fun f q => f_X12_hasEntitled_5 f L σ 37 (nI j) (nI k) q.1 q.2) (s := fun m => (any1 (ent σ o k) m, nI m)) nm _ ?_ ?_ (FU_lt (by omega))
  · intro m K hm
    show f_X12_hasEntitled_5 (K + 1) L σ 37 (nI j) (nI k) (any1 (ent σ o k) m) (nI m) = f_X12_hasEntitled_5 K L σ 37 (nI j) (nI k) (any1 (ent σ o k) (m + 1)) (nI (m + 1))
    rw [show any1 (ent σ o k) (m + 1) = if ent σ o k m = true then 1 else any1 (ent σ o k) m from rfl]
    simp (disch := omega) only [f_X12_hasEntitled_5, f_X12_hasEntitled_34, f_X12_hasEntitled_39, em', nI_leI, show ¬ nm ≤ m by omega, hR.r37_18, rI_nI hS.l50, ho, ea m hm, nI_1, if_false, Option.bind_some]
    by_cases q : ofS σ m (nI o) = nI k
    · rw [if_pos q, if_pos (show ent σ o k m = true from decide_eq_true q), ite_self]
    · rw [if_neg q, if_neg (show ¬ ent σ o k m = true from fun u => q (of_decide_eq_true u))]
      rcases any1_01 (ent σ o k) m with e | e
      · rw [e, if_pos rfl]
      · rw [e, if_neg (by decide)]
  · intro K
    show f_X12_hasEntitled_5 (K + 1) L σ 37 (nI j) (nI k) (any1 (ent σ o k) nm) (nI nm) = _
    simp (disch := omega) only [f_X12_hasEntitled_5, em', nI_leI, Nat.le_refl, if_true, any1_ck, Option.bind_some]
theorem ad_71 (c : Lay → Sto → Nat → Int32 → Int32 → Int32 → Int32 → Option Sto) (hS : SF L) (hR : RF lw σ.2.1) (a1 a2 a4 v s0 v17 : Int32) {T : Nat} (hT : T < 6) : f_X12_adds_71 c L σ 37 a1 a2 (nI T) a4 v s0 v17 (nI T) (some 75) = c L (sI (sI (sI σ 75 T (v17 + s0)) 76 T (σ.1 76 T + b3 (v = 1))) 77 T (σ.1 77 T + b3 (v = 2))) 37 a1 a2 (nI T) (a4 + 1) := by
  by_cases q1 : v = 1
  · have q2 : ¬ v = 2 := by rw [q1]; decide
    rw [b3_t q1, b3_f q2]
    simp (disch := omega) only [f_X12_adds_71, f_X12_adds_91, f_X12_adds_111, f_X12_adds_113, hR.r37_49, hR.r37_50, hR.r37_51, rI_nI hS.l75, rI_nI hS.l76, rI_nI hS.l77, wI_nI hS.l75, wI_nI hS.l76, wI_nI hS.l77, if_pos q1, if_neg q2, Option.bind_some, Option.elim_some, Option.elim_none, wi, x12_in, b3_z, ckb, ck0, ck1, putI, putR, putJ, not_true_eq_false, not_false_eq_true, if_true, if_false, and_self, and_true, true_and, one_ne0, zero_eq0, ite_self, sI_eq, sI_ne, sI_nk, sI_21, sI_22, sJ_21, sJ_1]
  · rw [b3_f q1]
    by_cases q2 : v = 2
    · rw [b3_t q2]
      simp (disch := omega) only [f_X12_adds_71, f_X12_adds_91, f_X12_adds_111, f_X12_adds_113, hR.r37_49, hR.r37_50, hR.r37_51, rI_nI hS.l75, rI_nI hS.l76, rI_nI hS.l77, wI_nI hS.l75, wI_nI hS.l76, wI_nI hS.l77, if_neg q1, if_pos q2, Option.bind_some, Option.elim_some, Option.elim_none, wi, x12_in, b3_z, ckb, ck0, ck1, putI, putR, putJ, not_true_eq_false, not_false_eq_true, if_true, if_false, and_self, and_true, true_and, one_ne0, zero_eq0, ite_self, sI_eq, sI_ne, sI_nk, sI_21, sI_22, sJ_21, sJ_1]
    · rw [b3_f q2]
      simp (disch := omega) only [f_X12_adds_71, f_X12_adds_91, f_X12_adds_111, f_X12_adds_113, hR.r37_49, hR.r37_50, hR.r37_51, rI_nI hS.l75, rI_nI hS.l76, rI_nI hS.l77, wI_nI hS.l75, wI_nI hS.l76, wI_nI hS.l77, if_neg q1, if_neg q2, Option.bind_some, Option.elim_some, Option.elim_none, wi, x12_in, b3_z, ckb, ck0, ck1, putI, putR, putJ, not_true_eq_false, not_false_eq_true, if_true, if_false, and_self, and_true, true_and, one_ne0, zero_eq0, ite_self, sI_eq, sI_ne, sI_nk, sI_21, sI_22, sJ_21, sJ_1]
/-- one place of the four rows is so, the rest as before -/
def AT (T : Nat) (a b c d : Int32) (σ σ' σ2 : Sto) : Prop := (σ2.1 74 T = a ∧ σ2.1 75 T = b ∧ σ2.1 76 T = c ∧ σ2.1 77 T = d) ∧ (∀ t, t ≠ T → σ2.1 74 t = σ'.1 74 t ∧ σ2.1 75 t = σ'.1 75 t ∧ σ2.1 76 t = σ'.1 76 t ∧ σ2.1 77 t = σ'.1 77 t) ∧ SC σ σ2
theorem x12_adds (h : INVP nb nm nl nB nN td nt nw lw w L σ) {j o : Nat} (hj : j < 12) (ho : σ.1 50 j = nI o) {σ' : Sto} (s : SC σ σ') {T k : Nat} (hT : T < 6) (hk : k < 6) : OK (f_X12_adds L σ' 37 (nI j) (nI k) (nI T)) (fun σ2 => AT T (σ'.1 74 T ||| nI (2 ^ k)) (σ'.1 75 T + cnt (hca σ j o k) nm) (σ'.1 76 T + cnt (hcc σ j o k 1) nm) (σ'.1 77 T + cnt (hcc σ j o k 2) nm) σ σ' σ2) := by
  have hS : SF L := h.1
  have hR' : RF lw σ'.2.1 := (h.sc s).2.1
  have main : OK (f_X12_adds_15 FU L (sI σ' 74 T (σ'.1 74 T ||| nI (2 ^ k))) 37 (nI j) (nI k) (nI T) 0) (fun σ2 => AT T (σ'.1 74 T ||| nI (2 ^ k)) (σ'.1 75 T + cnt (hca σ j o k) nm) (σ'.1 76 T + cnt (hcc σ j o k 1) nm) (σ'.1 77 T + cnt (hcc σ j o k 2) nm) σ σ' σ2) := by
    refine loopI (F := fun f (q : Sto × Int32) => f_X12_adds_15 f L q.1 37 (nI j) (nI k) (nI T) q.2) (I := fun m q => AT T (σ'.1 74 T ||| nI (2 ^ k)) (σ'.1 75 T + cnt (hca σ j o k) m) (σ'.1 76 T + cnt (hcc σ j o k 1) m) (σ'.1 77 T + cnt (hcc σ j o k 2) m) σ σ' q.1 ∧ q.2 = nI m) (n := nm) (s := (sI σ' 74 T (σ'.1 74 T ||| nI (2 ^ k)), 0)) _ ?_ ?_ (FU_lt (by have : nm ≤ 40 := h.2.2.1.1.2.1; omega)) ?_
    · rintro m K ⟨σm, x⟩ hm ⟨c, rfl⟩
      left
      dsimp only
      have c : AT T (σ'.1 74 T ||| nI (2 ^ k)) (σ'.1 75 T + cnt (hca σ j o k) m) (σ'.1 76 T + cnt (hcc σ j o k 1) m) (σ'.1 77 T + cnt (hcc σ j o k 2) m) σ σ' σm := c
      obtain ⟨⟨c1, c2, c3, c4⟩, c5, c6⟩ := c
      have h' := h.sc c6
      have ea := x12_ofOn' h'.rd hm (nI o)
      rw [ofS_sc c6] at ea
      have ho' : σm.1 50 j = nI o := (c6.at rfl).trans ho
      have h53 : σm.1 53 (40 * j + m) = σ.1 53 (40 * j + m) := c6.at rfl
      obtain ⟨hS, hR, ⟨⟨hnb, hnm, hnl, hnB, hnN, htd, hnt, hnw⟩, ⟨eb, eb'⟩, ⟨em, em'⟩, ⟨el, el'⟩, ⟨eB, eB'⟩, ⟨eN, eN'⟩, ⟨et, et'⟩, ⟨ep, ep'⟩, ew, ew'⟩, hBR, hME, hLI, hBA, hTA, hNO, hHA, hRU, hWA, hSH, hLA⟩ := (h')
      rw [cnt_succ, cnt_succ, cnt_succ]
      by_cases q : ofS σ m (nI o) = nI k
      · have e1 : b3 (hcc σ j o k 1 m = true) = b3 (σ.1 53 (40 * j + m) = 1) := b3_c ⟨fun u => (of_decide_eq_true u).1, fun u => decide_eq_true ⟨u, q⟩⟩
        have e2 : b3 (hcc σ j o k 2 m = true) = b3 (σ.1 53 (40 * j + m) = 2) := b3_c ⟨fun u => (of_decide_eq_true u).1, fun u => decide_eq_true ⟨u, q⟩⟩
        have e3 : b3 (hca σ j o k m = true) = b3 (¬ σ.1 53 (40 * j + m) ≤ 0) := b3_c ⟨fun u => (of_decide_eq_true u).1, fun u => decide_eq_true ⟨u, q⟩⟩
        rw [e1, e2, e3]
        refine ⟨(sI (sI (sI σm 75 T (σm.1 75 T + b3 (¬ σ.1 53 (40 * j + m) ≤ 0))) 76 T (σm.1 76 T + b3 (σ.1 53 (40 * j + m) = 1))) 77 T (σm.1 77 T + b3 (σ.1 53 (40 * j + m) = 2)), nI (m + 1)), ?_, ⟨?_, ?_, ?_⟩, rfl⟩
        · by_cases q3 : σ.1 53 (40 * j + m) ≤ 0
          · rw [b3_f (p := ¬ σ.1 53 (40 * j + m) ≤ 0) (fun u => u q3)]
            simp (disch := omega) only [f_X12_adds_15, em', nI_leI, show ¬ nm ≤ m by omega, hR.r37_18, hR.r37_21, hR.r37_49, rI_nI hS.l50, rI_nI hS.l53, rI_nI hS.l75, ho', ea, q, mul_lit, nI_add, h53, q3, ad_71 _ hS hR _ _ _ _ _ _ hT, nI_1, Option.bind_some, Option.elim_some, Option.elim_none, wi, x12_in, b3_z, ckb, ck0, ck1, putI, putR, putJ, not_true_eq_false, not_false_eq_true, if_true, if_false, and_self, and_true, true_and, one_ne0, zero_eq0, ite_self, sI_eq, sI_ne, sI_nk, sI_21, sI_22, sJ_21, sJ_1]
          · rw [b3_t q3]
            simp (disch := omega) only [f_X12_adds_15, em', nI_leI, show ¬ nm ≤ m by omega, hR.r37_18, hR.r37_21, hR.r37_49, rI_nI hS.l50, rI_nI hS.l53, rI_nI hS.l75, ho', ea, q, mul_lit, nI_add, h53, q3, ad_71 _ hS hR _ _ _ _ _ _ hT, nI_1, Option.bind_some, Option.elim_some, Option.elim_none, wi, x12_in, b3_z, ckb, ck0, ck1, putI, putR, putJ, not_true_eq_false, not_false_eq_true, if_true, if_false, and_self, and_true, true_and, one_ne0, zero_eq0, ite_self, sI_eq, sI_ne, sI_nk, sI_21, sI_22, sJ_21, sJ_1]
        · simp (disch := omega) only [sI_eq, sI_ne, c1, c2, c3, c4, Int32.add_assoc, and_self]
        · intro t ht
          simp (disch := omega) only [sI_nk]
          exact c5 t ht
        · exact ((c6.wr rfl).wr rfl).wr rfl
      · have e : ∀ hw, b3 (hcc σ j o k hw m = true) = 0 := fun hw => b3_f (fun u => q (of_decide_eq_true u).2)
        rw [e, e, b3_f (p := hca σ j o k m = true) (fun u => q (of_decide_eq_true u).2), Int32.add_zero, Int32.add_zero, Int32.add_zero]
        refine ⟨(σm, nI (m + 1)), ?_, ⟨⟨c1, c2, c3, c4⟩, c5, c6⟩, rfl⟩
        simp (disch := omega) only [f_X12_adds_15, f_X12_adds_113, em', nI_leI, show ¬ nm ≤ m by omega, hR.r37_18, rI_nI hS.l50, ho', ea, q, nI_1, Option.bind_some, Option.elim_some, Option.elim_none, wi, x12_in, b3_z, ckb, ck0, ck1, putI, putR, putJ, not_true_eq_false, not_false_eq_true, if_true, if_false, and_self, and_true, true_and, one_ne0, zero_eq0, ite_self, sI_eq, sI_ne, sI_nk, sI_21, sI_22, sJ_21, sJ_1]
    · rintro K ⟨σm, x⟩ ⟨c, rfl⟩
      dsimp only
      have c : AT T (σ'.1 74 T ||| nI (2 ^ k)) (σ'.1 75 T + cnt (hca σ j o k) nm) (σ'.1 76 T + cnt (hcc σ j o k 1) nm) (σ'.1 77 T + cnt (hcc σ j o k 2) nm) σ σ' σm := c
      have h' := h.sc c.2.2
      obtain ⟨hS, hR, ⟨⟨hnb, hnm, hnl, hnB, hnN, htd, hnt, hnw⟩, ⟨eb, eb'⟩, ⟨em, em'⟩, ⟨el, el'⟩, ⟨eB, eB'⟩, ⟨eN, eN'⟩, ⟨et, et'⟩, ⟨ep, ep'⟩, ew, ew'⟩, hBR, hME, hLI, hBA, hTA, hNO, hHA, hRU, hWA, hSH, hLA⟩ := (h')
      exact ⟨σm, by simp (disch := omega) only [f_X12_adds_15, em', nI_leI, Nat.le_refl, Option.bind_some, Option.elim_some, Option.elim_none, wi, x12_in, b3_z, ckb, ck0, ck1, putI, putR, putJ, not_true_eq_false, not_false_eq_true, if_true, if_false, and_self, and_true, true_and, one_ne0, zero_eq0, ite_self, sI_eq, sI_ne, sI_nk, sI_21, sI_22, sJ_21, sJ_1], c⟩
    · refine ⟨⟨⟨?_, ?_, ?_, ?_⟩, fun t ht => ?_, s.wr rfl⟩, rfl⟩
      · exact sI_eq _ _ _ _
      · show _ = _ + 0
        simp (disch := omega) only [sI_ne, Int32.add_zero]
      · show _ = _ + 0
        simp (disch := omega) only [sI_ne, Int32.add_zero]
      · show _ = _ + 0
        simp (disch := omega) only [sI_ne, Int32.add_zero]
      · simp (disch := omega) only [sI_ne, sI_nk, and_self]
  obtain ⟨σ2, m1, m2⟩ := main
  refine ⟨σ2, ?_, m2⟩
  simp (disch := omega) only [f_X12_adds, hR'.r37_48, rI_nI hS.l74, wI_nI hS.l74, one6 k hk, m1, Option.bind_some, Option.elim_some, Option.elim_none, wi, x12_in, b3_z, ckb, ck0, ck1, putI, putR, putJ, not_true_eq_false, not_false_eq_true, if_true, if_false, and_self, and_true, true_and, one_ne0, zero_eq0, ite_self, sI_eq, sI_ne, sI_nk, sI_21, sI_22, sJ_21, sJ_1]
theorem pall_nb {z : Nat} {j o : Nat} (hz : z < 2 ^ nb) (ez : σ.1 49 j = nI z) (hnb : nb ≤ 6) (ls : Int32) : ∀ d, nb + d ≤ 6 → pall σ j o nm ls (nb + d) = pall σ j o nm ls nb
  | 0, _ => rfl
  | d + 1, h => by
    show pst σ j o nm ls (nb + d) (pall σ j o nm ls (nb + d)) = _
    rw [pall_nb hz ez hnb ls d (by omega)]
    unfold pst
    have h1 : 2 ^ nb ≤ 2 ^ (nb + d) := Nat.pow_le_pow_right (by omega) (by omega)
    have h2 : 2 ^ nb ≤ 2 ^ 6 := Nat.pow_le_pow_right (by omega) hnb
    rw [if_neg]
    intro u
    have := (of_decide_eq_true u).1
    rw [ez, shr32 (by omega) (by omega), Nat.div_eq_of_lt (by omega)] at this
    exact absurd this (by decide)
theorem x12_parts (h : INVP nb nm nl nB nN td nt nw lw w L σ) {j r o : Nat} (hj : j < 12) (hb : BAL1 nb nm td w L σ j r o) : OK (f_X12_parts L σ 37 (nI j)) (fun σ2 => σ2.1 37 47 = nI (pmg (σ.1 64 4) (pall σ j o nm (σ.1 64 4) 6)).1 ∧ (∀ t, t < (pmg (σ.1 64 4) (pall σ j o nm (σ.1 64 4) 6)).1 → σ2.1 74 t = nI ((pmg (σ.1 64 4) (pall σ j o nm (σ.1 64 4) 6)).2.1 t) ∧ σ2.1 75 t = (pmg (σ.1 64 4) (pall σ j o nm (σ.1 64 4) 6)).2.2.1 t ∧ σ2.1 76 t = (pmg (σ.1 64 4) (pall σ j o nm (σ.1 64 4) 6)).2.2.2.1 t ∧ σ2.1 77 t = (pmg (σ.1 64 4) (pall σ j o nm (σ.1 64 4) 6)).2.2.2.2 t) ∧ SC σ σ2) := by
  have hnm : nm ≤ 40 := h.2.2.1.1.2.1
  have hnb6 : nb ≤ 6 := h.2.2.1.1.1
  obtain ⟨-, -, -, ⟨-, ⟨z, hz, ez⟩, -, ho, -⟩, -⟩ := id hb
  rw [show pall σ j o nm (σ.1 64 4) 6 = pall σ j o nm (σ.1 64 4) nb by
    have := pall_nb (nm := nm) (o := o) hz ez hnb6 (σ.1 64 4) (6 - nb) (by omega)
    rw [← this]; congr 1; omega]
  generalize hls : σ.1 64 4 = ls
  have tail : ∀ {σ' : Sto}, PCr p0 σ σ' → OK (f_X12_parts_46 FU L σ' 37 (nI j) 0 0) (fun σ2 => σ2.1 37 47 = nI (pmg ls (pall σ j o nm ls nb)).1 ∧ (∀ t, t < (pmg ls (pall σ j o nm ls nb)).1 → σ2.1 74 t = nI ((pmg ls (pall σ j o nm ls nb)).2.1 t) ∧ σ2.1 75 t = (pmg ls (pall σ j o nm ls nb)).2.2.1 t ∧ σ2.1 76 t = (pmg ls (pall σ j o nm ls nb)).2.2.2.1 t ∧ σ2.1 77 t = (pmg ls (pall σ j o nm ls nb)).2.2.2.2 t) ∧ SC σ σ2) := by
    intro σ' c0
    refine loopI (F := fun f (q : Sto × Int32 × Int32) => f_X12_parts_46 f L q.1 37 (nI j) q.2.1 q.2.2) (I := fun k q => PCr (pall σ j o nm ls k) σ q.1 ∧ q.2.1 = nI (ptop ls (pall σ j o nm ls k)) ∧ q.2.2 = nI k) (n := nb) (s := (σ', 0, 0)) _ ?_ ?_ (FU_lt (by omega)) ?_
    · rintro k K ⟨σm, x, y⟩ hk ⟨c, hx, hy⟩
      left
      dsimp only at hx hy ⊢
      subst hx hy
      have c : PCr (pall σ j o nm ls k) σ σm := c
      have hi := PI_all σ j o nm ls k (by omega)
      have hi2 := PI_all σ j o nm ls (k + 1) (by omega)
      have hsz : pall σ j o nm ls (k + 1) = pst σ j o nm ls k (pall σ j o nm ls k) := rfl
      rw [hsz] at hi2 ⊢
      unfold pst at hi2 ⊢
      generalize pall σ j o nm ls k = P at *
      obtain ⟨p1, p2, p3⟩ := id hi
      have hT := ptop_le ls P
      have c3 := c.2
      have h' := h.sc c3
      have hb' := hb.sc hnm c3
      have e1 : f_X12_hasEntitled L σm 37 (nI j) (nI k) = some (any1 (ent σ o k) nm) := by rw [x12_hasEntitled h'.rd hj ((c3.at rfl).trans ho) k, ent_sc c3]
      have e49 : σm.1 49 j = σ.1 49 j := c3.at rfl
      obtain ⟨hS, hR, ⟨⟨hnb, hnm, hnl, hnB, hnN, htd, hnt, hnw⟩, ⟨eb, eb'⟩, ⟨em, em'⟩, ⟨el, el'⟩, ⟨eB, eB'⟩, ⟨eN, eN'⟩, ⟨et, et'⟩, ⟨ep, ep'⟩, ew, ew'⟩, hBR, hME, hLI, hBA, hTA, hNO, hHA, hRU, hWA, hSH, hLA⟩ := (h')
      by_cases q1 : ((σ.1 49 j >>> (nI k &&& 31)) &&& 1) = 1
      · by_cases q2 : any1 (ent σ o k) nm = 1
        · have qq : qf σ j o nm k = true := decide_eq_true ⟨q1, q2⟩
          rw [if_pos qq] at hi2 ⊢
          obtain ⟨σ2, g1, ⟨g2, g3, g4, g5⟩, g6, g7⟩ := x12_adds h hj ho c3 (T := ptop ls P) (k := k) (by omega) (by omega)
          obtain ⟨d1, d2, d3, d4⟩ := c.1 (ptop ls P) (by omega)
          have hBt : P.2.1 (ptop ls P) < 64 := by
            rcases Nat.lt_or_ge (ptop ls P) P.1 with u | u
            · exact (p3 _ u).2
            · rw [(p2 _ u).1]; omega
          have hR2 : RF lw σ2.2.1 := (h.sc g7).2.1
          have e64 : σ2.1 64 4 = ls := (g7.at rfl).trans hls
          rw [d1, or32 (by omega) (Nat.pow_lt_pow_right (by omega) (by omega))] at g2
          rw [d2] at g3
          rw [d3] at g4
          rw [d4] at g5
          have r4 : rI L σ2 64 4 = some (σ2.1 64 4) := rI_nI (i := 4) hS.l64 (by omega) (by omega)
          have nt' : ptop ls (padd ls P k (cnt (hca σ j o k) nm) (cnt (hcc σ j o k 1) nm) (cnt (hcc σ j o k 2) nm)) = if P.2.2.1 (ptop ls P) + cnt (hca σ j o k) nm < ls then ptop ls P else ptop ls P + 1 := by
            show (if ptop ls P + 1 = 0 ∨ ls ≤ (if ptop ls P = ptop ls P then P.2.2.1 (ptop ls P) + cnt (hca σ j o k) nm else P.2.2.1 (ptop ls P)) then ptop ls P + 1 else ptop ls P) = _
            rw [if_pos (rfl : ptop ls P = ptop ls P)]
            by_cases q : P.2.2.1 (ptop ls P) + cnt (hca σ j o k) nm < ls
            · rw [if_pos q, if_neg (fun u => u.elim (fun v => by omega) (fun v => Int32.not_le.mpr q v))]
            · rw [if_neg q, if_pos (Or.inr (Int32.not_lt.mp q))]
          refine ⟨(σ2, nI (ptop ls (padd ls P k (cnt (hca σ j o k) nm) (cnt (hcc σ j o k 1) nm) (cnt (hcc σ j o k 2) nm))), nI (k + 1)), ?_, ⟨fun t ht => ?_, g7⟩, rfl, rfl⟩
          · rw [nt']
            by_cases q : P.2.2.1 (ptop ls P) + cnt (hca σ j o k) nm < ls
            · rw [if_pos q]
              simp (disch := omega) only [f_X12_parts_46, f_X12_parts_105, f_X12_parts_107, eb', nI_leI, show ¬ nb ≤ k by omega, hR.r37_17, rI_nI hS.l49, rI_nI hS.l75, e49, q1, e1, q2, g1, hR2.r37_49, hR2.r37_36, r4, e64, g3, q, Int32.add_zero, nI_1, Option.bind_some, Option.elim_some, Option.elim_none, wi, x12_in, b3_z, ckb, ck0, ck1, putI, putR, putJ, not_true_eq_false, not_false_eq_true, if_true, if_false, and_self, and_true, true_and, one_ne0, zero_eq0, ite_self, sI_eq, sI_ne, sI_nk, sI_21, sI_22, sJ_21, sJ_1]
            · rw [if_neg q]
              simp (disch := omega) only [f_X12_parts_46, f_X12_parts_105, f_X12_parts_107, eb', nI_leI, show ¬ nb ≤ k by omega, hR.r37_17, rI_nI hS.l49, rI_nI hS.l75, e49, q1, e1, q2, g1, hR2.r37_49, hR2.r37_36, r4, e64, g3, q, nI_1, Option.bind_some, Option.elim_some, Option.elim_none, wi, x12_in, b3_z, ckb, ck0, ck1, putI, putR, putJ, not_true_eq_false, not_false_eq_true, if_true, if_false, and_self, and_true, true_and, one_ne0, zero_eq0, ite_self, sI_eq, sI_ne, sI_nk, sI_21, sI_22, sJ_21, sJ_1]
          · show _ = nI (if t = ptop ls P then P.2.1 t ||| 2 ^ k else P.2.1 t) ∧ _ = (if t = ptop ls P then P.2.2.1 t + _ else P.2.2.1 t) ∧ _ = (if t = ptop ls P then P.2.2.2.1 t + _ else P.2.2.2.1 t) ∧ _ = (if t = ptop ls P then P.2.2.2.2 t + _ else P.2.2.2.2 t)
            by_cases e : t = ptop ls P
            · rw [if_pos e, if_pos e, if_pos e, if_pos e, e]
              exact ⟨g2, g3, g4, g5⟩
            · rw [if_neg e, if_neg e, if_neg e, if_neg e]
              obtain ⟨u1, u2, u3, u4⟩ := g6 t e
              obtain ⟨v1, v2, v3, v4⟩ := c.1 t ht
              exact ⟨u1.trans v1, u2.trans v2, u3.trans v3, u4.trans v4⟩
        · have qq : ¬ qf σ j o nm k = true := fun u => q2 (of_decide_eq_true u).2
          have q3 : any1 (ent σ o k) nm = 0 := (any1_01 (ent σ o k) nm).resolve_right q2
          rw [if_neg qq]
          refine ⟨(σm, nI (ptop ls P), nI (k + 1)), ?_, c, rfl, rfl⟩
          simp (disch := omega) only [f_X12_parts_46, f_X12_parts_107, eb', nI_leI, show ¬ nb ≤ k by omega, hR.r37_17, rI_nI hS.l49, e49, q1, e1, q3, nI_1, Option.bind_some, Option.elim_some, Option.elim_none, wi, x12_in, b3_z, ckb, ck0, ck1, putI, putR, putJ, not_true_eq_false, not_false_eq_true, if_true, if_false, and_self, and_true, true_and, one_ne0, zero_eq0, ite_self, sI_eq, sI_ne, sI_nk, sI_21, sI_22, sJ_21, sJ_1]
      · have qq : ¬ qf σ j o nm k = true := fun u => q1 (of_decide_eq_true u).1
        rw [if_neg qq]
        refine ⟨(σm, nI (ptop ls P), nI (k + 1)), ?_, c, rfl, rfl⟩
        simp (disch := omega) only [f_X12_parts_46, f_X12_parts_107, eb', nI_leI, show ¬ nb ≤ k by omega, hR.r37_17, rI_nI hS.l49, e49, q1, nI_1, Option.bind_some, Option.elim_some, Option.elim_none, wi, x12_in, b3_z, ckb, ck0, ck1, putI, putR, putJ, not_true_eq_false, not_false_eq_true, if_true, if_false, and_self, and_true, true_and, one_ne0, zero_eq0, ite_self, sI_eq, sI_ne, sI_nk, sI_21, sI_22, sJ_21, sJ_1]
    · rintro K ⟨σm, x, y⟩ ⟨c, hx, hy⟩
      dsimp only at hx hy ⊢
      subst hx hy
      have c : PCr (pall σ j o nm ls nb) σ σm := c
      have hi := PI_all σ j o nm ls nb hnb6
      generalize pall σ j o nm ls nb = P at *
      obtain ⟨p1, p2, p3⟩ := id hi
      have hT := ptop_le ls P
      have c3 := c.2
      have h' := h.sc c3
      obtain ⟨hS, hR, ⟨⟨hnb, hnm, hnl, hnB, hnN, htd, hnt, hnw⟩, ⟨eb, eb'⟩, ⟨em, em'⟩, ⟨el, el'⟩, ⟨eB, eB'⟩, ⟨eN, eN'⟩, ⟨et, et'⟩, ⟨ep, ep'⟩, ew, ew'⟩, hBR, hME, hLI, hBA, hTA, hNO, hHA, hRU, hWA, hSH, hLA⟩ := (h')
      by_cases q4 : P.1 = 0 ∨ ls ≤ P.2.2.1 (P.1 - 1)
      · have et : ptop ls P = P.1 := if_pos q4
        have em : pmg ls P = P := if_pos (q4.imp (fun u => by omega) id)
        rw [em, et]
        refine ⟨sI σm 37 47 (nI P.1), ?_, sI_eq _ _ _ _, fun t ht => ?_, c3.wr rfl⟩
        · by_cases q6 : 6 ≤ P.1
          · simp (disch := omega) only [f_X12_parts_46, f_X12_parts_132, f_X12_parts_133, f_X12_parts_210, f_X12_parts_223, f_X12_parts_224, eb', nI_leI, Nat.le_refl, nle_r, q6, Option.bind_some, Option.elim_some, Option.elim_none, wi, x12_in, b3_z, ckb, ck0, ck1, putI, putR, putJ, not_true_eq_false, not_false_eq_true, if_true, if_false, and_self, and_true, true_and, one_ne0, zero_eq0, ite_self, sI_eq, sI_ne, sI_nk, sI_21, sI_22, sJ_21, sJ_1]
          · have e0 : σm.1 74 P.1 = 0 := by rw [(c.1 P.1 (by omega)).1, (p2 P.1 (Nat.le_refl _)).1, nI_0]
            simp (disch := omega) only [f_X12_parts_46, f_X12_parts_132, f_X12_parts_133, f_X12_parts_210, f_X12_parts_223, f_X12_parts_224, eb', nI_leI, Nat.le_refl, nle_r, q6, hR.r37_48, rI_nI hS.l74, e0, Option.bind_some, Option.elim_some, Option.elim_none, wi, x12_in, b3_z, ckb, ck0, ck1, putI, putR, putJ, not_true_eq_false, not_false_eq_true, if_true, if_false, and_self, and_true, true_and, one_ne0, zero_eq0, ite_self, sI_eq, sI_ne, sI_nk, sI_21, sI_22, sJ_21, sJ_1]
        · simp (disch := omega) only [sI_ne]
          exact c.1 t (by omega)
      · have et : ptop ls P = P.1 - 1 := if_neg q4
        have n0 : ¬ P.1 = 0 := fun u => q4 (Or.inl u)
        have nl' : ¬ ls ≤ P.2.2.1 (P.1 - 1) := fun u => q4 (Or.inr u)
        obtain ⟨u, hu⟩ : ∃ u, P.1 = u + 1 := ⟨P.1 - 1, by omega⟩
        have hz1 : P.1 - 1 = u := by omega
        have nz := p3 u (by omega)
        have cu := c.1 u (by omega)
        have e0 : ¬ σm.1 74 u = 0 := by rw [cu.1]; exact nI_ne0 nz.1 (by omega)
        rw [et, hz1]
        rcases Nat.eq_zero_or_pos u with z0 | z0
        · subst z0
          have em : pmg ls P = P := if_pos (Or.inl (by omega))
          rw [em]
          have e0 : ¬ σm.1 74 0 = 0 := e0
          have r0 : rI L σm 74 0 = some (σm.1 74 0) := rI_nI (i := 0) hS.l74 (by omega) (by omega)
          refine ⟨sI σm 37 47 1, ?_, by rw [hu]; exact sI_eq _ _ _ _, fun t ht => ?_, c3.wr rfl⟩
          · have l0 : ¬ (6 : Int32) ≤ 0 := by decide
            have l1 : (0 : Int32) ≤ 0 := by decide
            simp (disch := omega) only [f_X12_parts_46, f_X12_parts_132, f_X12_parts_133, f_X12_parts_210, f_X12_parts_223, f_X12_parts_224, eb', nI_leI, Nat.le_refl, nI_0, l0, l1, hR.r37_48, r0, e0, Option.bind_some, Option.elim_some, Option.elim_none, wi, x12_in, b3_z, ckb, ck0, ck1, putI, putR, putJ, not_true_eq_false, not_false_eq_true, if_true, if_false, and_self, and_true, true_and, one_ne0, zero_eq0, ite_self, sI_eq, sI_ne, sI_nk, sI_21, sI_22, sJ_21, sJ_1]
          · simp (disch := omega) only [sI_ne]
            exact c.1 t (by omega)
        · obtain ⟨q, hq⟩ : ∃ q, u = q + 1 := ⟨u - 1, by omega⟩
          subst hq
          have em : pmg ls P = _ := if_neg (fun v => v.elim (fun v => by omega) nl')
          rw [em, hz1, show P.1 - 2 = q by omega]
          obtain ⟨v1, v2, v3, v4⟩ := c.1 q (by omega)
          obtain ⟨w1, w2, w3, w4⟩ := cu
          have nq := p3 q (by omega)
          have e0' : ¬ nI (P.2.1 (q + 1)) = 0 := nI_ne0 nz.1 (by omega)
          have l6 : ¬ 6 ≤ q + 1 := by omega
          have l0 : ¬ nI (q + 1) ≤ 0 := fun v => by
            have := (nI_leI (a := q + 1) (b := 0) (by omega) (by omega)).mp v
            omega
          have l1 : ¬ nI (q + 1) = 0 := nI_ne0 (by omega) (by omega)
          refine ⟨sI (sI (sI (sI (sI σm 74 q (nI (P.2.1 q ||| P.2.1 (q + 1)))) 75 q (P.2.2.1 q + P.2.2.1 (q + 1))) 76 q (P.2.2.2.1 q + P.2.2.2.1 (q + 1))) 77 q (P.2.2.2.2 q + P.2.2.2.2 (q + 1))) 37 47 (nI (q + 1)), ?_, sI_eq _ _ _ _, fun t ht => ?_, ((((c3.wr rfl).wr rfl).wr rfl).wr rfl).wr rfl⟩
          · simp (disch := omega) only [f_X12_parts_46, f_X12_parts_132, f_X12_parts_133, f_X12_parts_210, f_X12_parts_223, f_X12_parts_224, eb', nI_leI, Nat.le_refl, nle_r, l6, l0, l1, nI_pred, hR.r37_48, hR.r37_49, hR.r37_50, hR.r37_51, rI_nI hS.l74, rI_nI hS.l75, rI_nI hS.l76, rI_nI hS.l77, wI_nI hS.l74, wI_nI hS.l75, wI_nI hS.l76, wI_nI hS.l77, v1, v2, v3, v4, w1, w2, w3, w4, e0', or32 (show P.2.1 q < 2 ^ 31 by omega) (show P.2.1 (q + 1) < 2 ^ 31 by omega), Option.bind_some, Option.elim_some, Option.elim_none, wi, x12_in, b3_z, ckb, ck0, ck1, putI, putR, putJ, not_true_eq_false, not_false_eq_true, if_true, if_false, and_self, and_true, true_and, one_ne0, zero_eq0, ite_self, sI_eq, sI_ne, sI_nk, sI_21, sI_22, sJ_21, sJ_1]
          · have ht : t < q + 1 := ht
            show _ = nI (if t = q then _ else P.2.1 t) ∧ _ = (if t = q then _ else P.2.2.1 t) ∧ _ = (if t = q then _ else P.2.2.2.1 t) ∧ _ = (if t = q then _ else P.2.2.2.2 t)
            by_cases e : t = q
            · rw [if_pos e, if_pos e, if_pos e, if_pos e, e]
              simp (disch := omega) only [sI_eq, sI_ne, and_self]
            · rw [if_neg e, if_neg e, if_neg e, if_neg e]
              simp (disch := omega) only [sI_ne, sI_nk]
              exact c.1 t (by omega)
    · exact ⟨c0, rfl, rfl⟩
  unfold f_X12_parts
  refine loopI (F := fun f (q : Sto × Int32) => f_X12_parts_2 f L q.1 37 (nI j) q.2) (I := fun k q => (∀ t, t < k → σ.1 74 0 = σ.1 74 0 ∧ q.1.1 74 t = 0 ∧ q.1.1 75 t = 0 ∧ q.1.1 76 t = 0 ∧ q.1.1 77 t = 0) ∧ SC σ q.1 ∧ q.2 = nI k) (n := 6) (s := (σ, 0)) _ ?_ ?_ (FU_lt (by omega)) ?_
  · rintro k K ⟨σm, y⟩ hk ⟨c, c3, hy⟩
    left
    dsimp only at c c3 hy ⊢
    subst hy
    have h' := h.sc c3
    obtain ⟨hS, hR, ⟨⟨hnb, hnm, hnl, hnB, hnN, htd, hnt, hnw⟩, ⟨eb, eb'⟩, ⟨em, em'⟩, ⟨el, el'⟩, ⟨eB, eB'⟩, ⟨eN, eN'⟩, ⟨et, et'⟩, ⟨ep, ep'⟩, ew, ew'⟩, hBR, hME, hLI, hBA, hTA, hNO, hHA, hRU, hWA, hSH, hLA⟩ := (h')
    refine ⟨(sI (sI (sI (sI σm 74 k 0) 75 k 0) 76 k 0) 77 k 0, nI (k + 1)), ?_, fun t ht => ?_, (((c3.wr rfl).wr rfl).wr rfl).wr rfl, rfl⟩
    · simp (disch := omega) only [f_X12_parts_2, nle_r, show ¬ 6 ≤ k by omega, hR.r37_48, hR.r37_49, hR.r37_50, hR.r37_51, wI_nI hS.l74, wI_nI hS.l75, wI_nI hS.l76, wI_nI hS.l77, nI_1, Option.bind_some, Option.elim_some, Option.elim_none, wi, x12_in, b3_z, ckb, ck0, ck1, putI, putR, putJ, not_true_eq_false, not_false_eq_true, if_true, if_false, and_self, and_true, true_and, one_ne0, zero_eq0, ite_self, sI_eq, sI_ne, sI_nk, sI_21, sI_22, sJ_21, sJ_1]
    · refine ⟨rfl, ?_⟩
      by_cases e : t = k
      · subst e
        simp (disch := omega) only [sI_eq, sI_ne, and_self]
      · simp (disch := omega) only [sI_ne, sI_nk]
        exact (c t (by omega)).2
  · rintro K ⟨σm, y⟩ ⟨c, c3, hy⟩
    dsimp only at c c3 hy ⊢
    subst hy
    obtain ⟨σ2, m1, m2⟩ := tail (σ' := σm) ⟨fun t ht => (c t ht).2, c3⟩
    exact ⟨σ2, by simp (disch := omega) only [f_X12_parts_2, nle_r, Nat.le_refl, if_true, m1], m2⟩
  · exact ⟨fun t ht => absurd ht (by omega), SC.rf σ, rfl⟩
end
