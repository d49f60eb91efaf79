/-! plan, planned, check -/
def OPq (L : Lay) (x : Option (Int32 × Sto)) (y : Sto → Option Int32) : Prop := ∃ v σ1, x = some (v, σ1) ∧ y σ1 = some v ∧ IV L σ1
theorem w12i (L : Lay) (σ : Sto) {n : Nat} (h1 : 1 ≤ n) (h2 : n ≤ 12) : f_X11_isWithin L σ (nI n) 1 12 = some 1 := by
  rw [wi, b3_t ⟨nI_le (a := 1) (by omega) (by omega), nI_le (b := 12) (by omega) (by omega)⟩]
section
variable {nb nm nl nB nN td nt nw lw : Nat} {w : Nat → Nat} {L : Lay} {σ : Sto}
theorem x11_make (h : RD nb nm td lw w L σ) {j r n c l F A : Nat} {H : Nat → Nat} (hba : f_X11_ballotAt L σ 0 (nI j) = some (some (r + 80))) (b14 : σ.1 (r + 80) 1 = σ.1 49 j) (hp : PLN σ nm td j n c l F A H) : ∃ σ2 B, f_X11_makePlan L σ 0 (nI j) (nI n) = some (1, σ2) ∧ CH n c l H B σ σ2 ∧ BST n c l F A H B := by
  obtain ⟨⟨p1, p2, p3, p4, p5, p6, p7⟩, q1, q2, ⟨q3, q4⟩, ⟨q5, q6⟩, ⟨q7, q8⟩, q9⟩ := hp
  have s1 := x10_strikePay h (σ.1 49 j) (σ.1 64 1)
  have s2 := x10_strikesVital h (σ.1 49 j)
  rw [q1] at s1
  obtain ⟨⟨hS, hR⟩, ⟨hnb, hnm, htd⟩, ⟨eb, eb'⟩, ⟨em, em'⟩, ⟨et, et'⟩, hBR, hME⟩ := id h
  obtain ⟨σ2, B, g1, g2, g3⟩ := x6_make hS hR p7 p1 p2 p3 p5 p6 p4 q3 q5 (fun k hk => (q9 k hk).1)
  have r1 : rI L σ 30 1 = some (σ.1 64 1) := by rw [show rI L σ 30 1 = some (σ.1 30 1) from rI_nI (i := 1) hS.l30 (by omega) (by omega), q7]
  have r3 : rI L σ 30 3 = some (σ.1 64 3) := by rw [show rI L σ 30 3 = some (σ.1 30 3) from rI_nI (i := 3) hS.l30 (by omega) (by omega), q8]
  refine ⟨σ2, B, ?_, g2, g3⟩
  have e71 : ∀ v, v = nI l → f_X11_makePlan_71 L σ 0 (nI n) (nI c) v = some (1, σ2) := fun v hv => by
    subst hv
    simp only [f_X11_makePlan_71, hR.r0_12, g1, ck1, Option.bind_some]
  unfold f_X11_makePlan
  rw [hba, Option.bind_some, Option.elim_some, w12i L σ p1 p2, Option.bind_some, if_neg (by decide), Option.bind_some, hR.r0_12, Option.bind_some, hR.r28_1, Option.bind_some, r1, Option.bind_some, hR.r0_0, Option.bind_some, b14, s1, Option.bind_some, Option.bind_some, Option.bind_some, b14, s2, Option.bind_some]
  by_cases q : any1 (vtC σ (σ.1 49 j) (nI td)) nm = 0
  · rw [if_pos q] at q2
    rw [if_pos q, Option.bind_some, hR.r28_1, Option.bind_some, r3, Option.bind_some]
    exact e71 _ q2.symm
  · rw [if_neg q] at q2
    rw [if_neg q]
    exact e71 _ q2.symm
theorem x12_bestDays (h : RD nb nm td lw w L σ) {j n c l F A : Nat} {H : Nat → Nat} (hj : j < 12) (hp : PLN σ nm td j n c l F A H) : ∃ B, f_X12_bestDays L σ 37 (nI j) (nI n) = some (nI B) ∧ BST n c l F A H B := by
  obtain ⟨⟨p1, p2, p3, p4, p5, p6, p7⟩, q1, q2, ⟨q3, q4⟩, ⟨q5, q6⟩, ⟨q7, q8⟩, q9⟩ := hp
  have s1 := x12_costOf h hj
  have s2 := x12_isVital h hj
  rw [q1] at s1
  obtain ⟨⟨hS, hR⟩, ⟨hnb, hnm, htd⟩, ⟨eb, eb'⟩, ⟨em, em'⟩, ⟨et, et'⟩, hBR, hME⟩ := id h
  obtain ⟨r, g1, B, rfl, g2⟩ := x12_best (L := L) hS hR p7 (fun k hk => (q9 k hk).2) q4 q6 p5 p6 p3 p4 p2
  have r3 : rI L σ 64 3 = some (σ.1 64 3) := rI_nI (i := 3) hS.l64 (by omega) (by omega)
  refine ⟨B, ?_, g2⟩
  unfold f_X12_bestDays
  rw [s1, Option.bind_some, s2, Option.bind_some]
  by_cases q : any1 (vtC σ (σ.1 49 j) (nI td)) nm = 0
  · rw [if_pos q] at q2
    rw [if_pos q, hR.r37_36, Option.bind_some, r3, Option.bind_some, ← q2]
    exact g1
  · rw [if_neg q] at q2
    rw [if_neg q, ← q2]
    exact g1
theorem vtC_sc {σ σ' : Sto} (h : SC σ σ') (z d : Int32) : vtC σ' z d = vtC σ z d := funext fun i => by
  unfold vtC
  exact decide_eq_decide.mpr (by rw [inS_sc h, ofS_sc h, h.at (a := 38) rfl])
theorem cst_sc {σ σ' : Sto} (h : SC σ σ') (z d p : Int32) (n : Nat) : cst σ' z d p n = cst σ z d p n := itr_congr n 0 (fun i _ x => by
  simp only [inS_sc h, h.at (a := 40) (k := i) rfl, h.at (a := 41) (k := i) rfl])
theorem PLN.sc {σ σ' : Sto} {nm td j n c l F A : Nat} {H : Nat → Nat} (s : SC σ σ') (h : PLN σ nm td j n c l F A H) : PLN σ' nm td j n c l F A H := by
  obtain ⟨p, q1, q2, q3, q5, q7, q9⟩ := h
  refine ⟨p, ?_, ?_, ?_, ?_, ?_, fun k hk => ?_⟩
  · rw [cst_sc s, s.at (a := 49) rfl, s.at (a := 64) rfl]; exact q1
  · rw [vtC_sc s, s.at (a := 49) rfl, s.at (a := 64) rfl]; exact q2
  · rw [s.at (a := 30) rfl, s.at (a := 64) rfl]; exact q3
  · rw [s.at (a := 30) rfl, s.at (a := 64) rfl]; exact q5
  · rw [s.at (a := 30) rfl, s.at (a := 64) rfl, s.at (a := 30) rfl, s.at (a := 64) rfl]; exact q7
  · rw [s.at (a := 29) rfl, s.at (a := 63) rfl]; exact q9 k hk
/-- where there is no plan -/
theorem mk_out (hS : SF L) (hR : RF lw σ.2.1) {nB : Nat} (eB : σ.1 0 3 = nI nB) (hnB : nB ≤ 12) {x y : Int32} (hx : (x < 0 ∨ nI nB ≤ x) ∨ ¬ (1 ≤ y ∧ y ≤ 12)) (hb : ∀ j, j < nB → ∃ r, σ.2.1 9 j = some r) : f_X11_makePlan L σ 0 x y = some (0, σ) := by
  rcases ixc x nB (by omega) with hx' | ⟨j, hj, rfl⟩
  · simp only [f_X11_makePlan, bAt_out eB hnB hx', Option.bind_some, Option.elim_none, ck0]
  · have hy : ¬ (1 ≤ y ∧ y ≤ 12) := hx.resolve_left (fun u => u.elim (nI_pos (by omega)) (fun v => by have := (nI_leI (by omega) (by omega)).mp v; omega))
    obtain ⟨r, e⟩ := hb j hj
    simp only [f_X11_makePlan, bAt_in hS hR eB hnB hj, e, Option.bind_some, Option.elim_some, wi, b3_f hy, ck0, if_true]
theorem isP_out {nB : Nat} (eB' : σ.1 37 16 = nI nB) (hnB : nB ≤ 12) {x y : Int32} (hx : (x < 0 ∨ nI nB ≤ x) ∨ ¬ (1 ≤ y ∧ y ≤ 12)) : f_X12_isPlan L σ 37 x y = some 0 := by
  rcases ixc x nB (by omega) with hx' | ⟨j, hj, rfl⟩
  · simp only [f_X12_isPlan, isBa_out eB' hnB hx', Option.bind_some, ck0, if_true]
  · have hy : ¬ (1 ≤ y ∧ y ≤ 12) := hx.resolve_left (fun u => u.elim (nI_pos (by omega)) (fun v => by have := (nI_leI (by omega) (by omega)).mp v; omega))
    simp only [f_X12_isPlan, isBa_in eB' hnB hj, x12_in, wi, b3_f hy, Option.bind_some, ck0, if_true, if_false, one_ne0]
theorem isP_in {nB j n : Nat} (eB' : σ.1 37 16 = nI nB) (hnB : nB ≤ 12) (hj : j < nB) (h1 : 1 ≤ n) (h2 : n ≤ 12) : f_X12_isPlan L σ 37 (nI j) (nI n) = some 1 := by
  simp only [f_X12_isPlan, isBa_in eB' hnB hj, x12_in, w12i _ _ h1 h2, Option.bind_some, ck1, if_false, one_ne0]
theorem pl_cases {nB : Nat} (hnB : nB ≤ 12) (x y : Int32) : ((x < 0 ∨ nI nB ≤ x) ∨ ¬ (1 ≤ y ∧ y ≤ 12)) ∨ ∃ j n, j < nB ∧ 1 ≤ n ∧ n ≤ 12 ∧ x = nI j ∧ y = nI n := by
  rcases ixc x nB (by omega) with hx' | ⟨j, hj, rfl⟩
  · exact Or.inl (Or.inl hx')
  · by_cases q : 1 ≤ y ∧ y ≤ 12
    · have h0 : ¬ y < 0 := fun u => absurd (Int32.lt_of_le_of_lt q.1 u) (by decide)
      obtain ⟨n, hn, rfl⟩ := nI_of h0
      have a := (nI_leI (a := 1) (b := n) (by omega) hn).mp q.1
      have b := (nI_leI (a := n) (b := 12) hn (by omega)).mp q.2
      exact Or.inr ⟨j, n, hj, a, b, rfl, rfl⟩
    · exact Or.inl (Or.inr q)
theorem op_plan (h : INVP nb nm nl nB nN td nt nw lw w L σ) (x y : Int32) : OPq L (f_X11_plan L σ 0 x y) (fun σ1 => f_X12_plan L σ1 37 x y) := by
  have h0 := h
  obtain ⟨hS, hR, ⟨⟨hnb, hnm, hnl, hnB, hnN, htd, hnt, hnw⟩, ⟨eb, eb'⟩, ⟨em, em'⟩, ⟨el, el'⟩, ⟨eB, eB'⟩, ⟨eN, eN'⟩, ⟨et, et'⟩, ⟨ep, ep'⟩, ew, ew'⟩, hBR, hME, hLI, hBA, hTA, hNO, hHA, hRU, hWA, hSH, hLA⟩ := id h
  rcases pl_cases hnB x y with hx | ⟨j, n, hj, n1, n2, rfl, rfl⟩
  · refine ⟨-1000000001, σ, ?_, ?_, h0.iv⟩
    · simp only [f_X11_plan, mk_out hS hR eB hnB hx (fun j hj => by obtain ⟨r, o, hb⟩ := hBA j hj; exact ⟨_, hb.1.1⟩), Option.bind_some, if_true]
    · simp only [f_X12_plan, isP_out eB' hnB hx, Option.bind_some, if_true]
  · obtain ⟨r, o, hb⟩ := hBA j hj
    obtain ⟨c, l, F, A, H, hp⟩ := pln_ex h0 j n1 n2
    have hba : f_X11_ballotAt L σ 0 (nI j) = some (some (r + 80)) := by rw [bAt_in hS hR eB hnB hj, hb.1.1]
    obtain ⟨σ2, B, g1, g2, g3⟩ := x11_make h0.rd hba hb.2.2.2.1.1 hp
    have h2 := h0.sc g2.1
    obtain ⟨C, k1, k2⟩ := x12_bestDays h2.rd (show j < 12 by omega) (hp.sc g2.1)
    obtain rfl := g3.un k2
    have hR2 : RF lw σ2.2.1 := h2.2.1
    have h4 := p12 n2
    have hh := x12_harmOf (L := L) (σ := σ2) hS hR2 (fun k hk => ((hp.sc g2.1).2.2.2.2.2.2 k hk).2) (T := B) (by have := g3.1; omega)
    refine ⟨nI (hmN H B 12), σ2, ?_, ?_, h2.iv⟩
    · simp only [f_X11_plan, g1, hR2.r0_12, g2.2.2.2.2, Option.bind_some, if_false, one_ne0]
    · simp only [f_X12_plan, isP_in ((g2.1.at rfl).trans eB') hnB hj n1 n2, k1, hh, Option.bind_some, if_false, one_ne0]
theorem op_planned (h : INVP nb nm nl nB nN td nt nw lw w L σ) (x y : Int32) : OPq L (f_X11_planned L σ 0 x y) (fun σ1 => f_X12_planned L σ1 37 x y) := by
  have h0 := h
  obtain ⟨hS, hR, ⟨⟨hnb, hnm, hnl, hnB, hnN, htd, hnt, hnw⟩, ⟨eb, eb'⟩, ⟨em, em'⟩, ⟨el, el'⟩, ⟨eB, eB'⟩, ⟨eN, eN'⟩, ⟨et, et'⟩, ⟨ep, ep'⟩, ew, ew'⟩, hBR, hME, hLI, hBA, hTA, hNO, hHA, hRU, hWA, hSH, hLA⟩ := id h
  rcases pl_cases hnB x y with hx | ⟨j, n, hj, n1, n2, rfl, rfl⟩
  · refine ⟨-1000000001, σ, ?_, ?_, h0.iv⟩
    · simp only [f_X11_planned, mk_out hS hR eB hnB hx (fun j hj => by obtain ⟨r, o, hb⟩ := hBA j hj; exact ⟨_, hb.1.1⟩), Option.bind_some, if_true]
    · simp only [f_X12_planned, isP_out eB' hnB hx, Option.bind_some, if_true]
  · obtain ⟨r, o, hb⟩ := hBA j hj
    obtain ⟨c, l, F, A, H, hp⟩ := pln_ex h0 j n1 n2
    have hba : f_X11_ballotAt L σ 0 (nI j) = some (some (r + 80)) := by rw [bAt_in hS hR eB hnB hj, hb.1.1]
    obtain ⟨σ2, B, g1, g2, g3⟩ := x11_make h0.rd hba hb.2.2.2.1.1 hp
    have h2 := h0.sc g2.1
    obtain ⟨C, k1, k2⟩ := x12_bestDays h2.rd (show j < 12 by omega) (hp.sc g2.1)
    obtain rfl := g3.un k2
    have hR2 : RF lw σ2.2.1 := h2.2.1
    refine ⟨nI B, σ2, ?_, ?_, h2.iv⟩
    · simp only [f_X11_planned, g1, hR2.r0_12, g2.2.2.2.1, Option.bind_some, if_false, one_ne0]
    · simp only [f_X12_planned, isP_in ((g2.1.at rfl).trans eB') hnB hj n1 n2, k1, Option.bind_some, if_false, one_ne0]
end
