section
variable {nb nm nl nB nN td nt nw lw : Nat} {w : Nat → Nat} {L : Lay} {σ : Sto}
theorem nmS_lo {N nm td : Nat} {x b h g : Int32} (hN : 80 ≤ N) {a k : Nat} (ha : a < N) (hk : ¬ (a = 1 ∧ k = 3)) : (nmS σ N nm td x b h g).1 a k = σ.1 a k := by
  unfold nmS
  rw [sI_at, if_neg hk, sR_1, sI_ne (by omega), sI_ne (by omega), sI_ne (by omega), sI_ne (by omega), sI_ne (by omega), sR_1, zS_ne (by omega), sR_1, zS_ne (by omega), sI_ne (by omega), zS_ne (by omega)]
theorem nmS_rl {N nm td : Nat} {x b h g : Int32} (hN : 80 ≤ N) {a k : Nat} (ha : a < N) (hk : ¬ (a = 3 ∧ k = nm)) : (nmS σ N nm td x b h g).2.1 a k = σ.2.1 a k := by
  unfold nmS
  rw [sI_21, sR_at, if_neg hk, sI_21, sI_21, sI_21, sI_21, sI_21, sR_ne (by omega), zS_rn (by omega), sR_ne (by omega), zS_rn (by omega), sI_21, zS_rn (by omega)]
theorem x12_member (hS : SF L) {σ : Sto} (hR : RF lw σ.2.1) (eb' : σ.1 37 2 = nI nb) (em' : σ.1 37 4 = nI nm) (et' : σ.1 37 1 = nI td) (hnb : nb ≤ 6) {x y z : Int32} {b : Nat} (hx : 0 ≤ x ∧ x ≤ 9999) (hb : b < nb) (hy : 1 ≤ y ∧ y ≤ 48) (hz : 1 ≤ z ∧ z ≤ 999) (hm : nm < 40) : f_X12_member L σ 37 x (nI b) y z = some (nI nm, sI (sI (sI (sI (sI (sI (sI (sI (sI σ 39 nm x) 40 nm y) 41 nm z) 42 nm (nI td)) 43 nm (-1)) 44 nm 1) 45 (7 * nm) (nI b)) 46 (7 * nm) (nI td)) 37 4 (nI (nm + 1))) := by
  simp (disch := omega) only [f_X12_member, isBr_in eb' hnb hb, hx, hy, hz, em', neq_l, show ¬ nm = 40 by omega, hR.r37_5, hR.r37_6, hR.r37_7, hR.r37_8, hR.r37_9, hR.r37_10, hR.r37_11, hR.r37_12, wI_nI hS.l39, wI_nI hS.l40, wI_nI hS.l41, wI_nI hS.l42, wI_nI hS.l43, wI_nI hS.l44, wI_nI hS.l45, wI_nI hS.l46, mul_lit, et', nI_1, nI_pred, Option.bind_some, Option.elim_some, Option.elim_none, wi, x12_in, b3_z, ckb, ck0, ck1, putI, putR, putJ, not_true_eq_false, not_false_eq_true, if_true, if_false, and_self, and_true, true_and, one_ne0, zero_eq0, ite_self, sI_eq, sI_ne, sI_nk, sI_21, sI_22, sJ_21, sJ_1]
theorem op_member (h : INVP nb nm nl nB nN td nt nw lw w L σ) (x y z u : Int32) : OPa L (f_X11_member L σ 0 x y z u) (fun L1 σ1 => f_X12_member L1 σ1 37 x y z u) := by
  have hN := h.hN
  have h0 := h
  obtain ⟨hS, hR, ⟨⟨hnb, hnm, hnl, hnB, hnN, htd, hnt, hnw⟩, ⟨eb, eb'⟩, ⟨em, em'⟩, ⟨el, el'⟩, ⟨eB, eB'⟩, ⟨eN, eN'⟩, ⟨et, et'⟩, ⟨ep, ep'⟩, ew, ew'⟩, hBR, hME, hLI, hBA, hTA, hNO, hHA, hRU, hWA, hSH, hLA⟩ := id h
  by_cases hx : 0 ≤ x ∧ x ≤ 9999
  · rcases ixc y nb (by omega) with hb | ⟨b, hb, rfl⟩
    · refine opa_of (v := -1000000001) ?_ ?_ h.iv
      · simp only [f_X11_member, f_X11_isMark, hR.r0_0, hx, hB_out eb hnb hb, Option.bind_some, Option.elim_some, Option.elim_none, wi, x12_in, b3_z, ckb, ck0, ck1, putI, putR, putJ, not_true_eq_false, not_false_eq_true, if_true, if_false, and_self, and_true, true_and, one_ne0, zero_eq0, ite_self, sI_eq, sI_ne, sI_nk, sI_21, sI_22, sJ_21, sJ_1]
      · simp only [f_X12_member, hx, isBr_out eb' hnb hb, Option.bind_some, Option.elim_some, Option.elim_none, wi, x12_in, b3_z, ckb, ck0, ck1, putI, putR, putJ, not_true_eq_false, not_false_eq_true, if_true, if_false, and_self, and_true, true_and, one_ne0, zero_eq0, ite_self, sI_eq, sI_ne, sI_nk, sI_21, sI_22, sJ_21, sJ_1]
    · by_cases hz : 1 ≤ z ∧ z ≤ 48
      · by_cases hu : 1 ≤ u ∧ u ≤ 999
        · by_cases hm : nm < 40
          · have hN80 := hS.nx
            obtain ⟨r, hr⟩ : ∃ r, L.2.2.1 = r + 80 := ⟨L.2.2.1 - 80, by omega⟩
            have A := x11_member h0 hx hb hz hu hm
            obtain ⟨L1, eL⟩ : ∃ L1, L1 = pL (pL (pL L 2 0 9) 20 6 6) 20 6 6 := ⟨_, rfl⟩
            have hl : LE L L1 := by rw [eL]; exact ((LE.push _ _ _ _).tr (LE.push _ _ _ _)).tr (LE.push _ _ _ _)
            have n1 : L1.2.2.1 = r + 83 := by rw [eL, pL_n, pL_n, pL_n, hr]
            have n2 : L1.2.2.2 = L.2.2.2 + 21 := by rw [eL, pL_w, pL_w, pL_w]
            have l1 : L1.2.1 (r + 81) = 6 := by rw [eL, pL_ne (by rw [pL_n, pL_n, hr]; omega), show r + 81 = (pL L 2 0 9).2.2.1 by rw [pL_n, hr], pL_eq]
            have l2 : L1.2.1 (r + 82) = 6 := by rw [eL, show r + 82 = (pL (pL L 2 0 9) 20 6 6).2.2.1 by rw [pL_n, pL_n, hr], pL_eq]
            rw [← eL] at A
            obtain ⟨σ1, e1⟩ : ∃ s, s = nmS σ L.2.2.1 nm td x (nI b) z u := ⟨_, rfl⟩
            rw [← e1] at A
            have g1 : ∀ a k, a < r + 80 → ¬ (a = 1 ∧ k = 3) → σ1.1 a k = σ.1 a k := fun a k ha hk => by rw [e1]; exact nmS_lo hN80 (by omega) hk
            have r1 : ∀ a k, a < r + 80 → ¬ (a = 3 ∧ k = nm) → σ1.2.1 a k = σ.2.1 a k := fun a k ha hk => by rw [e1]; exact nmS_rl hN80 (by omega) hk
            have hR1 : RF lw σ1.2.1 := hR.fr (fun a k a1 a2 a3 a4 => r1 a k (by omega) (by omega))
            have B := x12_member (lw := lw) (nb := nb) (nm := nm) (td := td) (hS.fr hl) hR1 ((g1 _ _ (by omega) (by omega)).trans eb') ((g1 _ _ (by omega) (by omega)).trans em') ((g1 _ _ (by omega) (by omega)).trans et') hnb hx hb hz hu hm
            refine ⟨_, _, _, _, A, B, ?_, by omega, by omega⟩
            obtain ⟨σ2, e2⟩ : ∃ s, s = sI (sI (sI (sI (sI (sI (sI (sI (sI σ1 39 nm x) 40 nm z) 41 nm u) 42 nm (nI td)) 43 nm (-1)) 44 nm 1) 45 (7 * nm) (nI b)) 46 (7 * nm) (nI td)) 37 4 (nI (nm + 1)) := ⟨_, rfl⟩
            rw [← e2]
            have g2 : ∀ a k, ¬ (39 ≤ a ∧ a ≤ 44 ∧ k = nm) → ¬ ((a = 45 ∨ a = 46) ∧ k = 7 * nm) → ¬ (a = 37 ∧ k = 4) → σ2.1 a k = σ1.1 a k := fun a k q1 q2 q3 => by
              rw [e2, sI_at, if_neg (by omega), sI_at, if_neg (by omega), sI_at, if_neg (by omega), sI_at, if_neg (by omega), sI_at, if_neg (by omega), sI_at, if_neg (by omega), sI_at, if_neg (by omega), sI_at, if_neg (by omega), sI_at, if_neg (by omega)]
            have er2 : σ2.2.1 = σ1.2.1 := by rw [e2]; rfl
            have g : ∀ a k, a < r + 80 → ¬ (a = 1 ∧ k = 3) → ¬ (39 ≤ a ∧ a ≤ 44 ∧ k = nm) → ¬ ((a = 45 ∨ a = 46) ∧ k = 7 * nm) → ¬ (a = 37 ∧ k = 4) → σ2.1 a k = σ.1 a k := fun a k q0 q1 q2 q3 q4 => (g2 a k q2 q3 q4).trans (g1 a k q0 q1)
            have ag : ∀ P : Nat → Nat → Bool, (∀ a k, r + 80 ≤ a → P a k = false) → P 1 3 = false → (∀ a, 39 ≤ a → a ≤ 44 → P a nm = false) → P 45 (7 * nm) = false → P 46 (7 * nm) = false → P 37 4 = false → AG P σ σ2 := fun P p0 p1 p2 p3 p4 p5 a k p => by
              refine g a k ?_ ?_ ?_ ?_ ?_
              · rcases Nat.lt_or_ge a (r + 80) with q | q
                · exact q
                · rw [p0 a k q] at p; cases p
              · rintro ⟨rfl, rfl⟩; rw [p1] at p; cases p
              · rintro ⟨q1, q2, rfl⟩; rw [p2 a q1 q2] at p; cases p
              · rintro ⟨rfl | rfl, rfl⟩
                · rw [p3] at p; cases p
                · rw [p4] at p; cases p
              · rintro ⟨rfl, rfl⟩; rw [p5] at p; cases p
            have m6 : ∀ a, 39 ≤ a → a ≤ 44 → a = 39 ∨ a = 40 ∨ a = 41 ∨ a = 42 ∨ a = 43 ∨ a = 44 := fun a q1 q2 => by omega
            have lo : ∀ P : Nat → Nat → Bool, (∀ a k, 80 ≤ a → P a k = false) → (∀ a, 39 ≤ a → a ≤ 44 → P a nm = false) → P 1 3 = false → P 45 (7 * nm) = false → P 46 (7 * nm) = false → P 37 4 = false → AG P σ σ2 := fun P p0 p2 p1 p3 p4 p5 => ag P (fun a k q => p0 a k (by omega)) p1 p2 p3 p4 p5
            have hw : ∀ q, q + 80 < L.2.2.1 → (fun q => if q + 80 < L.2.2.1 then w q else nm) q = w q := fun q hq => if_pos hq
            refine ⟨nb, nm + 1, nl, nB, nN, td, nt, nw, lw, fun q => if q + 80 < L.2.2.1 then w q else nm, hS.fr hl, by rw [er2]; exact hR1, ?_, hBR.fr (lo _ (fun _ _ q => lo_BR q) (fun a q1 q2 => by rcases m6 a q1 q2 with rfl | rfl | rfl | rfl | rfl | rfl <;> rfl) rfl rfl rfl rfl), ?_, hLI.fr (lo _ (fun _ _ q => lo_LI q) (fun a q1 q2 => by rcases m6 a q1 q2 with rfl | rfl | rfl | rfl | rfl | rfl <;> rfl) rfl rfl rfl rfl), ?_, hTA.fr (lo _ (fun _ _ q => lo_TA q) (fun a q1 q2 => by rcases m6 a q1 q2 with rfl | rfl | rfl | rfl | rfl | rfl <;> rfl) rfl rfl rfl rfl), ?_, hHA.fr (lo _ (fun _ _ q => lo_HA q) (fun a q1 q2 => by rcases m6 a q1 q2 with rfl | rfl | rfl | rfl | rfl | rfl <;> rfl) rfl rfl rfl rfl), hRU.fr (lo _ (fun _ _ q => lo_RU q) (fun a q1 q2 => by rcases m6 a q1 q2 with rfl | rfl | rfl | rfl | rfl | rfl <;> rfl) rfl rfl rfl rfl), hWA.fr (lo _ (fun _ _ q => lo_WA q) (fun a q1 q2 => by rcases m6 a q1 q2 with rfl | rfl | rfl | rfl | rfl | rfl <;> rfl) rfl rfl rfl rfl), hSH.fr (lo _ (fun _ _ q => lo_SH q) (fun a q1 q2 => by rcases m6 a q1 q2 with rfl | rfl | rfl | rfl | rfl | rfl <;> rfl) rfl rfl rfl rfl), hLA.fr hR.lw (lo _ (fun _ _ q => lo_LA q) (fun a q1 q2 => by rcases m6 a q1 q2 with rfl | rfl | rfl | rfl | rfl | rfl <;> rfl) rfl rfl rfl rfl)⟩
            · have v13 : σ2.1 1 3 = nI (nm + 1) := by rw [g2 _ _ (by omega) (by omega) (by omega), e1]; exact sI_eq _ _ _ _
              have v37 : σ2.1 37 4 = nI (nm + 1) := by rw [e2]; exact sI_eq _ _ _ _
              refine ⟨⟨hnb, by omega, hnl, hnB, hnN, htd, hnt, hnw⟩, ⟨?_, ?_⟩, ⟨v13, v37⟩, ⟨?_, ?_⟩, ⟨?_, ?_⟩, ⟨?_, ?_⟩, ⟨?_, ?_⟩, ⟨?_, ?_⟩, ?_, ?_⟩
              · rw [g _ _ (by omega) (by omega) (by omega) (by omega) (by omega)]; exact eb
              · rw [g _ _ (by omega) (by omega) (by omega) (by omega) (by omega)]; exact eb'
              · rw [g _ _ (by omega) (by omega) (by omega) (by omega) (by omega)]; exact el
              · rw [g _ _ (by omega) (by omega) (by omega) (by omega) (by omega)]; exact el'
              · rw [g _ _ (by omega) (by omega) (by omega) (by omega) (by omega)]; exact eB
              · rw [g _ _ (by omega) (by omega) (by omega) (by omega) (by omega)]; exact eB'
              · rw [g _ _ (by omega) (by omega) (by omega) (by omega) (by omega)]; exact eN
              · rw [g _ _ (by omega) (by omega) (by omega) (by omega) (by omega)]; exact eN'
              · rw [g _ _ (by omega) (by omega) (by omega) (by omega) (by omega)]; exact et
              · rw [g _ _ (by omega) (by omega) (by omega) (by omega) (by omega)]; exact et'
              · rw [g _ _ (by omega) (by omega) (by omega) (by omega) (by omega)]; exact ep
              · rw [g _ _ (by omega) (by omega) (by omega) (by omega) (by omega)]; exact ep'
              · rw [g _ _ (by omega) (by omega) (by omega) (by omega) (by omega)]; exact ew
              · rw [g _ _ (by omega) (by omega) (by omega) (by omega) (by omega)]; exact ew'
            · intro i hi
              by_cases q : i = nm
              · subst q
                refine ⟨r, 0, td, ?_⟩
                obtain ⟨hh, -, hh2, eh⟩ := of_btw (a := 1) (b := 48) hz (by omega)
                obtain ⟨gg, -, gg2, eg⟩ := of_btw (a := 1) (b := 999) hu (by omega)
                have c0 : ∀ k, σ2.1 (r + 80) k = σ1.1 (r + 80) k := fun k => g2 _ _ (by omega) (by omega) (by omega)
                have s0 : σ1.1 (r + 80) 0 = x := by rw [e1, hr]; unfold nmS; rw [sI_ne (by omega), sR_1, sI_nk (by omega), sI_nk (by omega), sI_nk (by omega), sI_nk (by omega), sI_eq]
                have s1 : σ1.1 (r + 80) 1 = z := by rw [e1, hr]; unfold nmS; rw [sI_ne (by omega), sR_1, sI_nk (by omega), sI_nk (by omega), sI_eq]
                have s2 : σ1.1 (r + 80) 2 = u := by rw [e1, hr]; unfold nmS; rw [sI_ne (by omega), sR_1, sI_nk (by omega), sI_eq]
                have s3 : σ1.1 (r + 80) 3 = nI td := by rw [e1, hr]; unfold nmS; rw [sI_ne (by omega), sR_1, sI_eq]
                have s4 : σ1.1 (r + 80) 4 = 401 := by rw [e1, hr]; unfold nmS; rw [sI_ne (by omega), sR_1, sI_nk (by omega), sI_nk (by omega), sI_nk (by omega), sI_nk (by omega), sI_nk (by omega), sR_1, zS_ne (by omega), sR_1, zS_ne (by omega), sI_eq]
                have s5 : σ1.1 (r + 80) 5 = nI b := by rw [e1, hr]; unfold nmS; rw [sI_ne (by omega), sR_1, sI_nk (by omega), sI_nk (by omega), sI_nk (by omega), sI_eq]
                have s8 : σ1.1 (r + 80) 8 = nI 0 := by rw [e1, hr]; unfold nmS; rw [sI_ne (by omega), sR_1, sI_nk (by omega), sI_nk (by omega), sI_nk (by omega), sI_nk (by omega), sI_nk (by omega), sR_1, zS_ne (by omega), sR_1, zS_ne (by omega), sI_nk (by omega), zS_eq, nI_0]
                have t39 : σ2.1 39 i = x := by rw [e2]; simp (disch := omega) only [sI_eq, sI_ne]
                have t40 : σ2.1 40 i = z := by rw [e2]; simp (disch := omega) only [sI_eq, sI_ne]
                have t41 : σ2.1 41 i = u := by rw [e2]; simp (disch := omega) only [sI_eq, sI_ne]
                have t42 : σ2.1 42 i = nI td := by rw [e2]; simp (disch := omega) only [sI_eq, sI_ne]
                have t43 : σ2.1 43 i = -1 := by rw [e2]; simp (disch := omega) only [sI_eq, sI_ne]
                have t44 : σ2.1 44 i = nI (0 + 1) := by rw [e2]; simp (disch := omega) only [sI_eq, sI_ne]; rfl
                have t45 : σ2.1 45 (7 * i) = nI b := by rw [e2]; simp (disch := omega) only [sI_eq, sI_ne]
                have t46 : σ2.1 46 (7 * i) = nI td := by rw [e2]; simp (disch := omega) only [sI_eq, sI_ne]
                have q3 : σ1.2.1 3 i = some (r + 80) := by rw [e1, hr]; unfold nmS; rw [sI_21, sR_eq]
                have q6 : σ1.2.1 (r + 80) 6 = some (r + 81) := by rw [e1, hr]; unfold nmS; rw [sI_21, sR_ne (by omega), sI_21, sI_21, sI_21, sI_21, sI_21, sR_nk (by omega), zS_rn (by omega), sR_eq]
                have q7 : σ1.2.1 (r + 80) 7 = some (r + 82) := by rw [e1, hr]; unfold nmS; rw [sI_21, sR_ne (by omega), sI_21, sI_21, sI_21, sI_21, sI_21, sR_eq]
                have w0 : ∀ q, r ≤ q → (fun q => if q + 80 < L.2.2.1 then w q else i) q = i := fun q hq => if_neg (by omega)
                refine ⟨⟨by rw [er2]; exact q3, by omega, w0 _ (by omega), w0 _ (by omega), w0 _ (by omega)⟩, ⟨by rw [er2]; exact q6, by rw [er2]; exact q7, l1, l2⟩, ?_, ?_, ?_, ?_, ?_, ?_⟩
                · rw [c0, c0, c0, c0, s0, s1, s2, s3, t39, t40, t41, t42]; exact ⟨rfl, rfl, rfl, rfl, rfl, by omega⟩
                · rw [c0, s4, t43]; exact Or.inl ⟨rfl, rfl⟩
                · rw [c0, c0, s8, s5, t44, t45, t46]; exact ⟨by omega, rfl, rfl, rfl, rfl⟩
                · intro k hk; omega
                · intro k hk
                  obtain rfl : k = 0 := by omega
                  exact ⟨b, hb, by rw [Nat.add_zero]; exact t45⟩
                · rw [t40, t41]; exact ⟨hh, gg, hh2, gg2, eh, eg⟩
              · obtain ⟨r', mv', c', hm'⟩ := hME i (by omega)
                refine ⟨r', mv', c', hm'.fr hl hw (by omega) (by omega) (ag _ ?_ rfl ?_ ?_ ?_ rfl) ?_ ?_⟩
                · intro a k q'; exact pf_of (fun z => by simp [pMEM1] at z; omega)
                · intro a q1 q2; exact na_ME (by omega) (by omega)
                · exact nr_ME (by omega) (by omega) (by omega)
                · exact nr_ME (by omega) (by omega) (by omega)
                · rw [er2]; exact r1 _ _ (by omega) (by omega)
                · intro a k q1 q2; rw [er2]; exact r1 _ _ (by omega) (by omega)
            · intro j hj
              obtain ⟨r', o', hb'⟩ := hBA j hj
              refine ⟨r', o', (hb'.fr (w' := fun q => if q + 80 < L.2.2.1 then w q else nm) (L' := L1) (σ' := σ2) hnm hl hw (Nat.le_refl _) (Nat.le_refl _) (ag _ ?_ rfl ?_ rfl rfl rfl) ?_ ?_).nm1 hm⟩
              · intro a k q'; exact pf_of (fun z => by simp [pBAL1] at z; omega)
              · intro a q1 q2; exact pf_of (fun z => by simp [pBAL1] at z; omega)
              · rw [er2]; exact r1 _ _ (by omega) (by omega)
              · intro a k q1 q2; rw [er2]; exact r1 _ _ (by omega) (by omega)
            · refine hNO.fr hl hw (by omega) (by omega) (fun j hj => ag _ ?_ rfl ?_ rfl rfl rfl) (fun j hj => ?_)
              · intro a k q'; exact pf_of (fun z => by simp [pNOT1] at z; omega)
              · intro a q1 q2; exact pf_of (fun z => by simp [pNOT1] at z; omega)
              · rw [er2]; exact r1 _ _ (by omega) (by omega)
          · refine opa_of (v := -1000000003) ?_ ?_ h.iv
            · simp (disch := omega) only [f_X11_member, f_X11_isMark, hR.r0_0, hx, hB_in eb hnb hb, hz, hu, em, nlt_l, hm, Option.bind_some, Option.elim_some, Option.elim_none, wi, x12_in, b3_z, ckb, ck0, ck1, putI, putR, putJ, not_true_eq_false, not_false_eq_true, if_true, if_false, and_self, and_true, true_and, one_ne0, zero_eq0, ite_self, sI_eq, sI_ne, sI_nk, sI_21, sI_22, sJ_21, sJ_1]
            · simp (disch := omega) only [f_X12_member, hx, isBr_in eb' hnb hb, hz, hu, em', neq_l, show nm = 40 by omega, Option.bind_some, Option.elim_some, Option.elim_none, wi, x12_in, b3_z, ckb, ck0, ck1, putI, putR, putJ, not_true_eq_false, not_false_eq_true, if_true, if_false, and_self, and_true, true_and, one_ne0, zero_eq0, ite_self, sI_eq, sI_ne, sI_nk, sI_21, sI_22, sJ_21, sJ_1]
        · refine opa_of (v := -1000000001) ?_ ?_ h.iv
          · simp only [f_X11_member, f_X11_isMark, hR.r0_0, hx, hB_in eb hnb hb, hz, hu, Option.bind_some, Option.elim_some, Option.elim_none, wi, x12_in, b3_z, ckb, ck0, ck1, putI, putR, putJ, not_true_eq_false, not_false_eq_true, if_true, if_false, and_self, and_true, true_and, one_ne0, zero_eq0, ite_self, sI_eq, sI_ne, sI_nk, sI_21, sI_22, sJ_21, sJ_1]
          · simp only [f_X12_member, hx, isBr_in eb' hnb hb, hz, hu, Option.bind_some, Option.elim_some, Option.elim_none, wi, x12_in, b3_z, ckb, ck0, ck1, putI, putR, putJ, not_true_eq_false, not_false_eq_true, if_true, if_false, and_self, and_true, true_and, one_ne0, zero_eq0, ite_self, sI_eq, sI_ne, sI_nk, sI_21, sI_22, sJ_21, sJ_1]
      · refine opa_of (v := -1000000001) ?_ ?_ h.iv
        · simp only [f_X11_member, f_X11_isMark, hR.r0_0, hx, hB_in eb hnb hb, hz, Option.bind_some, Option.elim_some, Option.elim_none, wi, x12_in, b3_z, ckb, ck0, ck1, putI, putR, putJ, not_true_eq_false, not_false_eq_true, if_true, if_false, and_self, and_true, true_and, one_ne0, zero_eq0, ite_self, sI_eq, sI_ne, sI_nk, sI_21, sI_22, sJ_21, sJ_1]
        · simp only [f_X12_member, hx, isBr_in eb' hnb hb, hz, Option.bind_some, Option.elim_some, Option.elim_none, wi, x12_in, b3_z, ckb, ck0, ck1, putI, putR, putJ, not_true_eq_false, not_false_eq_true, if_true, if_false, and_self, and_true, true_and, one_ne0, zero_eq0, ite_self, sI_eq, sI_ne, sI_nk, sI_21, sI_22, sJ_21, sJ_1]
  · refine opa_of (v := -1000000001) ?_ ?_ h.iv
    · simp only [f_X11_member, f_X11_isMark, hx, Option.bind_some, Option.elim_some, Option.elim_none, wi, x12_in, b3_z, ckb, ck0, ck1, putI, putR, putJ, not_true_eq_false, not_false_eq_true, if_true, if_false, and_self, and_true, true_and, one_ne0, zero_eq0, ite_self, sI_eq, sI_ne, sI_nk, sI_21, sI_22, sJ_21, sJ_1]
    · simp only [f_X12_member, hx, Option.bind_some, Option.elim_some, Option.elim_none, wi, x12_in, b3_z, ckb, ck0, ck1, putI, putR, putJ, not_true_eq_false, not_false_eq_true, if_true, if_false, and_self, and_true, true_and, one_ne0, zero_eq0, ite_self, sI_eq, sI_ne, sI_nk, sI_21, sI_22, sJ_21, sJ_1]
end
