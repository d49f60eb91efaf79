/-! open -/
theorem sI_wS {σ : Sto} {a b k o n : Nat} {v : Int32} {f : Nat → Int32} (h : a ≠ b) : sI (wS σ b o n f) a k v = wS (sI σ a k v) b o n f := by
  refine Prod.ext (funext fun a' => funext fun k' => ?_) rfl
  show (if a' = a ∧ k' = k then v else if a' = b ∧ o ≤ k' ∧ k' < o + n then f (k' - o) else σ.1 a' k') = (if a' = b ∧ o ≤ k' ∧ k' < o + n then f (k' - o) else if a' = a ∧ k' = k then v else σ.1 a' k')
  by_cases e : a' = a ∧ k' = k
  · rw [if_pos e, if_neg (fun u => h (e.1.symm.trans u.1)), if_pos e]
  · rw [if_neg e, if_neg e]
theorem opn_sh {nb z : Nat} (hnb : nb ≤ 6) (hz : z < 2 ^ 31) : nI z >>> (nI nb &&& 31) = nI (z / 2 ^ nb) := by
  rcases (show nb = 0 ∨ nb = 1 ∨ nb = 2 ∨ nb = 3 ∨ nb = 4 ∨ nb = 5 ∨ nb = 6 by omega) with rfl | rfl | rfl | rfl | rfl | rfl | rfl
  · exact pk_shrN hz _ 0 (by decide)
  · exact pk_shrN hz _ 1 (by decide)
  · exact pk_shrN hz _ 2 (by decide)
  · exact pk_shrN hz _ 3 (by decide)
  · exact pk_shrN hz _ 4 (by decide)
  · exact pk_shrN hz _ 5 (by decide)
  · exact pk_shrN hz _ 6 (by decide)
theorem opn_one {nb : Nat} (hnb : nb ≤ 6) : ((1 : Int32) <<< (nI nb &&& 31)) - 1 = nI (2 ^ nb - 1) := by
  rcases (show nb = 0 ∨ nb = 1 ∨ nb = 2 ∨ nb = 3 ∨ nb = 4 ∨ nb = 5 ∨ nb = 6 by omega) with rfl | rfl | rfl | rfl | rfl | rfl | rfl <;> decide
theorem pw_le {nb : Nat} (hnb : nb ≤ 6) : 2 ^ nb ≤ 64 := Nat.pow_le_pow_right (n := 2) (by omega) hnb
section
variable {nb nm nl nB nN td nt nw lw : Nat} {w : Nat → Nat} {L : Lay} {σ : Sto}
/-- a new ballot's cells -/
def nbS (σ : Sto) (N nB td : Nat) (x : Int32) : Sto := sI (sR (wS (wS (sI (sI (sR (sR (zS (sR (zS (sR (zS (sI (zS σ N) N 3 401) (N + 1)) N 5 (some (N + 1))) (N + 2)) N 6 (some (N + 2))) (N + 3)) N 7 (some (N + 3))) N 0 (some 1)) N 1 x) N 2 (nI td)) (N + 1) 0 40 (fun _ => 401)) (N + 2) 0 40 (fun _ => 401)) 9 nB (some N)) 0 3 (nI (nB + 1))
theorem x11_open (h : INVP nb nm nl nB nN td nt nw lw w L σ) {x : Int32} (h1 : ¬ x ≤ 0) (h2 : (x >>> (nI nb &&& 31)) = 0) (hB : nB < 12) : f_X11_open L σ 0 x = some (nI nB, pL (pL (pL (pL L 0 0 8) 20 40 40) 20 40 40) 20 40 40, nbS σ L.2.2.1 nB td x) := by
  obtain ⟨hS, hR, ⟨⟨hnb, hnm, hnl, hnB, hnN, htd, hnt, hnw⟩, ⟨eb, eb'⟩, ⟨em, em'⟩, ⟨el, el'⟩, ⟨eB, eB'⟩, ⟨eN, eN'⟩, ⟨et, et'⟩, ⟨ep, ep'⟩, ew, ew'⟩, hBR, hME, hLI, hBA, hTA, hNO, hHA, hRU, hWA, hSH, hLA⟩ := id h
  have hN80 := hS.nx
  have l9 : (pL (pL (pL (pL L 0 0 8) 20 40 40) 20 40 40) 20 40 40).2.1 9 = 12 := by
    rw [pL_ne (by rw [pL_n, pL_n, pL_n]; omega), pL_ne (by rw [pL_n, pL_n]; omega), pL_ne (by rw [pL_n]; omega), pL_ne (by omega), hS.l9]
  have f1 : ∀ σ' v, f_J7_fill_53178 (pL (pL (pL (pL L 0 0 8) 20 40 40) 20 40 40) 20 40 40) σ' (some (L.2.2.1 + 1)) v = some (wS σ' (L.2.2.1 + 1) 0 40 (fun _ => v)) := fun σ' v => fill_i (by rw [pL_ne (by rw [pL_n, pL_n, pL_n]; omega), pL_ne (by rw [pL_n, pL_n]; omega)]; exact pL_eq _ _ _ _) (by omega) v
  have f2 : ∀ σ' v, f_J7_fill_53178 (pL (pL (pL (pL L 0 0 8) 20 40 40) 20 40 40) 20 40 40) σ' (some (L.2.2.1 + 2)) v = some (wS σ' (L.2.2.1 + 2) 0 40 (fun _ => v)) := fun σ' v => fill_i (by rw [pL_ne (by rw [pL_n, pL_n, pL_n]; omega)]; exact pL_eq _ _ _ _) (by omega) v
  have c40 : ((40 : Int32) = nI 40) = True := eq_true rfl
  unfold nbS
  simp (disch := omega) only [f_X11_open, f_X0_init, f_X0_init_11, f_X0_init_19, f_X0_init_27, f_X0_init_35, f_X0_init_45, f_X0_init_53, f_X0_init_63, h1, h2, eb, eB, nlt_l, hB, al, show nf 0 = 8 from rfl, zS_rn, zS_ne, et, c40, pL_n, sR_eq, sR_ne, sR_nk, sR_1, wS_21, wS_ne, f1, f2, hR.r0_0, hR.r0_2, wR_nI l9, nI_1, nI_pred, Nat.add_assoc, Nat.reduceAdd, Option.bind_some, Option.elim_some, Option.elim_none, wi, x12_in, b3_z, ckb, ck0, ck1, putI, putR, putJ, not_true_eq_false, not_false_eq_true, if_true, if_false, and_self, and_true, true_and, one_ne0, zero_eq0, ite_self, sI_eq, sI_ne, sI_nk, sI_21, sI_22, sJ_21, sJ_1]
theorem x12_open (hS : SF L) {σ : Sto} (hR : RF lw σ.2.1) (eb' : σ.1 37 2 = nI nb) (eB' : σ.1 37 16 = nI nB) (et' : σ.1 37 1 = nI td) (hnb : nb ≤ 6) (hB : nB < 12) {z : Nat} (h1 : 1 ≤ z) (h2 : z < 2 ^ nb) : f_X12_open L σ 37 (nI z) = some (nI nB, sI (wS (wS (sI (sI (sI σ 49 nB (nI z)) 50 nB (nI td)) 51 nB (-1)) 52 (40 * nB) 40 (fun _ => -1)) 53 (40 * nB) 40 (fun _ => -1)) 37 16 (nI (nB + 1))) := by
  have hp := pw_le hnb
  have hz : 1 ≤ nI z ∧ nI z ≤ nI (2 ^ nb - 1) := ⟨nI_le (a := 1) h1 (by omega), nI_le (by omega) (by omega)⟩
  have key : ∀ σ' : Sto, RF lw σ'.2.1 → σ'.1 37 16 = nI nB → f_X12_open_66 FU L σ' 37 (nI z) 0 = some (nI nB, sI (wS (wS σ' 52 (40 * nB) 40 (fun _ => -1)) 53 (40 * nB) 40 (fun _ => -1)) 37 16 (nI (nB + 1))) := by
    intro σ' hR' e'
    refine loop (F := fun k q => f_X12_open_66 k L q.1 37 (nI z) q.2) (s := fun m => (wS (wS σ' 52 (40 * nB) m (fun _ => -1)) 53 (40 * nB) m (fun _ => -1), nI m)) 40 _ ?_ ?_ (FU_lt (by omega)) |> (fun z => by rw [wS_0, wS_0] at z; exact z)
    · intro m K hm
      show f_X12_open_66 (K + 1) L (wS (wS σ' 52 (40 * nB) m (fun _ => -1)) 53 (40 * nB) m (fun _ => -1)) 37 (nI z) (nI m) = f_X12_open_66 K L (wS (wS σ' 52 (40 * nB) (m + 1) (fun _ => -1)) 53 (40 * nB) (m + 1) (fun _ => -1)) 37 (nI z) (nI (m + 1))
      have e1 := wS_step σ' 52 (40 * nB) m (fun _ => -1)
      have e2 := wS_step (wS σ' 52 (40 * nB) (m + 1) (fun _ => -1)) 53 (40 * nB) m (fun _ => -1)
      have e3 : sI (wS (wS σ' 52 (40 * nB) m (fun _ => -1)) 53 (40 * nB) m (fun _ => -1)) 52 (40 * nB + m) (-1) = wS (wS σ' 52 (40 * nB) (m + 1) (fun _ => -1)) 53 (40 * nB) m (fun _ => -1) := by
        rw [sI_wS (by omega), e1]
      simp (disch := omega) only [f_X12_open_66, nle_r, show ¬ 40 ≤ m by omega, wS_21, hR'.r37_20, hR'.r37_21, wS_ne, e', mul_lit, nI_add, wI_nI hS.l52, wI_nI hS.l53, e3, e2, nI_1, if_false, Option.bind_some]
    · intro K
      show f_X12_open_66 (K + 1) L (wS (wS σ' 52 (40 * nB) 40 (fun _ => -1)) 53 (40 * nB) 40 (fun _ => -1)) 37 (nI z) (nI 40) = _
      simp (disch := omega) only [f_X12_open_66, nle_r, Nat.le_refl, wS_ne, e', nI_1, nI_pred, putI, sI_eq, if_true, Option.bind_some]
  have k2 := key (sI (sI (sI σ 49 nB (nI z)) 50 nB (nI td)) 51 nB (-1)) hR (by simp (disch := omega) only [sI_ne, eB'])
  simp (disch := omega) only [f_X12_open, eb', opn_one hnb, hz, eB', neq_l, show ¬ nB = 12 by omega, hR.r37_17, hR.r37_18, hR.r37_19, wI_nI hS.l49, wI_nI hS.l50, wI_nI hS.l51, et', k2, Option.bind_some, Option.elim_some, Option.elim_none, wi, x12_in, b3_z, ckb, ck0, ck1, putI, putR, putJ, not_true_eq_false, not_false_eq_true, if_true, if_false, and_self, and_true, true_and, one_ne0, zero_eq0, ite_self, sI_eq, sI_ne, sI_nk, sI_21, sI_22, sJ_21, sJ_1]
theorem nbS_lo {N nB td : Nat} {x : Int32} (hN : 80 ≤ N) {a k : Nat} (ha : a < N) (hk : ¬ (a = 0 ∧ k = 3)) : (nbS σ N nB td x).1 a k = σ.1 a k := by
  unfold nbS
  rw [sI_at, if_neg hk, sR_1, wS_ne (by omega), wS_ne (by omega), sI_ne (by omega), sI_ne (by omega), sR_1, sR_1, zS_ne (by omega), sR_1, zS_ne (by omega), sR_1, zS_ne (by omega), sI_ne (by omega), zS_ne (by omega)]
theorem nbS_rl {N nB td : Nat} {x : Int32} (hN : 80 ≤ N) {a k : Nat} (ha : a < N) (hk : ¬ (a = 9 ∧ k = nB)) : (nbS σ N nB td x).2.1 a k = σ.2.1 a k := by
  unfold nbS
  rw [sI_21, sR_at, if_neg hk, wS_21, wS_21, sI_21, sI_21, sR_ne (by omega), sR_ne (by omega), zS_rn (by omega), sR_ne (by omega), zS_rn (by omega), sR_ne (by omega), zS_rn (by omega), sI_21, zS_rn (by omega)]
theorem op_open (h : INVP nb nm nl nB nN td nt nw lw w L σ) (x : Int32) : OPa L (f_X11_open L σ 0 x) (fun L1 σ1 => f_X12_open L1 σ1 37 x) := by
  have hN := h.hN
  have h0 := h
  obtain ⟨hS, hR, ⟨⟨hnb, hnm, hnl, hnB, hnN, htd, hnt, hnw⟩, ⟨eb, eb'⟩, ⟨em, em'⟩, ⟨el, el'⟩, ⟨eB, eB'⟩, ⟨eN, eN'⟩, ⟨et, et'⟩, ⟨ep, ep'⟩, ew, ew'⟩, hBR, hME, hLI, hBA, hTA, hNO, hHA, hRU, hWA, hSH, hLA⟩ := id h
  have hp := pw_le hnb
  by_cases hx : x ≤ 0
  · refine opa_of (v := -1000000001) ?_ ?_ h.iv
    · simp only [f_X11_open, hx, Option.bind_some, Option.elim_some, Option.elim_none, wi, x12_in, b3_z, ckb, ck0, ck1, putI, putR, putJ, not_true_eq_false, not_false_eq_true, if_true, if_false, and_self, and_true, true_and, one_ne0, zero_eq0, ite_self, sI_eq, sI_ne, sI_nk, sI_21, sI_22, sJ_21, sJ_1]
    · have q : ¬ (1 ≤ x ∧ x ≤ nI (2 ^ nb - 1)) := fun u => absurd (Int32.le_trans u.1 hx) (by decide)
      simp only [f_X12_open, eb', opn_one hnb, q, Option.bind_some, Option.elim_some, Option.elim_none, wi, x12_in, b3_z, ckb, ck0, ck1, putI, putR, putJ, not_true_eq_false, not_false_eq_true, if_true, if_false, and_self, and_true, true_and, one_ne0, zero_eq0, ite_self, sI_eq, sI_ne, sI_nk, sI_21, sI_22, sJ_21, sJ_1]
  · obtain ⟨z, hz, rfl⟩ := nI_of (x := x) (fun u => hx (Int32.le_of_lt u))
    have hz1 : 1 ≤ z := by
      rcases Nat.eq_zero_or_pos z with q | q
      · subst q; exact absurd (show nI 0 ≤ 0 by decide) hx
      · exact q
    have sh := opn_sh hnb hz
    by_cases hzb : z < 2 ^ nb
    · have sh0 : (nI z >>> (nI nb &&& 31)) = 0 := by rw [sh, Nat.div_eq_of_lt hzb]; rfl
      have hin : 1 ≤ nI z ∧ nI z ≤ nI (2 ^ nb - 1) := ⟨nI_le (a := 1) hz1 (by omega), nI_le (by omega) (by omega)⟩
      by_cases hB : nB < 12
      · have hN80 := hS.nx
        obtain ⟨r, hr⟩ : ∃ r, L.2.2.1 = r + 80 := ⟨L.2.2.1 - 80, by omega⟩
        have A := x11_open h0 hx sh0 hB
        obtain ⟨L1, eL⟩ : ∃ L1, L1 = pL (pL (pL (pL L 0 0 8) 20 40 40) 20 40 40) 20 40 40 := ⟨_, rfl⟩
        have hl : LE L L1 := by rw [eL]; exact (((LE.push _ _ _ _).tr (LE.push _ _ _ _)).tr (LE.push _ _ _ _)).tr (LE.push _ _ _ _)
        have n1 : L1.2.2.1 = r + 84 := by rw [eL, pL_n, pL_n, pL_n, pL_n, hr]
        have n2 : L1.2.2.2 = L.2.2.2 + 128 := by rw [eL, pL_w, pL_w, pL_w, pL_w]
        have l1 : L1.2.1 (r + 81) = 40 := by rw [eL, pL_ne (by rw [pL_n, pL_n, pL_n, hr]; omega), pL_ne (by rw [pL_n, pL_n, hr]; omega), show r + 81 = (pL L 0 0 8).2.2.1 by rw [pL_n, hr], pL_eq]
        have l2 : L1.2.1 (r + 82) = 40 := by rw [eL, pL_ne (by rw [pL_n, pL_n, pL_n, hr]; omega), show r + 82 = (pL (pL L 0 0 8) 20 40 40).2.2.1 by rw [pL_n, pL_n, hr], pL_eq]
        have l3 : L1.2.1 (r + 83) = 40 := by rw [eL, show r + 83 = (pL (pL (pL L 0 0 8) 20 40 40) 20 40 40).2.2.1 by rw [pL_n, pL_n, pL_n, hr], pL_eq]
        rw [← eL] at A
        obtain ⟨σ1, e1⟩ : ∃ s, s = nbS σ L.2.2.1 nB td (nI z) := ⟨_, rfl⟩
        rw [← e1] at A
        have g1 : ∀ a k, a < r + 80 → ¬ (a = 0 ∧ k = 3) → σ1.1 a k = σ.1 a k := fun a k ha hk => by rw [e1]; exact nbS_lo hN80 (by omega) hk
        have r1 : ∀ a k, a < r + 80 → ¬ (a = 9 ∧ k = nB) → σ1.2.1 a k = σ.2.1 a k := fun a k ha hk => by rw [e1]; exact nbS_rl hN80 (by omega) hk
        have hR1 : RF lw σ1.2.1 := hR.fr (fun a k a1 a2 a3 a4 => r1 a k (by omega) (by omega))
        have B := x12_open (lw := lw) (nb := nb) (nB := nB) (td := td) (hS.fr hl) hR1 ((g1 _ _ (by omega) (by omega)).trans eb') ((g1 _ _ (by omega) (by omega)).trans eB') ((g1 _ _ (by omega) (by omega)).trans et') hnb hB hz1 hzb
        refine ⟨_, _, _, _, A, B, ?_, by omega, by omega⟩
        obtain ⟨σ2, e2⟩ : ∃ s, s = sI (wS (wS (sI (sI (sI σ1 49 nB (nI z)) 50 nB (nI td)) 51 nB (-1)) 52 (40 * nB) 40 (fun _ => -1)) 53 (40 * nB) 40 (fun _ => -1)) 37 16 (nI (nB + 1)) := ⟨_, rfl⟩
        rw [← e2]
        have g2 : ∀ a k, ¬ (49 ≤ a ∧ a ≤ 51 ∧ k = nB) → ¬ ((a = 52 ∨ a = 53) ∧ 40 * nB ≤ k ∧ k < 40 * nB + 40) → ¬ (a = 37 ∧ k = 16) → σ2.1 a k = σ1.1 a k := fun a k q1 q2 q3 => by
          rw [e2, sI_at, if_neg (by omega), wS_at, if_neg (by omega), wS_at, if_neg (by omega), sI_at, if_neg (by omega), sI_at, if_neg (by omega), sI_at, if_neg (by omega)]
        have er2 : σ2.2.1 = σ1.2.1 := by rw [e2]; rfl
        have g : ∀ a k, a < r + 80 → ¬ (a = 0 ∧ k = 3) → ¬ (49 ≤ a ∧ a ≤ 51 ∧ k = nB) → ¬ ((a = 52 ∨ a = 53) ∧ 40 * nB ≤ k ∧ k < 40 * nB + 40) → ¬ (a = 37 ∧ k = 16) → σ2.1 a k = σ.1 a k := fun a k q0 q1 q2 q3 q4 => (g2 a k q2 q3 q4).trans (g1 a k q0 q1)
        have ag : ∀ P : Nat → Nat → Bool, (∀ a k, r + 80 ≤ a → P a k = false) → P 0 3 = false → (∀ a, 49 ≤ a → a ≤ 51 → P a nB = false) → (∀ a k, a = 52 ∨ a = 53 → 40 * nB ≤ k → k < 40 * nB + 40 → P a k = false) → P 37 16 = false → AG P σ σ2 := fun P p0 p1 p2 p3 p5 a k p => by
          refine g a k ?_ ?_ ?_ ?_ ?_
          · rcases Nat.lt_or_ge a (r + 80) with q | q
            · exact q
            · rw [p0 a k q] at p; cases p
          · rintro ⟨rfl, rfl⟩; rw [p1] at p; cases p
          · rintro ⟨q1, q2, rfl⟩; rw [p2 a q1 q2] at p; cases p
          · rintro ⟨q1, q2, q3⟩; rw [p3 a k q1 q2 q3] at p; cases p
          · rintro ⟨rfl, rfl⟩; rw [p5] at p; cases p
        have lo : ∀ P : Nat → Nat → Bool, (∀ a k, 80 ≤ a → P a k = false) → (∀ a k, 49 ≤ a → a ≤ 53 → P a k = false) → P 0 3 = false → P 37 16 = false → AG P σ σ2 := fun P p0 p2 p1 p5 => ag P (fun a k q => p0 a k (by omega)) p1 (fun a q1 q2 => p2 a _ q1 (by omega)) (fun a k q1 _ _ => p2 a k (by omega) (by omega)) p5
        have hw : ∀ q, q + 80 < L.2.2.1 → (fun q => if q + 80 < L.2.2.1 then w q else 40 + nB) q = w q := fun q hq => if_pos hq
        refine ⟨nb, nm, nl, nB + 1, nN, td, nt, nw, lw, fun q => if q + 80 < L.2.2.1 then w q else 40 + nB, hS.fr hl, by rw [er2]; exact hR1, ?_, hBR.fr (lo _ (fun _ _ q => lo_BR q) (fun a k q1 q2 => pf_of (fun z => by simp [pBRA] at z; omega)) rfl rfl), ?_, hLI.fr (lo _ (fun _ _ q => lo_LI q) (fun a k q1 q2 => pf_of (fun z => by simp [pLIN] at z; omega)) rfl rfl), ?_, hTA.fr (lo _ (fun _ _ q => lo_TA q) (fun a k q1 q2 => pf_of (fun z => by simp [pTAP] at z; omega)) rfl rfl), ?_, hHA.fr (lo _ (fun _ _ q => lo_HA q) (fun a k q1 q2 => pf_of (fun z => by simp [pHAR] at z; omega)) rfl rfl), hRU.fr (lo _ (fun _ _ q => lo_RU q) (fun a k q1 q2 => pf_of (fun z => by simp [pRUL] at z; omega)) rfl rfl), hWA.fr (lo _ (fun _ _ q => lo_WA q) (fun a k q1 q2 => pf_of (fun z => by simp [pWAI] at z; omega)) rfl rfl), hSH.fr (lo _ (fun _ _ q => lo_SH q) (fun a k q1 q2 => pf_of (fun z => by simp [pSHE] at z; omega)) rfl rfl), hLA.fr hR.lw (lo _ (fun _ _ q => lo_LA q) (fun a k q1 q2 => pf_of (fun z => by simp [pLAW] at z; omega)) rfl rfl)⟩
        · have v03 : σ2.1 0 3 = nI (nB + 1) := by rw [g2 _ _ (by omega) (by omega) (by omega), e1]; exact sI_eq _ _ _ _
          have v37 : σ2.1 37 16 = nI (nB + 1) := by rw [e2]; exact sI_eq _ _ _ _
          refine ⟨⟨hnb, hnm, hnl, by omega, hnN, htd, hnt, hnw⟩, ⟨?_, ?_⟩, ⟨?_, ?_⟩, ⟨?_, ?_⟩, ⟨v03, v37⟩, ⟨?_, ?_⟩, ⟨?_, ?_⟩, ⟨?_, ?_⟩, ?_, ?_⟩
          · rw [g _ _ (by omega) (by omega) (by omega) (by omega) (by omega)]; exact eb
          · rw [g _ _ (by omega) (by omega) (by omega) (by omega) (by omega)]; exact eb'
          · rw [g _ _ (by omega) (by omega) (by omega) (by omega) (by omega)]; exact em
          · rw [g _ _ (by omega) (by omega) (by omega) (by omega) (by omega)]; exact em'
          · rw [g _ _ (by omega) (by omega) (by omega) (by omega) (by omega)]; exact el
          · rw [g _ _ (by omega) (by omega) (by omega) (by omega) (by omega)]; exact el'
          · rw [g _ _ (by omega) (by omega) (by omega) (by omega) (by omega)]; exact eN
          · rw [g _ _ (by omega) (by omega) (by omega) (by omega) (by omega)]; exact eN'
          · rw [g _ _ (by omega) (by omega) (by omega) (by omega) (by omega)]; exact et
          · rw [g _ _ (by omega) (by omega) (by omega) (by omega) (by omega)]; exact et'
          · rw [g _ _ (by omega) (by omega) (by omega) (by omega) (by omega)]; exact ep
          · rw [g _ _ (by omega) (by omega) (by omega) (by omega) (by omega)]; exact ep'
          · rw [g _ _ (by omega) (by omega) (by omega) (by omega) (by omega)]; exact ew
          · rw [g _ _ (by omega) (by omega) (by omega) (by omega) (by omega)]; exact ew'
        · refine hME.fr hl hw (by omega) (by omega) (fun i hi => ag _ ?_ rfl ?_ ?_ rfl) (fun i hi => ?_) ?_
          · intro a k q'; exact pf_of (fun z => by simp [pMEM1] at z; omega)
          · intro a q1 q2; exact pf_of (fun z => by simp [pMEM1] at z; omega)
          · intro a k q1 q2 q3; exact pf_of (fun z => by simp [pMEM1] at z; omega)
          · rw [er2]; exact r1 _ _ (by omega) (by omega)
          · intro a k q1 q2; rw [er2]; exact r1 _ _ (by omega) (by omega)
        · intro j hj
          by_cases q : j = nB
          · subst q
            refine ⟨r, td, ?_⟩
            have c0 : ∀ a k, r + 80 ≤ a → σ2.1 a k = σ1.1 a k := fun a k _ => g2 _ _ (by omega) (by omega) (by omega)
            have s1 : σ1.1 (r + 80) 1 = nI z := by rw [e1, hr]; unfold nbS; rw [sI_ne (by omega), sR_1, wS_ne (by omega), wS_ne (by omega), sI_nk (by omega), sI_eq]
            have s2 : σ1.1 (r + 80) 2 = nI td := by rw [e1, hr]; unfold nbS; rw [sI_ne (by omega), sR_1, wS_ne (by omega), wS_ne (by omega), sI_eq]
            have s3 : σ1.1 (r + 80) 3 = 401 := by rw [e1, hr]; unfold nbS; rw [sI_ne (by omega), sR_1, wS_ne (by omega), wS_ne (by omega), sI_nk (by omega), sI_nk (by omega), sR_1, sR_1, zS_ne (by omega), sR_1, zS_ne (by omega), sR_1, zS_ne (by omega), sI_eq]
            have s4 : σ1.1 (r + 80) 4 = 0 := by rw [e1, hr]; unfold nbS; rw [sI_ne (by omega), sR_1, wS_ne (by omega), wS_ne (by omega), sI_nk (by omega), sI_nk (by omega), sR_1, sR_1, zS_ne (by omega), sR_1, zS_ne (by omega), sR_1, zS_ne (by omega), sI_nk (by omega), zS_eq]
            have s81 : ∀ m, m < 40 → σ1.1 (r + 81) m = 401 := fun m hm => by
              have := wS_in (σ := (sI (sI (sR (sR (zS (sR (zS (sR (zS (sI (zS σ (r + 80)) (r + 80) 3 401) (r + 80 + 1)) (r + 80) 5 (some (r + 80 + 1))) (r + 80 + 2)) (r + 80) 6 (some (r + 80 + 2))) (r + 80 + 3)) (r + 80) 7 (some (r + 80 + 3))) (r + 80) 0 (some 1)) (r + 80) 1 (nI z)) (r + 80) 2 (nI td))) (a := r + 80 + 1) (off := 0) (f := fun _ => 401) hm
              rw [Nat.zero_add] at this
              rw [e1, hr]; unfold nbS; rw [sI_ne (by omega), sR_1, wS_ne (by omega)]
              exact this
            have s82 : ∀ m, m < 40 → σ1.1 (r + 82) m = 401 := fun m hm => by
              have := wS_in (σ := wS (sI (sI (sR (sR (zS (sR (zS (sR (zS (sI (zS σ (r + 80)) (r + 80) 3 401) (r + 80 + 1)) (r + 80) 5 (some (r + 80 + 1))) (r + 80 + 2)) (r + 80) 6 (some (r + 80 + 2))) (r + 80 + 3)) (r + 80) 7 (some (r + 80 + 3))) (r + 80) 0 (some 1)) (r + 80) 1 (nI z)) (r + 80) 2 (nI td)) (r + 80 + 1) 0 40 (fun _ => 401)) (a := r + 80 + 2) (off := 0) (f := fun _ => 401) hm
              rw [Nat.zero_add] at this
              rw [e1, hr]; unfold nbS; rw [sI_ne (by omega), sR_1]
              exact this
            have t49 : σ2.1 49 j = nI z := by rw [e2]; simp (disch := omega) only [sI_eq, sI_ne, wS_ne]
            have t50 : σ2.1 50 j = nI td := by rw [e2]; simp (disch := omega) only [sI_eq, sI_ne, wS_ne]
            have t51 : σ2.1 51 j = -1 := by rw [e2]; simp (disch := omega) only [sI_eq, sI_ne, wS_ne]
            have t52 : ∀ m, m < 40 → σ2.1 52 (40 * j + m) = -1 := fun m hm => by rw [e2, sI_ne (by omega), wS_ne (by omega), wS_in hm]
            have t53 : ∀ m, m < 40 → σ2.1 53 (40 * j + m) = -1 := fun m hm => by rw [e2, sI_ne (by omega), wS_in hm]
            have q9 : σ1.2.1 9 j = some (r + 80) := by rw [e1, hr]; unfold nbS; rw [sI_21, sR_eq]
            have q0 : σ1.2.1 (r + 80) 0 = some 1 := by rw [e1, hr]; unfold nbS; rw [sI_21, sR_ne (by omega), wS_21, wS_21, sI_21, sI_21, sR_eq]
            have q5 : σ1.2.1 (r + 80) 5 = some (r + 81) := by rw [e1, hr]; unfold nbS; rw [sI_21, sR_ne (by omega), wS_21, wS_21, sI_21, sI_21, sR_nk (by omega), sR_nk (by omega), zS_rn (by omega), sR_nk (by omega), zS_rn (by omega), sR_eq]
            have q6 : σ1.2.1 (r + 80) 6 = some (r + 82) := by rw [e1, hr]; unfold nbS; rw [sI_21, sR_ne (by omega), wS_21, wS_21, sI_21, sI_21, sR_nk (by omega), sR_nk (by omega), zS_rn (by omega), sR_eq]
            have q7 : σ1.2.1 (r + 80) 7 = some (r + 83) := by rw [e1, hr]; unfold nbS; rw [sI_21, sR_ne (by omega), wS_21, wS_21, sI_21, sI_21, sR_nk (by omega), sR_eq]
            have w0 : ∀ q, r ≤ q → (fun q => if q + 80 < L.2.2.1 then w q else 40 + j) q = 40 + j := fun q hq => if_neg (by omega)
            refine ⟨⟨by rw [er2]; exact q9, by omega, w0 _ (by omega), w0 _ (by omega), w0 _ (by omega), w0 _ (by omega)⟩, ⟨by rw [er2]; exact q0, by rw [er2]; exact q5, by rw [er2]; exact q6, by rw [er2]; exact q7⟩, ⟨l1, l2, l3⟩, ?_, ?_, ?_, ?_⟩
            · rw [c0 (r + 80) 1 (by omega), c0 (r + 80) 2 (by omega), s1, s2, t49, t50]; exact ⟨rfl, ⟨z, hzb, rfl⟩, rfl, rfl, by omega⟩
            · rw [c0 (r + 80) 3 (by omega), s3, t51]; exact Or.inl ⟨rfl, rfl⟩
            · rw [c0 (r + 80) 4 (by omega), s4, cps_zero nm (fun m hm => t52 m (by omega))]
            · intro m hm
              refine Or.inl ⟨t52 m hm, ?_, t53 m hm, ?_⟩
              · rw [c0 _ _ (by omega)]; exact s81 m hm
              · rw [c0 _ _ (by omega)]; exact s82 m hm
          · obtain ⟨r', o', hb'⟩ := hBA j (by omega)
            refine ⟨r', o', hb'.fr hnm hl hw (by omega) (by omega) (ag _ ?_ rfl ?_ ?_ rfl) ?_ ?_⟩
            · intro a k q'; exact pf_of (fun z => by simp [pBAL1] at z; omega)
            · intro a q1 q2; exact na_BA (by omega) (by omega)
            · intro a k q1 q2 q3; exact nr_BA (by omega) (by omega) (by omega)
            · rw [er2]; exact r1 _ _ (by omega) (by omega)
            · intro a k q1 q2; rw [er2]; exact r1 _ _ (by omega) (by omega)
        · refine hNO.fr hl hw (by omega) (by omega) (fun j hj => ag _ ?_ rfl ?_ ?_ rfl) (fun j hj => ?_)
          · intro a k q'; exact pf_of (fun z => by simp [pNOT1] at z; omega)
          · intro a q1 q2; exact pf_of (fun z => by simp [pNOT1] at z; omega)
          · intro a k q1 q2 q3; exact pf_of (fun z => by simp [pNOT1] at z; omega)
          · rw [er2]; exact r1 _ _ (by omega) (by omega)
      · refine opa_of (v := -1000000003) ?_ ?_ h.iv
        · simp (disch := omega) only [f_X11_open, hx, hR.r0_0, eb, sh0, eB, nlt_l, hB, Option.bind_some, Option.elim_some, Option.elim_none, wi, x12_in, b3_z, ckb, ck0, ck1, putI, putR, putJ, not_true_eq_false, not_false_eq_true, if_true, if_false, and_self, and_true, true_and, one_ne0, zero_eq0, ite_self, sI_eq, sI_ne, sI_nk, sI_21, sI_22, sJ_21, sJ_1]
        · simp (disch := omega) only [f_X12_open, eb', opn_one hnb, hin, eB', neq_l, show nB = 12 by omega, Option.bind_some, Option.elim_some, Option.elim_none, wi, x12_in, b3_z, ckb, ck0, ck1, putI, putR, putJ, not_true_eq_false, not_false_eq_true, if_true, if_false, and_self, and_true, true_and, one_ne0, zero_eq0, ite_self, sI_eq, sI_ne, sI_nk, sI_21, sI_22, sJ_21, sJ_1]
    · have sh1 : ¬ (nI z >>> (nI nb &&& 31)) = 0 := by
        rw [sh]
        refine nI_ne0 (Nat.div_pos (by omega) (Nat.two_pow_pos nb)) (Nat.lt_of_le_of_lt (Nat.div_le_self _ _) hz)
      have hin : ¬ (1 ≤ nI z ∧ nI z ≤ nI (2 ^ nb - 1)) := fun u => by
        have := (nI_leI hz (by omega)).mp u.2
        have := Nat.two_pow_pos nb
        omega
      refine opa_of (v := -1000000001) ?_ ?_ h.iv
      · simp only [f_X11_open, hx, hR.r0_0, eb, sh1, Option.bind_some, Option.elim_some, Option.elim_none, wi, x12_in, b3_z, ckb, ck0, ck1, putI, putR, putJ, not_true_eq_false, not_false_eq_true, if_true, if_false, and_self, and_true, true_and, one_ne0, zero_eq0, ite_self, sI_eq, sI_ne, sI_nk, sI_21, sI_22, sJ_21, sJ_1]
      · simp only [f_X12_open, eb', opn_one hnb, hin, Option.bind_some, Option.elim_some, Option.elim_none, wi, x12_in, b3_z, ckb, ck0, ck1, putI, putR, putJ, not_true_eq_false, not_false_eq_true, if_true, if_false, and_self, and_true, true_and, one_ne0, zero_eq0, ite_self, sI_eq, sI_ne, sI_nk, sI_21, sI_22, sJ_21, sJ_1]
end
