/-! Calls that make cells: member, open -/
theorem zS_ne {σ : Sto} {a a' k' : Nat} (h : a' ≠ a) : (zS σ a).1 a' k' = σ.1 a' k' := if_neg h
theorem zS_eq (σ : Sto) (a k : Nat) : (zS σ a).1 a k = 0 := if_pos rfl
theorem zS_rn {σ : Sto} {a a' k' : Nat} (h : a' ≠ a) : (zS σ a).2.1 a' k' = σ.2.1 a' k' := if_neg h
theorem pL_n (L : Lay) (k n w : Nat) : (pL L k n w).2.2.1 = L.2.2.1 + 1 := rfl
theorem pL_w (L : Lay) (k n w : Nat) : (pL L k n w).2.2.2 = L.2.2.2 + w := rfl
theorem pL_eq (L : Lay) (k n w : Nat) : (pL L k n w).2.1 L.2.2.1 = n := if_pos rfl
theorem pL_ne {L : Lay} {k n w a : Nat} (h : a ≠ L.2.2.1) : (pL L k n w).2.1 a = L.2.1 a := if_neg h
theorem RF.fr {lw : Nat} {r r' : Nat → Nat → Option Nat} (h : RF lw r) (e : ∀ a k, a < 80 → a ≠ 3 → a ≠ 9 → a ≠ 27 → r' a k = r a k) : RF lw r' := by
  unfold RF at h ⊢
  simp (disch := decide) only [e]
  exact h
theorem SF.fr {L L' : Lay} (h : SF L) (hl : LE L L') : SF L' := by
  have e : ∀ a, a < 80 → L'.2.1 a = L.2.1 a := fun a ha => (hl.2.2 a (Nat.lt_of_lt_of_le ha h.nx)).2
  unfold SF at h ⊢
  simp (disch := decide) only [e]
  exact ⟨Nat.le_trans h.1 hl.1, h.2⟩
theorem BAL1.nm1 {nb nm td : Nat} {w : Nat → Nat} {L : Lay} {σ : Sto} {j r o : Nat} (h : BAL1 nb nm td w L σ j r o) (hn : nm < 40) : BAL1 nb (nm + 1) td w L σ j r o := by
  obtain ⟨h1, h2, h3, h4, h5, h6, h7⟩ := h
  refine ⟨h1, h2, h3, h4, h5, ?_, fun m hm => (h7 m hm).fr (by omega) (by omega) rfl rfl rfl rfl rfl rfl⟩
  rw [cps_succ, h6]
  rcases h7 nm hn with ⟨q, -⟩ | ⟨q, -⟩
  · rw [b3_f (p := ¬ σ.1 52 (40 * j + nm) = -1) (fun z => z q), Int32.add_zero]
  · omega
theorem cps_zero {σ : Sto} {j : Nat} : ∀ n, (∀ m, m < n → σ.1 52 (40 * j + m) = -1) → cps σ j n = 0
  | 0, _ => rfl
  | n + 1, h => by
    rw [cps_succ, cps_zero n (fun m hm => h m (by omega)), b3_f (p := ¬ σ.1 52 (40 * j + n) = -1) (fun z => z (h n (by omega)))]
    rfl
section
variable {nb nm nl nB nN td nt nw lw : Nat} {w : Nat → Nat} {L : Lay} {σ : Sto}
/-- a new member's cells -/
def nmS (σ : Sto) (N nm td : Nat) (x b h g : Int32) : Sto := sI (sR (sI (sI (sI (sI (sI (sR (zS (sR (zS (sI (zS σ N) N 4 401) (N + 1)) N 6 (some (N + 1))) (N + 2)) N 7 (some (N + 2))) N 0 x) N 5 b) N 1 h) N 2 g) N 3 (nI td)) 3 nm (some N)) 1 3 (nI (nm + 1))
theorem x11_member (h : INVP nb nm nl nB nN td nt nw lw w L σ) {x y z : Int32} {b : Nat} (hx : 0 ≤ x ∧ x ≤ 9999) (hb : b < nb) (hy : 1 ≤ y ∧ y ≤ 48) (hz : 1 ≤ z ∧ z ≤ 999) (hm : nm < 40) : f_X11_member L σ 0 x (nI b) y z = some (nI nm, pL (pL (pL L 2 0 9) 20 6 6) 20 6 6, nmS σ L.2.2.1 nm td x (nI b) y z) := by
  obtain ⟨hS, hR, ⟨⟨hnb, hnm, hnl, hnB, hnN, htd, hnt, hnw⟩, ⟨eb, eb'⟩, ⟨em, em'⟩, ⟨el, el'⟩, ⟨eB, eB'⟩, ⟨eN, eN'⟩, ⟨et, et'⟩, ⟨ep, ep'⟩, ew, ew'⟩, hBR, hME, hLI, hBA, hTA, hNO, hHA, hRU, hWA, hSH, hLA⟩ := id h
  have hN80 := hS.nx
  have l3 : (pL (pL (pL L 2 0 9) 20 6 6) 20 6 6).2.1 3 = 40 := by
    rw [pL_ne (by rw [pL_n, pL_n]; omega), pL_ne (by rw [pL_n]; omega), pL_ne (by omega), hS.l3]
  have c6 : ((6 : Int32) = nI 6) = True := eq_true rfl
  unfold nmS
  simp (disch := omega) only [f_X11_member, f_X11_isMark, f_X2_init, f_X10_addMember, hR.r0_0, hB_in eb hnb hb, hx, hy, hz, em, nlt_l, hm, al, show nf 2 = 9 from rfl, zS_rn, zS_ne, et, c6, pL_n, sR_ne, sR_nk, sR_1, hR.r1_2, wR_nI l3, nI_1, nI_pred, Nat.add_assoc, Nat.reduceAdd, Option.bind_some, Option.elim_some, Option.elim_none, wi, x12_in, b3_z, ckb, ck0, ck1, putI, putR, putJ, not_true_eq_false, not_false_eq_true, if_true, if_false, and_self, and_true, true_and, one_ne0, zero_eq0, ite_self, sI_eq, sI_ne, sI_nk, sI_21, sI_22, sJ_21, sJ_1]
end
