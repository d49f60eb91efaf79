/-! law: the call -/
theorem wrs_in {f : Nat → Int32} {m j : Nat} {c : List Int32} (h : j < c.length) : wrs f m c (m + j) = c.getD j 0 := by
  unfold wrs
  rw [if_pos (by omega), Nat.add_sub_cancel_left]
theorem wrs_lo {f : Nat → Int32} {m j : Nat} {c : List Int32} (h : j < m) : wrs f m c j = f j := if_neg (by omega)
theorem LW_of {D n : Nat} {t g : Nat → Int32} {σ : Sto} (hn : n ≤ 108) (e26 : σ.1 37 26 = nI n) (h56 : ∀ i, i < n → ∃ b, b < 256 ∧ σ.1 56 i = nI b) (ht : clp n (σ.1 56) = t) (hA : RALL n t σ) (w : σ.1 (D + 1) = wrs (wrs (wrs g 0 (sc0 t n).2.1) (sc0 t n).2.1.length (sc1 t n).2.1) ((sc0 t n).2.1.length + (sc1 t n).2.1.length) (sc2 t n).2.1) (d0 : σ.1 (D + 2) 0 = nI (sc0 t n).2.1.length) (d1 : σ.1 (D + 2) 1 = nI ((sc0 t n).2.1.length + (sc1 t n).2.1.length)) (d2 : σ.1 (D + 2) 2 = nI ((sc0 t n).2.1.length + (sc1 t n).2.1.length + (sc2 t n).2.1.length)) : LW D σ := by
  obtain ⟨P0, P1, P2⟩ := sc_pp t n
  obtain ⟨fr, hA⟩ := hA
  have l0 := P0.2.1
  have l1 := P1.2.1
  have l2 := P2.2.1
  have l3 := P2.1.1.1
  have l4 := P2.1.1.2.1
  refine ⟨n, fun k => if k = 0 then 0 else if k = 1 then (sc0 t n).2.1.length else if k = 2 then (sc0 t n).2.1.length + (sc1 t n).2.1.length else (sc0 t n).2.1.length + (sc1 t n).2.1.length + (sc2 t n).2.1.length, hn, e26, h56, rfl, fun k hk => ?_⟩
  obtain ⟨⟨a1, a2, a3⟩, a4, a5, a6⟩ := hA k hk
  unfold LWk
  rw [ht, w]
  rcases (show k = 0 ∨ k = 1 ∨ k = 2 by omega) with rfl | rfl | rfl
  · refine ⟨Nat.zero_le _, ?_, d0, fr 0, (sc0 t n).2.1, (sc0 t n).2.2, a6, a1, a2, a3.trans ?_, ?_, rfl, fun j hj => ?_, P0.2.2.2 a4⟩
    · show (sc0 t n).2.1.length ≤ 108
      omega
    · have a4 : (sc0 t n).1 = true := a4
      show sc0 t n = (true, (sc0 t n).2)
      rw [← a4]
    · have a5 : (sc0 t n).2.2.2.2 ≤ 3 := a5
      omega
    · show wrs _ _ _ (0 + j) = _
      rw [wrs_lo (by omega), wrs_lo (by omega), wrs_in hj]
  · refine ⟨?_, ?_, d1, fr 1, (sc1 t n).2.1, (sc1 t n).2.2, a6, a1, a2, a3.trans ?_, ?_, ?_, fun j hj => ?_, P1.2.2.2 a4⟩
    · show (sc0 t n).2.1.length ≤ (sc0 t n).2.1.length + (sc1 t n).2.1.length
      omega
    · show (sc0 t n).2.1.length + (sc1 t n).2.1.length ≤ 108
      omega
    · have a4 : (sc1 t n).1 = true := a4
      show sc1 t n = (true, (sc1 t n).2)
      rw [← a4]
    · have a5 : (sc1 t n).2.2.2.2 ≤ 3 := a5
      omega
    · show (sc1 t n).2.1.length = (sc0 t n).2.1.length + (sc1 t n).2.1.length - (sc0 t n).2.1.length
      omega
    · show wrs _ _ _ ((sc0 t n).2.1.length + j) = _
      rw [wrs_lo (by omega), wrs_in hj]
  · refine ⟨?_, ?_, d2, fr 2, (sc2 t n).2.1, (sc2 t n).2.2, a6, a1, a2, a3.trans ?_, ?_, ?_, fun j hj => ?_, P2.2.2.2 a4⟩
    · show (sc0 t n).2.1.length + (sc1 t n).2.1.length ≤ (sc0 t n).2.1.length + (sc1 t n).2.1.length + (sc2 t n).2.1.length
      omega
    · show (sc0 t n).2.1.length + (sc1 t n).2.1.length + (sc2 t n).2.1.length ≤ 108
      omega
    · have a4 : (sc2 t n).1 = true := a4
      show sc2 t n = (true, (sc2 t n).2)
      rw [← a4]
    · have a5 : (sc2 t n).2.2.2.2 ≤ 3 := a5
      omega
    · show (sc2 t n).2.1.length = (sc0 t n).2.1.length + (sc1 t n).2.1.length + (sc2 t n).2.1.length - ((sc0 t n).2.1.length + (sc1 t n).2.1.length)
      omega
    · show wrs _ _ _ ((sc0 t n).2.1.length + (sc1 t n).2.1.length + j) = _
      rw [wrs_in hj]
/-- what the call may change -/
def chl (a k : Nat) : Bool := scr a k || (Nat.beq a 18 || Nat.beq a 19 || Nat.beq a 22 || Nat.beq a 23 || Nat.beq a 56 || Nat.beq a 57) || (Nat.beq a 15 && Nat.beq k 1) || (Nat.beq a 37 && (Nat.ble 25 k && Nat.ble k 27)) || (Nat.beq a 0 && Nat.beq k 8)
theorem chl_c {a k : Nat} (h : chl a k = true) : ((a = 7 ∨ a = 8 ∨ a = 10 ∨ a = 11 ∨ a = 12 ∨ a = 13 ∨ a = 14 ∨ a = 17 ∨ a = 20 ∨ a = 21 ∨ a = 24 ∨ a = 26 ∨ a = 32 ∨ (70 ≤ a ∧ a ≤ 79)) ∨ (a = 15 ∧ 2 ≤ k) ∨ (a = 28 ∧ 5 ≤ k) ∨ (a = 37 ∧ (k = 47 ∨ 52 ≤ k))) ∨ (a = 18 ∨ a = 19 ∨ a = 22 ∨ a = 23 ∨ a = 56 ∨ a = 57) ∨ (a = 15 ∧ k = 1) ∨ (a = 37 ∧ 25 ≤ k ∧ k ≤ 27) ∨ (a = 0 ∧ k = 8) := by
  unfold chl at h
  cases q : scr a k with
  | true => exact Or.inl (scr_cases q)
  | false =>
    rw [q] at h
    simp at h
    omega
theorem chl_t {a k : Nat} (h : (a = 37 ∧ ((25 ≤ k ∧ k ≤ 27) ∨ 52 ≤ k)) ∨ a = 56 ∨ a = 57 ∨ a = 78 ∨ (a = 15 ∧ 1 ≤ k) ∨ (17 ≤ a ∧ a ≤ 19) ∨ (21 ≤ a ∧ a ≤ 23) ∨ (a = 0 ∧ k = 8)) : chl a k = true := by
  simp [chl, scr]
  omega
section
variable {nb nm nl nB nN td nt nw lw : Nat} {w : Nat → Nat} {L : Lay} {σ : Sto}
theorem law_inv (h : INVP nb nm nl nB nN td nt nw lw w L σ) {σ' : Sto} {lw' : Nat} (ag : AG (fun a k => !chl a k) σ σ') (er : ∀ a k, rch a k = false → σ'.2.1 a k = σ.2.1 a k) (R : RF lw' σ'.2.1) (e1 : σ'.1 15 1 = 0) (e2 : σ'.1 37 25 = 0) (hW : LAW lw' σ') : INVP nb nm nl nB nN td 0 nw lw' w L σ' := by
  obtain ⟨hS, hR, hN, hB, hM, hL, hA, hT, hO, hH, hU, hWA, hE, hG⟩ := h
  have key : ∀ P : Nat → Nat → Bool, (∀ a k, chl a k = true → ¬ P a k = true) → AG P σ σ' := fun P hp => ag.sub (fun a k p => by
    cases q : chl a k with
    | false => rfl
    | true => exact absurd p (hp a k q))
  have k1 : ∀ i, AG (pMEM1 w L.2.2.1 i) σ σ' := fun i => key _ (fun a k q z => by have := chl_c q; simp [pMEM1] at z; omega)
  have k2 : ∀ j, AG (pBAL1 w L.2.2.1 j) σ σ' := fun j => key _ (fun a k q z => by have := chl_c q; simp [pBAL1] at z; omega)
  have k3 : ∀ j, AG (pNOT1 w L.2.2.1 j) σ σ' := fun j => key _ (fun a k q z => by have := chl_c q; simp [pNOT1] at z; omega)
  have hn : nm ≤ 40 := hN.1.2.1
  have ed : ∀ a k, 80 ≤ a → a < L.2.2.1 → σ'.2.1 a k = σ.2.1 a k := fun a k ha _ => er a k (pf_of (fun u => by simp [rch] at u; omega))
  have rc : ∀ a k, a ≠ 0 → a ≠ 17 → a ≠ 21 → σ'.2.1 a k = σ.2.1 a k := fun a k h1 h2 h3 => er a k (pf_of (fun u => by simp [rch] at u; omega))
  obtain ⟨⟨b1, b2, b3, b4, b5, b6, b7, b8⟩, ⟨x1, x1'⟩, ⟨x2, x2'⟩, ⟨x3, x3'⟩, ⟨x4, x4'⟩, ⟨x5, x5'⟩, ⟨x6, x6'⟩, -, ⟨x8, x8'⟩⟩ := hN
  refine ⟨hS, R, ⟨⟨b1, b2, b3, b4, b5, b6, Nat.zero_le _, b8⟩, ⟨(ag _ _ rfl).trans x1, (ag _ _ rfl).trans x1'⟩, ⟨(ag _ _ rfl).trans x2, (ag _ _ rfl).trans x2'⟩, ⟨(ag _ _ rfl).trans x3, (ag _ _ rfl).trans x3'⟩, ⟨(ag _ _ rfl).trans x4, (ag _ _ rfl).trans x4'⟩, ⟨(ag _ _ rfl).trans x5, (ag _ _ rfl).trans x5'⟩, ⟨(ag _ _ rfl).trans x6, (ag _ _ rfl).trans x6'⟩, ⟨e1, e2⟩, ⟨(ag _ _ rfl).trans x8, (ag _ _ rfl).trans x8'⟩⟩, hB.fr (key _ (fun a k q z => by have := chl_c q; simp [pBRA] at z; omega)), ?_, hL.fr (key _ (fun a k q z => by have := chl_c q; simp [pLIN] at z; omega)), ?_, fun i hi => absurd hi (by omega), ?_, hH.fr (key _ (fun a k q z => by have := chl_c q; simp [pHAR] at z; omega)), hU.fr (key _ (fun a k q z => by have := chl_c q; simp [pRUL] at z; omega)), hWA.fr (key _ (fun a k q z => by have := chl_c q; simp [pWAI] at z; omega)), hE.fr (key _ (fun a k q z => by have := chl_c q; simp [pSHE] at z; omega)), hW⟩
  · exact hM.fr (LE.rf L) (fun _ _ => rfl) (Nat.le_refl _) (Nat.le_refl _) (fun i _ => k1 i) (fun i _ => rc 3 i (by omega) (by omega) (by omega)) ed
  · exact hA.fr hn (LE.rf L) (fun _ _ => rfl) (Nat.le_refl _) (Nat.le_refl _) (fun j _ => k2 j) (fun j _ => rc 9 j (by omega) (by omega) (by omega)) ed
  · exact hO.fr (LE.rf L) (fun _ _ => rfl) (Nat.le_refl _) (Nat.le_refl _) (fun j _ => k3 j) (fun j _ => rc 27 j (by omega) (by omega) (by omega))
end
