/-! law: the call, the end of it -/
section
variable {nb nm nl nB nN td nt nw lw : Nat} {w : Nat → Nat} {L : Lay} {σ : Sto}
/-- the law that was is kept -/
theorem LAW.keep {lw : Nat} {σ σ' : Sto} (h : LAW lw σ) (a1 : σ'.1 0 8 = σ.1 0 8) (a2 : σ'.1 37 27 = σ.1 37 27) (a3 : σ'.1 37 26 = σ.1 37 26) (q1 : ∀ k, σ'.1 (lw + 1) k = σ.1 (lw + 1) k) (q2 : ∀ k, σ'.1 (lw + 2) k = σ.1 (lw + 2) k) (q3 : ∀ k, σ'.1 56 k = σ.1 56 k) (q4 : ∀ k, k < 3 → σ'.1 57 k = σ.1 57 k) : LAW lw σ' := by
  have q3' : σ'.1 56 = σ.1 56 := funext q3
  rcases h with ⟨h1, h2⟩ | ⟨h1, h2, n, ee, h3, h4, h5, h6, h7⟩
  · exact Or.inl ⟨a1.trans h1, a2.trans h2⟩
  · refine Or.inr ⟨a1.trans h1, a2.trans h2, n, ee, h3, a3.trans h4, ?_, h6, ?_⟩
    · rw [q3']; exact h5
    · intro k hk
      obtain ⟨b1, b2, b3, fr, c, s, b4, b5⟩ := h7 k hk
      refine ⟨b1, b2, (q2 k).trans b3, fr, c, s, (q4 k hk).trans b4, ?_⟩
      rw [q3']
      simp only [q1]
      exact b5
theorem op_law (h : INVP nb nm nl nB nN td nt nw lw w L σ) : OPs L (f_X11_law L σ 0) (fun σ1 => f_X12_law L σ1 37) := by
  have h0 := h
  obtain ⟨hS, hR, ⟨⟨hnb, hnm, hnl, hnB, hnN, htd, hnt, hnw⟩, ⟨eb, eb'⟩, ⟨em, em'⟩, ⟨el, el'⟩, ⟨eB, eB'⟩, ⟨eN, eN'⟩, ⟨et, et'⟩, ⟨ep, ep'⟩, ew, ew'⟩, hBR, hME, hLI, hBA, hTA, hNO, hHA, hRU, hWA, hSH, hLA⟩ := id h
  have hl := hR.lw
  have hD : 38 - lw = 17 ∨ 38 - lw = 21 := by omega
  have hDl : 38 - (38 - lw) = lw := by omega
  have hne : ¬ 38 - lw = lw := by omega
  have e16 : ∀ i, i < nt → ∃ b, b < 256 ∧ σ.1 16 i = nI b := fun i hi => by
    obtain ⟨b, b1, b2, -⟩ := hTA i hi
    exact ⟨b, b1, b2⟩
  have e55 : ∀ i, i < nt → ∃ b, b < 256 ∧ σ.1 55 i = nI b := fun i hi => by
    obtain ⟨b, b1, -, b2⟩ := hTA i hi
    exact ⟨b, b1, b2⟩
  have ht' : clp nt (σ.1 55) = tx nt σ := clp_congr (fun i hi => by
    obtain ⟨b, -, b1, b2⟩ := hTA i hi
    rw [b1, b2])
  obtain ⟨σr, a1, a2, a3, a4⟩ := x1_tape hS hR hnt ep e16 hD rfl
  generalize hT : tx nt σ = t at a1 a3 a4 ht'
  generalize hDD : 38 - lw = D at a1 a2 a4 hD hDl hne
  have r07 : σ.2.1 0 7 = some D := by rw [← hDD]; exact hR.r0_7
  have rr : ∀ a k, σr.2.1 a k = σ.2.1 a k := fun a k => by rw [a2.2]
  have s05 : σr.2.1 0 5 = some 15 := (rr 0 5).trans hR.r0_5
  have s06 : σr.2.1 0 6 = some lw := (rr 0 6).trans hR.r0_6
  have s07 : σr.2.1 0 7 = some D := (rr 0 7).trans r07
  have rc0 : ∀ a k, rch a k = false → ¬ (a = 0 ∧ k = 6) ∧ ¬ (a = 0 ∧ k = 7) := fun a k u => ⟨(fun v => by rw [v.1, v.2] at u; cases u), (fun v => by rw [v.1, v.2] at u; cases u)⟩
  have agr : ∀ a k, ¬ ((a = 15 ∧ 2 ≤ k) ∨ a = D ∨ a = D + 1 ∨ a = D + 2) → σr.1 a k = σ.1 a k := fun a k u => a2.at (eps_f u)
  have chn : ∀ a k, (!chl a k) = true → ¬ ((a = 37 ∧ ((25 ≤ k ∧ k ≤ 27) ∨ 52 ≤ k)) ∨ a = 56 ∨ a = 57 ∨ a = 78 ∨ (a = 15 ∧ 1 ≤ k) ∨ (17 ≤ a ∧ a ≤ 19) ∨ (21 ≤ a ∧ a ≤ 23) ∨ (a = 0 ∧ k = 8)) := fun a k u v => by
    rw [chl_t v] at u
    cases u
  by_cases z : lok t nt = true
  · obtain ⟨b1, b2, b3', b4, b5⟩ := a4 z
    let σ7 : Sto := sI (sR (sR (sI σr 15 1 0) 0 6 (some D)) 0 7 (some lw)) 0 8 1
    have w7 : ∀ a k, ¬ (a = 15 ∧ k = 1) → ¬ (a = 0 ∧ k = 8) → σ7.1 a k = σr.1 a k := fun a k u v => (if_neg v).trans (if_neg u)
    have q6 : σ7.2.1 0 6 = some D := by
      show (sR (sR (sI σr 15 1 0) 0 6 (some D)) 0 7 (some lw)).2.1 0 6 = some D
      rw [sR_nk (by omega), sR_eq]
    have q7 : σ7.2.1 0 7 = some lw := by
      show (sR (sR (sI σr 15 1 0) 0 6 (some D)) 0 7 (some lw)).2.1 0 7 = some lw
      rw [sR_eq]
    have qr : ∀ a k, rch a k = false → σ7.2.1 a k = σ.2.1 a k := fun a k u => by
      have u1 := rc0 a k u
      show (sR (sR (sI σr 15 1 0) 0 6 (some D)) 0 7 (some lw)).2.1 a k = σ.2.1 a k
      rw [sR_at, if_neg u1.2, sR_at, if_neg u1.1]
      exact rr a k
    have C0 : f_X11_law L σ 0 = some (σr.1 D 3, σ7) := by
      unfold f_X11_law putI putR
      rw [r07, Option.bind_some, a1, Option.bind_some]
      dsimp only
      rw [s05, Option.bind_some, Option.bind_some, if_neg (by rw [b3_t z]; decide), Option.bind_some, Option.bind_some, ck1, Option.bind_some, Option.bind_some]
      rw [show (sI σr 15 1 0).2.1 0 7 = some D from s07, show (sI σr 15 1 0).2.1 0 6 = some lw from s06]
      have q3 : σ7.1 D 3 = σr.1 D 3 := w7 D 3 (by omega) (by omega)
      show (σ7.2.1 0 6).bind (fun x8 => some (σ7.1 x8 3, σ7)) = _
      rw [q6, Option.bind_some, q3]
    have R7 : RF D σ7.2.1 := RF.to hR qr hD q6 (by rw [hDl]; exact q7)
    have v25 : σ7.1 37 25 = nI nt := (w7 37 25 (by omega) (by omega)).trans ((agr 37 25 (by omega)).trans ep')
    have x55 : ∀ i, σ7.1 55 i = σ.1 55 i := fun i => (w7 55 i (by omega) (by omega)).trans (agr 55 i (by omega))
    obtain ⟨v, σF, c1, c2, c3, c4⟩ := x12_law hS R7 hnt v25 (fun i hi => by rw [x55]; exact e55 i hi) ((clp_congr (fun i _ => x55 i)).trans ht')
    rcases c4 with ⟨-, d1, d2, d3, d4, d5⟩ | ⟨d1, -⟩
    · have ag7 : ∀ a k, (!chl a k) = true → σF.1 a k = σ.1 a k := fun a k u => by
        have u := chn a k u
        rw [c2.at (pf_of (fun y => u (by have := rlc_c y; omega))), w7 a k (by omega) (by omega), agr a k (by omega)]
      have nf : ∀ a k, ¬ ((a = 37 ∧ ((25 ≤ k ∧ k ≤ 27) ∨ 52 ≤ k)) ∨ a = 56 ∨ a = 57 ∨ a = 78) → σF.1 a k = σ7.1 a k := fun a k u => c2.at (pf_of (fun y => u (rlc_c y)))
      have hW : LAW D σF := by
        refine Or.inr ⟨?_, d3, LW_of (t := t) (g := σ.1 (D + 1)) hnt d2 (fun i hi => ?_) ?_ d5 ?_ ?_ ?_ ?_⟩
        · rw [nf 0 8 (by omega)]
          exact sI_eq _ _ _ _
        · rw [d4 i hi, x55]
          exact e55 i hi
        · rw [← ht']
          exact clp_congr (fun i hi => by rw [d4 i hi, x55])
        · rw [← b2]
          exact funext fun i => (nf (D + 1) i (by omega)).trans (w7 _ _ (by omega) (by omega))
        · rw [← b3']
          exact (nf (D + 2) 0 (by omega)).trans (w7 _ _ (by omega) (by omega))
        · rw [← b4]
          exact (nf (D + 2) 1 (by omega)).trans (w7 _ _ (by omega) (by omega))
        · rw [← b5]
          exact (nf (D + 2) 2 (by omega)).trans (w7 _ _ (by omega) (by omega))
      have RR : RF D σF.2.1 := by
        rw [c2.2]
        exact R7
      refine ops_of C0 (c1.trans (by rw [d1, b1])) (law_inv h0 ag7 (fun a k u => ?_) RR ?_ c3 hW).iv
      · rw [c2.2]
        exact qr a k u
      · rw [nf 15 1 (by omega)]
        exact (sI_ne (by omega)).trans (sI_eq σr 15 1 0)
    · rw [z] at d1
      cases d1
  · have z' : lok t nt = false := pf_of z
    have C0 : f_X11_law L σ 0 = some (-100 - nI (lps t nt), sI σr 15 1 0) := by
      unfold f_X11_law putI putR
      rw [r07, Option.bind_some, a1, Option.bind_some]
      dsimp only
      rw [s05, Option.bind_some, Option.bind_some, if_pos (b3_f z), show (sI σr 15 1 0).2.1 0 5 = some 15 from s05, Option.bind_some, sI_nk (by omega), a3]
    have R1 : RF lw (sI σr 15 1 0).2.1 := RF.to hR (fun a k _ => rr a k) hl s06 (by rw [hDD]; exact s07)
    have w1 : ∀ a k, ¬ (a = 15 ∧ k = 1) → (sI σr 15 1 0).1 a k = σr.1 a k := fun a k u => if_neg u
    have v25 : (sI σr 15 1 0).1 37 25 = nI nt := (w1 37 25 (by omega)).trans ((agr 37 25 (by omega)).trans ep')
    have x55 : ∀ i, (sI σr 15 1 0).1 55 i = σ.1 55 i := fun i => (w1 55 i (by omega)).trans (agr 55 i (by omega))
    obtain ⟨v, σF, c1, c2, c3, c4⟩ := x12_law hS R1 hnt v25 (fun i hi => by rw [x55]; exact e55 i hi) ((clp_congr (fun i _ => x55 i)).trans ht')
    rcases c4 with ⟨d1, -⟩ | ⟨-, d1, d2, d3, d4, d5⟩
    · exact absurd d1 z
    · have ag7 : ∀ a k, (!chl a k) = true → σF.1 a k = σ.1 a k := fun a k u => by
        have u := chn a k u
        rw [c2.at (pf_of (fun y => u (by have := rlc_c y; omega))), w1 a k (by omega), agr a k (by omega)]
      have nf : ∀ a k, ¬ ((a = 37 ∧ ((25 ≤ k ∧ k ≤ 27) ∨ 52 ≤ k)) ∨ a = 56 ∨ a = 57 ∨ a = 78) → σF.1 a k = (sI σr 15 1 0).1 a k := fun a k u => c2.at (pf_of (fun y => u (rlc_c y)))
      have hW : LAW lw σF := hLA.keep ((nf 0 8 (by omega)).trans ((w1 _ _ (by omega)).trans (agr 0 8 (by omega)))) (d3.trans ((w1 _ _ (by omega)).trans (agr _ _ (by omega)))) (d2.trans ((w1 _ _ (by omega)).trans (agr _ _ (by omega)))) (fun k => (nf _ k (by omega)).trans ((w1 _ _ (by omega)).trans (agr _ _ (by omega)))) (fun k => (nf _ k (by omega)).trans ((w1 _ _ (by omega)).trans (agr _ _ (by omega)))) (fun k => (d4 k).trans ((w1 _ _ (by omega)).trans (agr _ _ (by omega)))) (fun k hk => (d5 k hk).trans ((w1 _ _ (by omega)).trans (agr _ _ (by omega))))
      have RR : RF lw σF.2.1 := by
        rw [c2.2]
        exact R1
      refine ops_of C0 (c1.trans (by rw [d1])) (law_inv h0 ag7 (fun a k _ => ?_) RR ?_ c3 hW).iv
      · rw [c2.2]
        exact rr a k
      · rw [nf 15 1 (by omega)]
        exact sI_eq σr 15 1 0
end
