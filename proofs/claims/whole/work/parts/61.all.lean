/-! sendAll -/
/-- to whom a paper goes -/
abbrev saC (σ : Sto) (j o k : Nat) : Prop := σ.1 52 (40 * j + k) = -1 ∧ inS σ k (σ.1 49 j) (nI o)
def saN (σ : Sto) (j o n : Nat) : Int32 := itr (fun k a => a + b3 (saC σ j o k)) n 0
theorem saN_succ (σ : Sto) (j o n : Nat) : saN σ j o (n + 1) = saN σ j o n + b3 (saC σ j o n) := rfl
theorem cps_sa {σ σ' : Sto} {j o td : Nat} (htd : td ≤ 400) : ∀ n, (∀ m, m < n → σ'.1 52 (40 * j + m) = if saC σ j o m then nI td else σ.1 52 (40 * j + m)) → cps σ' j n = cps σ j n + saN σ j o n
  | 0, _ => rfl
  | n + 1, h => by
    rw [cps_succ, cps_succ, saN_succ, cps_sa htd n (fun m hm => h m (by omega)), h n (by omega)]
    by_cases q : saC σ j o n
    · rw [if_pos q, b3_t q, b3_t (p := ¬ nI td = -1) (nI_nneg (by omega) (by decide)), b3_f (p := ¬ σ.1 52 (40 * j + n) = -1) (fun z => z q.1), Int32.add_zero, Int32.add_assoc]
    · rw [if_neg q, b3_f q, Int32.add_zero, Int32.add_assoc, Int32.add_assoc, Int32.add_comm (saN σ j o n)]
theorem sub_cancel32 (a b : Int32) : a + b - a = b := by
  rw [Int32.add_comm, Int32.add_sub_cancel]
section
variable {nb nm nl nB nN td nt nw lw : Nat} {w : Nat → Nat} {L : Lay} {σ : Sto}
theorem op_sendAll (h : INVP nb nm nl nB nN td nt nw lw w L σ) (x : Int32) : OPs L (f_X11_sendAll L σ 0 x) (fun σ1 => f_X12_sendAll L σ1 37 x) := by
  have hN := h.hN
  have hd := h.rd
  obtain ⟨hS, hR, ⟨⟨hnb, hnm, hnl, hnB, hnN, htd, hnt, hnw⟩, ⟨eb, eb'⟩, ⟨em, em'⟩, ⟨el, el'⟩, ⟨eB, eB'⟩, ⟨eN, eN'⟩, ⟨et, et'⟩, ⟨ep, ep'⟩, ew, ew'⟩, hBR, hME, hLI, hBA, hTA, hNO, hHA, hRU, hWA, hSH, hLA⟩ := id h
  rcases ixc x nB (by omega) with hx | ⟨j, hj, rfl⟩
  · refine ops_of (v := -1000000001) (σ1 := σ) (σ2 := σ) ?_ ?_ h.iv
    · simp only [f_X11_sendAll, bAt_out eB hnB hx, Option.bind_some, Option.elim_some, Option.elim_none, wi, x12_in, b3_z, ckb, ck0, ck1, putI, putR, putJ, not_true_eq_false, not_false_eq_true, if_true, if_false, and_self, and_true, true_and, one_ne0, zero_eq0, ite_self, sI_eq, sI_ne, sI_nk, sI_21, sI_22, sJ_21, sJ_1]
    · simp only [f_X12_sendAll, isBa_out eB' hnB hx, Option.bind_some, Option.elim_some, Option.elim_none, wi, x12_in, b3_z, ckb, ck0, ck1, putI, putR, putJ, not_true_eq_false, not_false_eq_true, if_true, if_false, and_self, and_true, true_and, one_ne0, zero_eq0, ite_self, sI_eq, sI_ne, sI_nk, sI_21, sI_22, sJ_21, sJ_1]
  · obtain ⟨r, o, hb⟩ := hBA j hj
    obtain ⟨⟨b1, b2, b3', b4, b5, b6⟩, ⟨b7, b8, b9, b10⟩, ⟨b11, b12, b13⟩, ⟨b14, b15, b17, b18, b19⟩, b20, b21, b22⟩ := id hb
    rcases b20 with ⟨q1, q2⟩ | ⟨d, q0, q0', q1, q2⟩
    · -- the class
      have A : OK (f_X0_postToMissed L σ (r + 80)) (fun q => q.1 = saN σ j o nm ∧ (∀ k, q.2.1 (r + 81) k = if k < nm ∧ saC σ j o k then nI td else σ.1 (r + 81) k) ∧ q.2.1 (r + 80) 4 = σ.1 (r + 80) 4 + saN σ j o nm ∧ (∀ a k, a ≠ r + 81 → ¬ (a = r + 80 ∧ k = 4) → q.2.1 a k = σ.1 a k) ∧ q.2.2 = σ.2) := by
        unfold f_X0_postToMissed
        refine loopI (F := fun k q => f_X0_postToMissed_7 k L q.1 (r + 80) (σ.1 (r + 80) 4) q.2) (s := (σ, 0)) (I := fun i q => q.2 = nI i ∧ (∀ k, q.1.1 (r + 81) k = if k < i ∧ saC σ j o k then nI td else σ.1 (r + 81) k) ∧ q.1.1 (r + 80) 4 = σ.1 (r + 80) 4 + saN σ j o i ∧ (∀ a k, a ≠ r + 81 → ¬ (a = r + 80 ∧ k = 4) → q.1.1 a k = σ.1 a k) ∧ q.1.2 = σ.2) _ nm ?_ ?_ (FU_lt (by omega)) ⟨nI_0.symm, fun k => by rw [if_neg (by omega)], (Int32.add_zero _).symm, fun _ _ _ _ => rfl, rfl⟩
        · rintro i K ⟨σ', y⟩ hi ⟨ey, h1, h2, h3, h4⟩
          dsimp only at ey h1 h2 h3 h4
          subst ey
          have er : σ'.2.1 = σ.2.1 := by rw [h4]
          have hag : ∀ a k, a < 80 → σ'.1 a k = σ.1 a k := fun a k ha => h3 a k (by omega) (by omega)
          have hd' : RD nb nm td lw w L σ' := hd.fr (fun a k p => h3 a k (fun e => by subst e; simp [pRD, pNUM, pBRA] at p; omega) (fun e => by obtain ⟨e, -⟩ := e; subst e; simp [pRD, pNUM, pBRA] at p; omega)) er
          have ea := x10_isAmong hd' hi (d := o) (by omega) (σ.1 49 j)
          rw [b3_c (q := inS σ i (σ.1 49 j) (nI o)) (by rw [inS_eq (fun a k h1 h2 => hag a k (by omega))])] at ea
          have h39 := in39 (show i < 40 by omega)
          have hR' : RF lw σ'.2.1 := by rw [er]; exact hR
          have v1 := hag 1 3 (by omega)
          have v2 := hag 1 4 (by omega)
          have v3 : σ'.1 (r + 80) 1 = σ.1 (r + 80) 1 := h3 _ _ (by omega) (by omega)
          have v4 : σ'.1 (r + 80) 2 = σ.1 (r + 80) 2 := h3 _ _ (by omega) (by omega)
          have v5 := h1 i
          rw [if_neg (by omega)] at v5
          have w7 : σ'.2.1 (r + 80) 0 = some 1 := by rw [er]; exact b7
          have w8 : σ'.2.1 (r + 80) 5 = some (r + 81) := by rw [er]; exact b8
          refine Or.inl ?_
          rcases b22 i (by omega) with ⟨p1, p2, p3, p4⟩ | ⟨p0, d, p1, p2, p3, p4, p5⟩
          · by_cases c : inS σ i (σ.1 49 j) (nI o)
            · refine ⟨(sI (sI σ' (r + 81) i (nI td)) (r + 80) 4 (σ'.1 (r + 80) 4 + 1), nI (i + 1)), ?_, rfl, ?_, ?_, ?_, h4⟩
              · simp (disch := omega) only [f_X0_postToMissed_7, f_X0_postToMissed_50, f_X0_hasSent, f_X0_post, w7, w8, v1, em, nI_leI, show ¬ nm ≤ i by omega, h39, rI_nI b11, wI_nI b11, v5, p2, e401, v3, b14, v4, b17, ea, b3_t c, v2, et, nI_1, Option.bind_some, Option.elim_some, Option.elim_none, wi, x12_in, b3_z, ckb, ck0, ck1, putI, putR, putJ, not_true_eq_false, not_false_eq_true, if_true, if_false, and_self, and_true, true_and, one_ne0, zero_eq0, ite_self, sI_eq, sI_ne, sI_nk, sI_21, sI_22, sJ_21, sJ_1]
              · intro k
                dsimp only
                by_cases z : k = i
                · subst z
                  rw [if_pos ⟨by omega, p1, c⟩]
                  simp (disch := omega) only [sI_eq, sI_ne]
                · simp (disch := omega) only [sI_ne, sI_nk]
                  rw [h1 k]
                  by_cases z2 : k < i ∧ saC σ j o k
                  · rw [if_pos z2, if_pos ⟨by omega, z2.2⟩]
                  · rw [if_neg z2, if_neg (fun u => z2 ⟨by omega, u.2⟩)]
              · dsimp only
                rw [sI_eq, h2, saN_succ, b3_t (p := saC σ j o i) ⟨p1, c⟩, Int32.add_assoc]
              · intro a k z1 z2
                dsimp only
                rw [sI_at, if_neg z2, sI_ne z1]
                exact h3 a k z1 z2
            · refine ⟨(σ', nI (i + 1)), ?_, rfl, ?_, ?_, h3, h4⟩
              · simp (disch := omega) only [f_X0_postToMissed_7, f_X0_postToMissed_50, f_X0_hasSent, w7, w8, v1, em, nI_leI, show ¬ nm ≤ i by omega, h39, rI_nI b11, v5, p2, e401, v3, b14, v4, b17, ea, b3_f c, nI_1, Option.bind_some, Option.elim_some, Option.elim_none, wi, x12_in, b3_z, ckb, ck0, ck1, putI, putR, putJ, not_true_eq_false, not_false_eq_true, if_true, if_false, and_self, and_true, true_and, one_ne0, zero_eq0, ite_self, sI_eq, sI_ne, sI_nk, sI_21, sI_22, sJ_21, sJ_1]
              · intro k
                dsimp only
                rw [h1 k]
                by_cases z : k = i
                · subst z
                  rw [if_neg (by omega), if_neg (fun u => c u.2.2)]
                · by_cases z2 : k < i ∧ saC σ j o k
                  · rw [if_pos z2, if_pos ⟨by omega, z2.2⟩]
                  · rw [if_neg z2, if_neg (fun u => z2 ⟨by omega, u.2⟩)]
              · dsimp only
                rw [h2, saN_succ, b3_f (p := saC σ j o i) (fun u => c u.2), Int32.add_zero]
          · refine ⟨(σ', nI (i + 1)), ?_, rfl, ?_, ?_, h3, h4⟩
            · simp (disch := omega) only [f_X0_postToMissed_7, f_X0_postToMissed_50, f_X0_hasSent, w7, w8, v1, em, nI_leI, show ¬ nm ≤ i by omega, h39, rI_nI b11, v5, p4, nI401, nI_1, Option.bind_some, Option.elim_some, Option.elim_none, wi, x12_in, b3_z, ckb, ck0, ck1, putI, putR, putJ, not_true_eq_false, not_false_eq_true, if_true, if_false, and_self, and_true, true_and, one_ne0, zero_eq0, ite_self, sI_eq, sI_ne, sI_nk, sI_21, sI_22, sJ_21, sJ_1]
            · intro k
              dsimp only
              rw [h1 k]
              by_cases z : k = i
              · subst z
                rw [if_neg (by omega), if_neg (fun u => nI_nneg (show d < 2 ^ 31 by omega) (show (-1 : Int32) < 0 by decide) (p3.symm.trans u.2.1))]
              · by_cases z2 : k < i ∧ saC σ j o k
                · rw [if_pos z2, if_pos ⟨by omega, z2.2⟩]
                · rw [if_neg z2, if_neg (fun u => z2 ⟨by omega, u.2⟩)]
            · dsimp only
              rw [h2, saN_succ, b3_f (p := saC σ j o i) (fun u => nI_nneg (show d < 2 ^ 31 by omega) (show (-1 : Int32) < 0 by decide) (p3.symm.trans u.1)), Int32.add_zero]
        · rintro K ⟨σ', y⟩ ⟨ey, h1, h2, h3, h4⟩
          dsimp only at ey h1 h2 h3 h4
          subst ey
          have w7 : σ'.2.1 (r + 80) 0 = some 1 := by rw [h4]; exact b7
          have v1 : σ'.1 1 3 = σ.1 1 3 := h3 _ _ (by omega) (by omega)
          refine ⟨(saN σ j o nm, σ'), ?_, rfl, h1, h2, h3, h4⟩
          simp (disch := omega) only [f_X0_postToMissed_7, w7, v1, em, nI_leI, Nat.le_refl, h2, sub_cancel32, Option.bind_some, Option.elim_some, Option.elim_none, wi, x12_in, b3_z, ckb, ck0, ck1, putI, putR, putJ, not_true_eq_false, not_false_eq_true, if_true, if_false, and_self, and_true, true_and, one_ne0, zero_eq0, ite_self, sI_eq, sI_ne, sI_nk, sI_21, sI_22, sJ_21, sJ_1]
      obtain ⟨⟨v, σ1⟩, A0, rfl, A1, A2, A3, A4⟩ := A
      dsimp only at A1 A2 A3 A4
      have er : σ1.2.1 = σ.2.1 := by rw [A4]
      have hag : ∀ a k, a < 80 → σ1.1 a k = σ.1 a k := fun a k ha => A3 a k (by omega) (by omega)
      -- the reference
      have B : OK (f_X12_sendAll_28 FU L σ1 37 (nI j) 0 0) (fun q => q.1 = saN σ j o nm ∧ (∀ k, q.2.1 52 k = if (40 * j ≤ k ∧ k < 40 * j + nm) ∧ saC σ j o (k - 40 * j) then nI td else σ.1 52 k) ∧ (∀ a k, a ≠ 52 → q.2.1 a k = σ1.1 a k) ∧ q.2.2 = σ1.2) := by
        refine loopI (F := fun k q => f_X12_sendAll_28 k L q.1 37 (nI j) q.2.1 q.2.2) (s := (σ1, 0, 0)) (I := fun i q => q.2.2 = nI i ∧ q.2.1 = saN σ j o i ∧ (∀ k, q.1.1 52 k = if (40 * j ≤ k ∧ k < 40 * j + i) ∧ saC σ j o (k - 40 * j) then nI td else σ.1 52 k) ∧ (∀ a k, a ≠ 52 → q.1.1 a k = σ1.1 a k) ∧ q.1.2 = σ1.2) _ nm ?_ ?_ (FU_lt (by omega)) ⟨nI_0.symm, rfl, fun k => by rw [if_neg (by omega)]; exact hag 52 k (by omega), fun _ _ _ => rfl, rfl⟩
        · rintro i K ⟨σ', n, y⟩ hi ⟨ey, en, h1, h3, h4⟩
          dsimp only at ey en h1 h3 h4
          subst ey
          subst en
          have er' : σ'.2.1 = σ.2.1 := by rw [h4, er]
          have hag' : ∀ a k, a < 80 → a ≠ 52 → σ'.1 a k = σ.1 a k := fun a k ha hb => (h3 a k hb).trans (hag a k ha)
          have hd' : RD nb nm td lw w L σ' := hd.fr (fun a k p => (h3 a k (fun e => by subst e; simp [pRD, pNUM, pBRA] at p)).trans (A3 a k (fun e => by subst e; simp [pRD, pNUM, pBRA] at p; omega) (fun e => by obtain ⟨e, -⟩ := e; subst e; simp [pRD, pNUM, pBRA] at p; omega))) er'
          have ea := x12_isEntitled hd' hi (show j < 12 by omega)
          rw [hag' 49 j (by omega) (by omega), hag' 50 j (by omega) (by omega), b18, b3_c (q := inS σ i (σ.1 49 j) (nI o)) (by rw [inS_eq (fun a k h1 h2 => hag' a k (by omega) (by omega))])] at ea
          have hR' : RF lw σ'.2.1 := by rw [er']; exact hR
          have v1 := hag' 37 4 (by omega) (by omega)
          have v2 := hag' 37 1 (by omega) (by omega)
          have v5 := h1 (40 * j + i)
          rw [if_neg (by omega)] at v5
          refine Or.inl ?_
          by_cases c : inS σ i (σ.1 49 j) (nI o)
          · by_cases c2 : σ.1 52 (40 * j + i) = -1
            · refine ⟨(sI σ' 52 (40 * j + i) (nI td), saN σ j o (i + 1), nI (i + 1)), ?_, rfl, rfl, ?_, ?_, h4⟩
              · rw [saN_succ, b3_t (p := saC σ j o i) ⟨c2, c⟩]
                simp (disch := omega) only [f_X12_sendAll_28, f_X12_sendAll_78, v1, em', nI_leI, show ¬ nm ≤ i by omega, ea, b3_t c, hR'.r37_20, rI_nI hS.l52, wI_nI hS.l52, mul_lit, nI_add, v5, c2, m1m1, v2, et', nI_1, Option.bind_some, Option.elim_some, Option.elim_none, wi, x12_in, b3_z, ckb, ck0, ck1, putI, putR, putJ, not_true_eq_false, not_false_eq_true, if_true, if_false, and_self, and_true, true_and, one_ne0, zero_eq0, ite_self, sI_eq, sI_ne, sI_nk, sI_21, sI_22, sJ_21, sJ_1]
              · intro k
                dsimp only
                by_cases z : k = 40 * j + i
                · subst z
                  rw [sI_eq, if_pos ⟨by omega, by rw [Nat.add_sub_cancel_left]; exact ⟨c2, c⟩⟩]
                · rw [sI_nk z, h1 k]
                  by_cases z2 : (40 * j ≤ k ∧ k < 40 * j + i) ∧ saC σ j o (k - 40 * j)
                  · rw [if_pos z2, if_pos ⟨by omega, z2.2⟩]
                  · rw [if_neg z2, if_neg (fun u => z2 ⟨by omega, u.2⟩)]
              · intro a k z
                dsimp only
                rw [sI_ne z]
                exact h3 a k z
            · refine ⟨(σ', saN σ j o (i + 1), nI (i + 1)), ?_, rfl, rfl, ?_, h3, h4⟩
              · rw [saN_succ, b3_f (p := saC σ j o i) (fun u => c2 u.1), Int32.add_zero]
                simp (disch := omega) only [f_X12_sendAll_28, f_X12_sendAll_78, v1, em', nI_leI, show ¬ nm ≤ i by omega, ea, b3_t c, hR'.r37_20, rI_nI hS.l52, mul_lit, nI_add, v5, c2, nI_1, Option.bind_some, Option.elim_some, Option.elim_none, wi, x12_in, b3_z, ckb, ck0, ck1, putI, putR, putJ, not_true_eq_false, not_false_eq_true, if_true, if_false, and_self, and_true, true_and, one_ne0, zero_eq0, ite_self, sI_eq, sI_ne, sI_nk, sI_21, sI_22, sJ_21, sJ_1]
              · intro k
                dsimp only
                rw [h1 k]
                by_cases z : k = 40 * j + i
                · subst z
                  rw [if_neg (by omega), if_neg (fun u => c2 (by have := u.2.1; rw [Nat.add_sub_cancel_left] at this; exact this))]
                · by_cases z2 : (40 * j ≤ k ∧ k < 40 * j + i) ∧ saC σ j o (k - 40 * j)
                  · rw [if_pos z2, if_pos ⟨by omega, z2.2⟩]
                  · rw [if_neg z2, if_neg (fun u => z2 ⟨by omega, u.2⟩)]
          · refine ⟨(σ', saN σ j o (i + 1), nI (i + 1)), ?_, rfl, rfl, ?_, h3, h4⟩
            · rw [saN_succ, b3_f (p := saC σ j o i) (fun u => c u.2), Int32.add_zero]
              simp (disch := omega) only [f_X12_sendAll_28, f_X12_sendAll_78, v1, em', nI_leI, show ¬ nm ≤ i by omega, ea, b3_f c, nI_1, Option.bind_some, Option.elim_some, Option.elim_none, wi, x12_in, b3_z, ckb, ck0, ck1, putI, putR, putJ, not_true_eq_false, not_false_eq_true, if_true, if_false, and_self, and_true, true_and, one_ne0, zero_eq0, ite_self, sI_eq, sI_ne, sI_nk, sI_21, sI_22, sJ_21, sJ_1]
            · intro k
              dsimp only
              rw [h1 k]
              by_cases z : k = 40 * j + i
              · subst z
                rw [if_neg (by omega), if_neg (fun u => c (by have := u.2.2; rw [Nat.add_sub_cancel_left] at this; exact this))]
              · by_cases z2 : (40 * j ≤ k ∧ k < 40 * j + i) ∧ saC σ j o (k - 40 * j)
                · rw [if_pos z2, if_pos ⟨by omega, z2.2⟩]
                · rw [if_neg z2, if_neg (fun u => z2 ⟨by omega, u.2⟩)]
        · rintro K ⟨σ', n, y⟩ ⟨ey, en, h1, h3, h4⟩
          dsimp only at ey en h1 h3 h4
          subst ey
          subst en
          have v1 : σ'.1 37 4 = σ.1 37 4 := (h3 _ _ (by omega)).trans (hag _ _ (by omega))
          refine ⟨(saN σ j o nm, σ'), ?_, rfl, h1, h3, h4⟩
          simp (disch := omega) only [f_X12_sendAll_28, v1, em', nI_leI, Nat.le_refl, Option.bind_some, Option.elim_some, Option.elim_none, wi, x12_in, b3_z, ckb, ck0, ck1, putI, putR, putJ, not_true_eq_false, not_false_eq_true, if_true, if_false, and_self, and_true, true_and, one_ne0, zero_eq0, ite_self, sI_eq, sI_ne, sI_nk, sI_21, sI_22, sJ_21, sJ_1]
      obtain ⟨⟨v, σ2⟩, B0, rfl, B1, B3, B4⟩ := B
      dsimp only at B1 B3 B4
      have er2 : σ2.2.1 = σ.2.1 := by rw [B4, er]
      have g : ∀ a k, a ≠ 52 → a ≠ r + 81 → ¬ (a = r + 80 ∧ k = 4) → σ2.1 a k = σ.1 a k := fun a k z1 z2 z3 => (B3 a k z1).trans (A3 a k z2 z3)
      have g52 : ∀ m, m < 40 → σ2.1 52 (40 * j + m) = if m < nm ∧ saC σ j o m then nI td else σ.1 52 (40 * j + m) := fun m hm => by
        rw [B1 (40 * j + m), Nat.add_sub_cancel_left]
        by_cases z : m < nm ∧ saC σ j o m
        · rw [if_pos z, if_pos ⟨by omega, z.2⟩]
        · rw [if_neg z, if_neg (fun u => z ⟨by omega, u.2⟩)]
      refine ops_of (v := saN σ j o nm) (σ1 := σ1) (σ2 := σ2) ?_ ?_ ?_
      · simp only [f_X11_sendAll, f_X0_hasClosed, bAt_in hS hR eB hnB hj, b1, q2, e401, A0, Option.bind_some, Option.elim_some, Option.elim_none, wi, x12_in, b3_z, ckb, ck0, ck1, putI, putR, putJ, not_true_eq_false, not_false_eq_true, if_true, if_false, and_self, and_true, true_and, one_ne0, zero_eq0, ite_self, sI_eq, sI_ne, sI_nk, sI_21, sI_22, sJ_21, sJ_1]
      · have z1 : σ1.1 37 16 = nI nB := (hag _ _ (by omega)).trans eB'
        have z2 : RF lw σ1.2.1 := by rw [er]; exact hR
        have z3 : σ1.1 51 j = -1 := (hag _ _ (by omega)).trans q1
        simp (disch := omega) only [f_X12_sendAll, isBa_in z1 hnB hj, z2.r37_19, rI_nI hS.l51, z3, m1m1, B0, Option.bind_some, Option.elim_some, Option.elim_none, wi, x12_in, b3_z, ckb, ck0, ck1, putI, putR, putJ, not_true_eq_false, not_false_eq_true, if_true, if_false, and_self, and_true, true_and, one_ne0, zero_eq0, ite_self, sI_eq, sI_ne, sI_nk, sI_21, sI_22, sJ_21, sJ_1]
      · have ag : ∀ P : Nat → Nat → Bool, (∀ k, P 52 k = false) → (∀ k, P (r + 81) k = false) → P (r + 80) 4 = false → AG P σ σ2 := fun P p1 p2 p3 a k p => g a k (fun e => by subst e; rw [p1] at p; cases p) (fun e => by subst e; rw [p2] at p; cases p) (fun e => by obtain ⟨e1, e2⟩ := e; subst e1; subst e2; rw [p3] at p; cases p)
        have lo : ∀ P : Nat → Nat → Bool, (∀ a k, 80 ≤ a → P a k = false) → (∀ k, P 52 k = false) → AG P σ σ2 := fun P p1 p2 => ag P p2 (fun k => p1 _ _ (by omega)) (p1 _ _ (by omega))
        refine ⟨nb, nm, nl, nB, nN, td, nt, nw, lw, w, hS, by rw [er2]; exact hR, hN.fr (lo _ (fun _ _ q => lo_N q) (fun _ => rfl)), hBR.fr (lo _ (fun _ _ q => lo_BR q) (fun _ => rfl)), hME.f (by omega) (by omega) (fun i hi => ag _ (fun _ => rfl) (fun _ => nd_ME (r := r + 1) (by omega)) (nd_ME (by omega))) er2, hLI.fr (lo _ (fun _ _ q => lo_LI q) (fun _ => rfl)), ?_, hTA.fr (lo _ (fun _ _ q => lo_TA q) (fun _ => rfl)), hNO.f (by omega) (by omega) (fun i hi => ag _ (fun _ => rfl) (fun _ => nd_NO (r := r + 1) (by omega)) (nd_NO (by omega))) er2, hHA.fr (lo _ (fun _ _ q => lo_HA q) (fun _ => rfl)), hRU.fr (lo _ (fun _ _ q => lo_RU q) (fun _ => rfl)), hWA.fr (lo _ (fun _ _ q => lo_WA q) (fun _ => rfl)), hSH.fr (lo _ (fun _ _ q => lo_SH q) (fun _ => rfl)), hLA.fr hR.lw (lo _ (fun _ _ q => lo_LA q) (fun _ => rfl))⟩
        intro k hk
        by_cases z : k = j
        · subst z
          refine ⟨r, o, ⟨by rw [er2]; exact b1, b2, b3', b4, b5, b6⟩, by rw [er2]; exact ⟨b7, b8, b9, b10⟩, ⟨b11, b12, b13⟩, ?_, ?_, ?_, ?_⟩
          · rw [g _ _ (by omega) (by omega) (by omega), g _ _ (by omega) (by omega) (by omega), g _ _ (by omega) (by omega) (by omega), g _ _ (by omega) (by omega) (by omega)]
            exact ⟨b14, b15, b17, b18, b19⟩
          · rw [g _ _ (by omega) (by omega) (by omega), g _ _ (by omega) (by omega) (by omega)]
            exact Or.inl ⟨q1, q2⟩
          · rw [B3 _ _ (by omega), A2, b21]
            refine (cps_sa (σ := σ) (o := o) htd nm (fun m hm => ?_)).symm
            rw [g52 m (by omega)]
            by_cases y : saC σ k o m
            · rw [if_pos y, if_pos ⟨hm, y⟩]
            · rw [if_neg y, if_neg (fun u => y u.2)]
          · intro m hm
            by_cases y : m < nm ∧ saC σ k o m
            · rcases b22 m hm with ⟨p1, p2, p3, p4⟩ | ⟨p0, d, p1, p2, p3, p4, p5⟩
              · refine Or.inr ⟨y.1, td, b19, by omega, ?_, ?_, Or.inl ⟨?_, ?_⟩⟩
                · rw [g52 m hm, if_pos y]
                · rw [B3 _ _ (by omega), A1, if_pos y]
                · rw [g _ _ (by omega) (by omega) (by omega)]; exact p3
                · rw [g _ _ (by omega) (by omega) (by omega)]; exact p4
              · exact absurd (p3.symm.trans y.2.1) (nI_nneg (by omega) (by decide))
            · refine (b22 m hm).fr (by omega) (by omega) ?_ ?_ ?_ ?_ ?_ ?_
              · rw [g52 m hm, if_neg y]
              · exact g _ _ (by omega) (by omega) (by omega)
              · exact g _ _ (by omega) (by omega) (by omega)
              · rw [B3 _ _ (by omega), A1, if_neg y]
              · exact g _ _ (by omega) (by omega) (by omega)
              · exact g _ _ (by omega) (by omega) (by omega)
        · obtain ⟨r', o', hb'⟩ := hBA k hk
          refine ⟨r', o', hb'.fr hnm (LE.rf L) (fun _ _ => rfl) (by omega) (by omega) (fun a q p => ?_) (by rw [er2]) (fun _ _ _ _ => by rw [er2])⟩
          by_cases e : a = 52
          · subst e
            rw [B1 q]
            refine if_neg (fun u => ?_)
            simp [pBAL1] at p
            omega
          · exact g a q e (fun e => by subst e; rw [nd_BA (r := r + 1) (by omega)] at p; cases p) (fun e => by obtain ⟨e, -⟩ := e; subst e; rw [nd_BA (by omega)] at p; cases p)
    · refine ops_of (v := -1000000002) (σ1 := σ) (σ2 := σ) ?_ ?_ h.iv
      · simp (disch := omega) only [f_X11_sendAll, f_X0_hasClosed, bAt_in hS hR eB hnB hj, b1, q2, nI401, Option.bind_some, Option.elim_some, Option.elim_none, wi, x12_in, b3_z, ckb, ck0, ck1, putI, putR, putJ, not_true_eq_false, not_false_eq_true, if_true, if_false, and_self, and_true, true_and, one_ne0, zero_eq0, ite_self, sI_eq, sI_ne, sI_nk, sI_21, sI_22, sJ_21, sJ_1]
      · simp (disch := omega) only [f_X12_sendAll, isBa_in eB' hnB hj, hR.r37_19, rI_nI hS.l51, q1, nIm1, Option.bind_some, Option.elim_some, Option.elim_none, wi, x12_in, b3_z, ckb, ck0, ck1, putI, putR, putJ, not_true_eq_false, not_false_eq_true, if_true, if_false, and_self, and_true, true_and, one_ne0, zero_eq0, ite_self, sI_eq, sI_ne, sI_nk, sI_21, sI_22, sJ_21, sJ_1]
end
