/-! roll, feed -/
def rlA (v : Nat → Int32) (nl : Nat) : Nat → List Int32
  | 0 => []
  | i + 1 => if nl + (rlA v nl i).length < 40 ∧ (0 ≤ v i ∧ v i ≤ 9999) then rlA v nl i ++ [v i] else rlA v nl i
theorem rlA_full {v : Nat → Int32} {nl i : Nat} (h : 40 ≤ nl + (rlA v nl i).length) : ∀ j, rlA v nl (i + j) = rlA v nl i
  | 0 => rfl
  | j + 1 => by
    show (if nl + (rlA v nl (i + j)).length < 40 ∧ (0 ≤ v (i + j) ∧ v (i + j) ≤ 9999) then rlA v nl (i + j) ++ [v (i + j)] else rlA v nl (i + j)) = _
    rw [rlA_full h j, if_neg (fun u => by omega)]
/-- lines that have come: places 5, 6 or 47, 48 -/
def RLI (nl : Nat) (A : List Int32) (y : Int32) (ma br ct ck : Nat) (σ σ' : Sto) : Prop := σ'.1 ct ck = nI (nl + A.length) ∧ nl + A.length ≤ 40 ∧ (∀ k, k < A.length → σ'.1 ma (nl + k) = A.getD k 0 ∧ σ'.1 br (nl + k) = y) ∧ (∀ a k, ¬ (a = ct ∧ k = ck) → ¬ ((a = ma ∨ a = br) ∧ nl ≤ k) → σ'.1 a k = σ.1 a k) ∧ σ'.2 = σ.2
theorem RLI.add {nl : Nat} {A : List Int32} {y v : Int32} {ma br ct ck : Nat} {σ σ' : Sto} (h : RLI nl A y ma br ct ck σ σ') (h1 : ma ≠ br) (h2 : ct ≠ ma) (h3 : ct ≠ br) (hl : nl + A.length < 40) : RLI nl (A ++ [v]) y ma br ct ck σ (sI (sI (sI σ' ma (nl + A.length) v) br (nl + A.length) y) ct ck (nI (nl + A.length + 1))) := by
  obtain ⟨g1, g2, g3, g4, g5⟩ := h
  refine ⟨?_, ?_, ?_, ?_, g5⟩
  · rw [sI_eq, List.length_append]; rfl
  · rw [List.length_append]; show nl + (A.length + 1) ≤ 40; omega
  · intro k hk
    rw [List.length_append] at hk
    have hk : k < A.length + 1 := hk
    rw [sI_ne (Ne.symm h2), sI_ne (Ne.symm h3)]
    by_cases e : k = A.length
    · subst e
      rw [sI_ne h1, sI_eq, sI_eq]
      refine ⟨?_, rfl⟩
      rw [List.getD_eq_getElem?_getD, List.getElem?_append_right (Nat.le_refl _), Nat.sub_self]
      rfl
    · rw [sI_ne h1, sI_nk (by omega), sI_nk (by omega), sI_ne (Ne.symm h1), (g3 k (by omega)).1, (g3 k (by omega)).2]
      refine ⟨?_, rfl⟩
      rw [List.getD_eq_getElem?_getD, List.getD_eq_getElem?_getD, List.getElem?_append_left (by omega)]
  · intro a k u1 u2
    rw [sI_at, if_neg u1, sI_at, if_neg (fun e => u2 ⟨Or.inr e.1, by omega⟩), sI_at, if_neg (fun e => u2 ⟨Or.inl e.1, by omega⟩)]
    exact g4 a k u1 u2
section
variable {nb nm nl nB nN td nt nw lw : Nat} {w : Nat → Nat} {L : Lay} {σ : Sto}
theorem op_roll (h : INVP nb nm nl nB nN td nt nw lw w L σ) (x y : Int32) : OPs L (f_X11_roll L σ 0 x y) (fun σ1 => f_X12_roll L σ1 37 x y) := by
  have hN := h.hN
  obtain ⟨hS, hR, ⟨⟨hnb, hnm, hnl, hnB, hnN, htd, hnt, hnw⟩, ⟨eb, eb'⟩, ⟨em, em'⟩, ⟨el, el'⟩, ⟨eB, eB'⟩, ⟨eN, eN'⟩, ⟨et, et'⟩, ⟨ep, ep'⟩, ew, ew'⟩, hBR, hME, hLI, hBA, hTA, hNO, hHA, hRU, hWA, hSH, hLA⟩ := id h
  rcases ixc x nb (by omega) with hb | ⟨b, hb, rfl⟩
  · refine ops_of (v := -1000000001) (σ1 := σ) (σ2 := σ) ?_ ?_ h.iv
    · by_cases hy : 0 ≤ y ∧ y ≤ 1
      · obtain ⟨s, X, Y, hs, eX, eY, rfl, c1, c2, c3⟩ := sh_in (σ := σ) hS hR hy
        simp only [f_X11_roll, c1, hR.r0_0, hB_out eb hnb hb, Option.bind_some, Option.elim_some, Option.elim_none, wi, x12_in, b3_z, ckb, ck0, ck1, putI, putR, putJ, not_true_eq_false, not_false_eq_true, if_true, if_false, and_self, and_true, true_and, one_ne0, zero_eq0, ite_self, sI_eq, sI_ne, sI_nk, sI_21, sI_22, sJ_21, sJ_1]
      · simp only [f_X11_roll, sh_out hy, Option.bind_some, Option.elim_some, Option.elim_none, wi, x12_in, b3_z, ckb, ck0, ck1, putI, putR, putJ, not_true_eq_false, not_false_eq_true, if_true, if_false, and_self, and_true, true_and, one_ne0, zero_eq0, ite_self, sI_eq, sI_ne, sI_nk, sI_21, sI_22, sJ_21, sJ_1]
    · simp only [f_X12_roll, isBr_out eb' hnb hb, Option.bind_some, Option.elim_some, Option.elim_none, wi, x12_in, b3_z, ckb, ck0, ck1, putI, putR, putJ, not_true_eq_false, not_false_eq_true, if_true, if_false, and_self, and_true, true_and, one_ne0, zero_eq0, ite_self, sI_eq, sI_ne, sI_nk, sI_21, sI_22, sJ_21, sJ_1]
  · by_cases hy : 0 ≤ y ∧ y ≤ 1
    · obtain ⟨s, X, Y, hs, eX, eY, rfl, c1, c2, c3⟩ := sh_in (σ := σ) hS hR hy
      have hs1 := hSH.get hs
      rw [← eX, ← eY] at hs1
      obtain ⟨⟨d1, d2⟩, d3⟩ := hs1
      rcases d2 with z | ⟨n, hn, z⟩
      · refine ops_of (v := -1000000011) (σ1 := σ) (σ2 := σ) ?_ ?_ h.iv
        · simp only [f_X11_roll, f_X8_isMissing, c1, hR.r0_0, hB_in eb hnb hb, d1, z, m1m1, Option.bind_some, Option.elim_some, Option.elim_none, wi, x12_in, b3_z, ckb, ck0, ck1, putI, putR, putJ, not_true_eq_false, not_false_eq_true, if_true, if_false, and_self, and_true, true_and, one_ne0, zero_eq0, ite_self, sI_eq, sI_ne, sI_nk, sI_21, sI_22, sJ_21, sJ_1]
        · simp (disch := omega) only [f_X12_roll, isBr_in eb' hnb hb, isS_in _ hy, hR.r37_41, rI_nI hS.l68, z, m1m1, Option.bind_some, Option.elim_some, Option.elim_none, wi, x12_in, b3_z, ckb, ck0, ck1, putI, putR, putJ, not_true_eq_false, not_false_eq_true, if_true, if_false, and_self, and_true, true_and, one_ne0, zero_eq0, ite_self, sI_eq, sI_ne, sI_nk, sI_21, sI_22, sJ_21, sJ_1]
      · obtain ⟨v, hv⟩ : ∃ v : Nat → Int32, v = fun k => σ.1 69 (40 * s + k) := ⟨_, rfl⟩
        have hvY : ∀ k, k < 40 → σ.1 Y k = v k := fun k hk => by rw [hv]; exact (d3 k hk).1
        have A : OK (f_X7_addLines L σ 4 (some X) (nI b)) (fun q => q.1 = nI (rlA v nl n).length ∧ RLI nl (rlA v nl n) (nI b) 5 6 4 3 σ q.2) := by
          unfold f_X7_addLines
          refine loopI (F := fun k q => f_X7_addLines_8 k L q.1 4 (some X) (nI b) (σ.1 4 3) q.2) (s := (σ, 0)) (I := fun i q => q.2 = nI i ∧ RLI nl (rlA v nl i) (nI b) 5 6 4 3 σ q.1) _ n ?_ ?_ (FU_lt (by omega)) ⟨nI_0.symm, by rw [el]; rfl, by show nl + 0 ≤ 40; omega, fun k hk => absurd hk (by show ¬ k < 0; omega), fun _ _ _ _ => rfl, rfl⟩
          · rintro i K ⟨σ', t⟩ hi ⟨et1, hI⟩
            dsimp only at et1 hI
            subst et1
            obtain ⟨g1, g2, g3, g4, g5⟩ := id hI
            have er : σ'.2.1 = σ.2.1 := by rw [g5]
            have k1 : σ'.1 X 1 = nI n := by rw [g4 X 1 (by omega) (by omega), d1, z]
            have k2 : σ'.1 Y i = v i := by rw [g4 Y i (by omega) (by omega)]; exact hvY i (by omega)
            have k3 : σ'.2.1 X 0 = some Y := by rw [er]; exact c2
            have hR' : RF lw σ'.2.1 := by rw [er]; exact hR
            by_cases hf : nl + (rlA v nl i).length < 40
            · refine Or.inl ?_
              by_cases hm : 0 ≤ v i ∧ v i ≤ 9999
              · refine ⟨(sI (sI (sI σ' 5 (nl + (rlA v nl i).length) (v i)) 6 (nl + (rlA v nl i).length) (nI b)) 4 3 (nI (nl + (rlA v nl i).length + 1)), nI (i + 1)), ?_, rfl, ?_⟩
                · simp (disch := omega) only [f_X7_addLines_8, f_X7_addLines_50, f_X7_isFull, f_X7_addLine, f_X11_isMark, k1, nI_leI, show ¬ n ≤ i by omega, g1, nlt_l, hf, k3, rI_nI c3, k2, hm, hR'.r4_1, hR'.r4_2, wI_nI hS.l5, wI_nI hS.l6, nI_1, Option.bind_some, Option.elim_some, Option.elim_none, wi, x12_in, b3_z, ckb, ck0, ck1, putI, putR, putJ, not_true_eq_false, not_false_eq_true, if_true, if_false, and_self, and_true, true_and, one_ne0, zero_eq0, ite_self, sI_eq, sI_ne, sI_nk, sI_21, sI_22, sJ_21, sJ_1]
                · show RLI nl (if nl + (rlA v nl i).length < 40 ∧ (0 ≤ v i ∧ v i ≤ 9999) then rlA v nl i ++ [v i] else rlA v nl i) _ _ _ _ _ _ _
                  rw [if_pos ⟨hf, hm⟩]
                  exact hI.add (by omega) (by omega) (by omega) hf
              · refine ⟨(σ', nI (i + 1)), ?_, rfl, ?_⟩
                · simp (disch := omega) only [f_X7_addLines_8, f_X7_addLines_50, f_X7_isFull, f_X11_isMark, k1, nI_leI, show ¬ n ≤ i by omega, g1, nlt_l, hf, k3, rI_nI c3, k2, hm, nI_1, Option.bind_some, Option.elim_some, Option.elim_none, wi, x12_in, b3_z, ckb, ck0, ck1, putI, putR, putJ, not_true_eq_false, not_false_eq_true, if_true, if_false, and_self, and_true, true_and, one_ne0, zero_eq0, ite_self, sI_eq, sI_ne, sI_nk, sI_21, sI_22, sJ_21, sJ_1]
                · show RLI nl (if nl + (rlA v nl i).length < 40 ∧ (0 ≤ v i ∧ v i ≤ 9999) then rlA v nl i ++ [v i] else rlA v nl i) _ _ _ _ _ _ _
                  rw [if_neg (fun u => hm u.2)]
                  exact hI
            · have ef : rlA v nl n = rlA v nl i := by
                have := rlA_full (v := v) (nl := nl) (i := i) (by omega) (n - i)
                rw [show i + (n - i) = n by omega] at this
                exact this
              refine Or.inr ⟨(nI (rlA v nl n).length, σ'), ?_, rfl, ?_⟩
              · simp (disch := omega) only [f_X7_addLines_8, f_X7_addLines_56, f_X7_isFull, k1, nI_leI, show ¬ n ≤ i by omega, g1, nlt_l, hf, el, pk_sub, ef, Nat.add_sub_cancel_left, Option.bind_some, Option.elim_some, Option.elim_none, wi, x12_in, b3_z, ckb, ck0, ck1, putI, putR, putJ, not_true_eq_false, not_false_eq_true, if_true, if_false, and_self, and_true, true_and, one_ne0, zero_eq0, ite_self, sI_eq, sI_ne, sI_nk, sI_21, sI_22, sJ_21, sJ_1]
              · rw [ef]; exact hI
          · rintro K ⟨σ', t⟩ ⟨et1, hI⟩
            dsimp only at et1 hI
            subst et1
            obtain ⟨g1, g2, g3, g4, g5⟩ := id hI
            have k1 : σ'.1 X 1 = nI n := by rw [g4 X 1 (by omega) (by omega), d1, z]
            refine ⟨(nI (rlA v nl n).length, σ'), ?_, rfl, hI⟩
            simp (disch := omega) only [f_X7_addLines_8, f_X7_addLines_56, k1, nI_leI, Nat.le_refl, g1, el, pk_sub, Nat.add_sub_cancel_left, Option.bind_some, Option.elim_some, Option.elim_none, wi, x12_in, b3_z, ckb, ck0, ck1, putI, putR, putJ, not_true_eq_false, not_false_eq_true, if_true, if_false, and_self, and_true, true_and, one_ne0, zero_eq0, ite_self, sI_eq, sI_ne, sI_nk, sI_21, sI_22, sJ_21, sJ_1]
        obtain ⟨⟨q, σ1⟩, A0, rfl, A1⟩ := A
        dsimp only at A1
        obtain ⟨g1, g2, g3, g4, g5⟩ := id A1
        have er : σ1.2.1 = σ.2.1 := by rw [g5]
        have hag : ∀ a k, a ≠ 4 → a ≠ 5 → a ≠ 6 → σ1.1 a k = σ.1 a k := fun a k a1 a2 a3 => g4 a k (by omega) (by omega)
        have B : OK (f_X12_roll_36 FU L σ1 37 (nI b) (nI s) 0 0) (fun q => q.1 = nI (rlA v nl n).length ∧ RLI nl (rlA v nl n) (nI b) 47 48 37 13 σ1 q.2) := by
          refine loopI (F := fun k q => f_X12_roll_36 k L q.1 37 (nI b) (nI s) q.2.1 q.2.2) (s := (σ1, 0, 0)) (I := fun i q => q.2.2 = nI i ∧ q.2.1 = nI (rlA v nl i).length ∧ RLI nl (rlA v nl i) (nI b) 47 48 37 13 σ1 q.1) _ n ?_ ?_ (FU_lt (by omega)) ⟨nI_0.symm, nI_0.symm, by rw [hag _ _ (by omega) (by omega) (by omega), el']; rfl, by show nl + 0 ≤ 40; omega, fun k hk => absurd hk (by show ¬ k < 0; omega), fun _ _ _ _ => rfl, rfl⟩
          · rintro i K ⟨σ', c, t⟩ hi ⟨et1, ec1, hI⟩
            dsimp only at et1 ec1 hI
            subst et1
            subst ec1
            obtain ⟨f1, f2, f3, f4, f5⟩ := id hI
            have er' : σ'.2.1 = σ.2.1 := by rw [f5, er]
            have hR' : RF lw σ'.2.1 := by rw [er']; exact hR
            have k1 : σ'.1 68 s = nI n := by rw [f4 68 s (by omega) (by omega), hag _ _ (by omega) (by omega) (by omega), z]
            have k2 : σ'.1 69 (40 * s + i) = v i := by rw [f4 69 _ (by omega) (by omega), hag _ _ (by omega) (by omega) (by omega), hv]
            have k3 : σ'.1 37 2 = nI nb := by rw [f4 37 2 (by omega) (by omega), hag _ _ (by omega) (by omega) (by omega), eb']
            by_cases hf : nl + (rlA v nl i).length < 40
            · refine Or.inl ?_
              by_cases hm : 0 ≤ v i ∧ v i ≤ 9999
              · refine ⟨(sI (sI (sI σ' 47 (nl + (rlA v nl i).length) (v i)) 48 (nl + (rlA v nl i).length) (nI b)) 37 13 (nI (nl + (rlA v nl i).length + 1)), nI (rlA v nl (i + 1)).length, nI (i + 1)), ?_, rfl, rfl, ?_⟩
                · rw [show rlA v nl (i + 1) = rlA v nl i ++ [v i] from if_pos ⟨hf, hm⟩, List.length_append, show [v i].length = 1 from rfl]
                  simp (disch := omega) only [f_X12_roll_36, f_X12_roll_102, f_X12_line, k1, nI_leI, show ¬ n ≤ i by omega, f1, nle_r, neq_l, show ¬ 40 ≤ nl + (rlA v nl i).length by omega, show ¬ nl + (rlA v nl i).length = 40 by omega, hR'.r37_41, hR'.r37_42, hR'.r37_14, hR'.r37_15, rI_nI hS.l68, rI_nI hS.l69, mul_lit, nI_add, k2, hm, isBr_in k3 hnb hb, wI_nI hS.l47, wI_nI hS.l48, nI_1, nI_pred, nI_lt0, Option.bind_some, Option.elim_some, Option.elim_none, wi, x12_in, b3_z, ckb, ck0, ck1, putI, putR, putJ, not_true_eq_false, not_false_eq_true, if_true, if_false, and_self, and_true, true_and, one_ne0, zero_eq0, ite_self, sI_eq, sI_ne, sI_nk, sI_21, sI_22, sJ_21, sJ_1]
                · show RLI nl (if nl + (rlA v nl i).length < 40 ∧ (0 ≤ v i ∧ v i ≤ 9999) then rlA v nl i ++ [v i] else rlA v nl i) _ _ _ _ _ _ _
                  rw [if_pos ⟨hf, hm⟩]
                  exact hI.add (by omega) (by omega) (by omega) hf
              · refine ⟨(σ', nI (rlA v nl (i + 1)).length, nI (i + 1)), ?_, rfl, rfl, ?_⟩
                · rw [show rlA v nl (i + 1) = rlA v nl i from if_neg (fun u => hm u.2)]
                  simp (disch := omega) only [f_X12_roll_36, f_X12_roll_102, k1, nI_leI, show ¬ n ≤ i by omega, f1, nle_r, show ¬ 40 ≤ nl + (rlA v nl i).length by omega, hR'.r37_41, hR'.r37_42, rI_nI hS.l68, rI_nI hS.l69, mul_lit, nI_add, k2, hm, nI_1, Int32.add_zero, Option.bind_some, Option.elim_some, Option.elim_none, wi, x12_in, b3_z, ckb, ck0, ck1, putI, putR, putJ, not_true_eq_false, not_false_eq_true, if_true, if_false, and_self, and_true, true_and, one_ne0, zero_eq0, ite_self, sI_eq, sI_ne, sI_nk, sI_21, sI_22, sJ_21, sJ_1]
                · show RLI nl (if nl + (rlA v nl i).length < 40 ∧ (0 ≤ v i ∧ v i ≤ 9999) then rlA v nl i ++ [v i] else rlA v nl i) _ _ _ _ _ _ _
                  rw [if_neg (fun u => hm u.2)]
                  exact hI
            · have ef : rlA v nl n = rlA v nl i := by
                have := rlA_full (v := v) (nl := nl) (i := i) (by omega) (n - i)
                rw [show i + (n - i) = n by omega] at this
                exact this
              refine Or.inr ⟨(nI (rlA v nl n).length, σ'), ?_, rfl, ?_⟩
              · simp (disch := omega) only [f_X12_roll_36, k1, nI_leI, show ¬ n ≤ i by omega, f1, nle_r, show 40 ≤ nl + (rlA v nl i).length by omega, hR'.r37_41, rI_nI hS.l68, ef, Option.bind_some, Option.elim_some, Option.elim_none, wi, x12_in, b3_z, ckb, ck0, ck1, putI, putR, putJ, not_true_eq_false, not_false_eq_true, if_true, if_false, and_self, and_true, true_and, one_ne0, zero_eq0, ite_self, sI_eq, sI_ne, sI_nk, sI_21, sI_22, sJ_21, sJ_1]
              · rw [ef]; exact hI
          · rintro K ⟨σ', c, t⟩ ⟨et1, ec1, hI⟩
            dsimp only at et1 ec1 hI
            subst et1
            subst ec1
            obtain ⟨f1, f2, f3, f4, f5⟩ := id hI
            have hR' : RF lw σ'.2.1 := by rw [f5, er]; exact hR
            have k1 : σ'.1 68 s = nI n := by rw [f4 68 s (by omega) (by omega), hag _ _ (by omega) (by omega) (by omega), z]
            refine ⟨(nI (rlA v nl n).length, σ'), ?_, rfl, hI⟩
            simp (disch := omega) only [f_X12_roll_36, k1, nI_leI, Nat.le_refl, hR'.r37_41, rI_nI hS.l68, Option.bind_some, Option.elim_some, Option.elim_none, wi, x12_in, b3_z, ckb, ck0, ck1, putI, putR, putJ, not_true_eq_false, not_false_eq_true, if_true, if_false, and_self, and_true, true_and, one_ne0, zero_eq0, ite_self, sI_eq, sI_ne, sI_nk, sI_21, sI_22, sJ_21, sJ_1]
        obtain ⟨⟨q, σ2⟩, B0, rfl, f1, f2, f3, f4, f5⟩ := B
        dsimp only at f1 f2 f3 f4 f5
        have er2 : σ2.2.1 = σ.2.1 := by rw [f5, er]
        refine ops_of (v := nI (rlA v nl n).length) (σ1 := σ1) (σ2 := σ2) ?_ ?_ ?_
        · simp (disch := omega) only [f_X11_roll, f_X8_isMissing, c1, hR.r0_0, hR.r0_1, hB_in eb hnb hb, d1, z, nIm1, A0, Option.bind_some, Option.elim_some, Option.elim_none, wi, x12_in, b3_z, ckb, ck0, ck1, putI, putR, putJ, not_true_eq_false, not_false_eq_true, if_true, if_false, and_self, and_true, true_and, one_ne0, zero_eq0, ite_self, sI_eq, sI_ne, sI_nk, sI_21, sI_22, sJ_21, sJ_1]
        · have hR' : RF lw σ1.2.1 := by rw [er]; exact hR
          have k1 : σ1.1 68 s = nI n := by rw [hag _ _ (by omega) (by omega) (by omega), z]
          have k3 : σ1.1 37 2 = nI nb := by rw [hag _ _ (by omega) (by omega) (by omega), eb']
          simp (disch := omega) only [f_X12_roll, isBr_in k3 hnb hb, isS_in _ hy, hR'.r37_41, rI_nI hS.l68, k1, nIm1, B0, Option.bind_some, Option.elim_some, Option.elim_none, wi, x12_in, b3_z, ckb, ck0, ck1, putI, putR, putJ, not_true_eq_false, not_false_eq_true, if_true, if_false, and_self, and_true, true_and, one_ne0, zero_eq0, ite_self, sI_eq, sI_ne, sI_nk, sI_21, sI_22, sJ_21, sJ_1]
        · have g : ∀ a k, a ≠ 4 → a ≠ 5 → a ≠ 6 → a ≠ 47 → a ≠ 48 → ¬ (a = 37 ∧ k = 13) → σ2.1 a k = σ.1 a k := fun a k a1 a2 a3 a4 a5 a6 => (f4 a k a6 (by omega)).trans (hag a k a1 a2 a3)
          have ag : ∀ P : Nat → Nat → Bool, (∀ k, P 4 k = false) → (∀ k, P 5 k = false) → (∀ k, P 6 k = false) → (∀ k, P 47 k = false) → (∀ k, P 48 k = false) → P 37 13 = false → AG P σ σ2 := fun P p1 p2 p3 p4 p5 p6 a k p => g a k (fun e => by subst e; rw [p1] at p; cases p) (fun e => by subst e; rw [p2] at p; cases p) (fun e => by subst e; rw [p3] at p; cases p) (fun e => by subst e; rw [p4] at p; cases p) (fun e => by subst e; rw [p5] at p; cases p) (fun e => by obtain ⟨e1, e2⟩ := e; subst e1; subst e2; rw [p6] at p; cases p)
          refine ⟨nb, nm, nl + (rlA v nl n).length, nB, nN, td, nt, nw, lw, w, hS, by rw [er2]; exact hR, ?_, hBR.fr (ag _ (fun _ => rfl) (fun _ => rfl) (fun _ => rfl) (fun _ => rfl) (fun _ => rfl) rfl), hME.f (by omega) (by omega) (fun i _ => ag _ (fun _ => rfl) (fun _ => rfl) (fun _ => rfl) (fun _ => rfl) (fun _ => rfl) rfl) er2, ?_, hBA.f hnm (by omega) (by omega) (fun i _ => ag _ (fun _ => rfl) (fun _ => rfl) (fun _ => rfl) (fun _ => rfl) (fun _ => rfl) rfl) er2, hTA.fr (ag _ (fun _ => rfl) (fun _ => rfl) (fun _ => rfl) (fun _ => rfl) (fun _ => rfl) rfl), hNO.f (by omega) (by omega) (fun i _ => ag _ (fun _ => rfl) (fun _ => rfl) (fun _ => rfl) (fun _ => rfl) (fun _ => rfl) rfl) er2, hHA.fr (ag _ (fun _ => rfl) (fun _ => rfl) (fun _ => rfl) (fun _ => rfl) (fun _ => rfl) rfl), hRU.fr (ag _ (fun _ => rfl) (fun _ => rfl) (fun _ => rfl) (fun _ => rfl) (fun _ => rfl) rfl), hWA.fr (ag _ (fun _ => rfl) (fun _ => rfl) (fun _ => rfl) (fun _ => rfl) (fun _ => rfl) rfl), hSH.fr (ag _ (fun _ => rfl) (fun _ => rfl) (fun _ => rfl) (fun _ => rfl) (fun _ => rfl) rfl), hLA.fr hR.lw (ag _ (fun _ => rfl) (fun _ => rfl) (fun _ => rfl) (fun _ => rfl) (fun _ => rfl) rfl)⟩
          · have q : ∀ a k, a ≠ 4 → a ≠ 5 → a ≠ 6 → a ≠ 47 → a ≠ 48 → ¬ (a = 37 ∧ k = 13) → σ2.1 a k = σ.1 a k := g
            refine ⟨⟨hnb, hnm, g2, hnB, hnN, htd, hnt, hnw⟩, ⟨?_, ?_⟩, ⟨?_, ?_⟩, ⟨?_, f1⟩, ⟨?_, ?_⟩, ⟨?_, ?_⟩, ⟨?_, ?_⟩, ⟨?_, ?_⟩, ?_, ?_⟩
            · rw [g _ _ (by omega) (by omega) (by omega) (by omega) (by omega) (by omega)]; exact eb
            · rw [g _ _ (by omega) (by omega) (by omega) (by omega) (by omega) (by omega)]; exact eb'
            · rw [g _ _ (by omega) (by omega) (by omega) (by omega) (by omega) (by omega)]; exact em
            · rw [g _ _ (by omega) (by omega) (by omega) (by omega) (by omega) (by omega)]; exact em'
            · rw [f4 _ _ (by omega) (by omega)]; exact g1
            · rw [g _ _ (by omega) (by omega) (by omega) (by omega) (by omega) (by omega)]; exact eB
            · rw [g _ _ (by omega) (by omega) (by omega) (by omega) (by omega) (by omega)]; exact eB'
            · rw [g _ _ (by omega) (by omega) (by omega) (by omega) (by omega) (by omega)]; exact eN
            · rw [g _ _ (by omega) (by omega) (by omega) (by omega) (by omega) (by omega)]; exact eN'
            · rw [g _ _ (by omega) (by omega) (by omega) (by omega) (by omega) (by omega)]; exact et
            · rw [g _ _ (by omega) (by omega) (by omega) (by omega) (by omega) (by omega)]; exact et'
            · rw [g _ _ (by omega) (by omega) (by omega) (by omega) (by omega) (by omega)]; exact ep
            · rw [g _ _ (by omega) (by omega) (by omega) (by omega) (by omega) (by omega)]; exact ep'
            · rw [g _ _ (by omega) (by omega) (by omega) (by omega) (by omega) (by omega)]; exact ew
            · rw [g _ _ (by omega) (by omega) (by omega) (by omega) (by omega) (by omega)]; exact ew'
          · intro k hk
            by_cases q : k < nl
            · rw [f4 5 k (by omega) (by omega), f4 6 k (by omega) (by omega), f4 47 k (by omega) (by omega), f4 48 k (by omega) (by omega), g4 5 k (by omega) (by omega), g4 6 k (by omega) (by omega), g4 47 k (by omega) (by omega), g4 48 k (by omega) (by omega)]
              exact hLI k q
            · obtain ⟨j, rfl⟩ : ∃ j, k = nl + j := ⟨k - nl, by omega⟩
              rw [f4 5 _ (by omega) (by omega), f4 6 _ (by omega) (by omega), (g3 j (by omega)).1, (g3 j (by omega)).2, (f3 j (by omega)).1, (f3 j (by omega)).2]
              exact ⟨rfl, rfl⟩
    · refine ops_of (v := -1000000001) (σ1 := σ) (σ2 := σ) ?_ ?_ h.iv
      · simp only [f_X11_roll, sh_out hy, Option.bind_some, Option.elim_some, Option.elim_none, wi, x12_in, b3_z, ckb, ck0, ck1, putI, putR, putJ, not_true_eq_false, not_false_eq_true, if_true, if_false, and_self, and_true, true_and, one_ne0, zero_eq0, ite_self, sI_eq, sI_ne, sI_nk, sI_21, sI_22, sJ_21, sJ_1]
      · simp only [f_X12_roll, isBr_in eb' hnb hb, isS_out _ hy, Option.bind_some, Option.elim_some, Option.elim_none, wi, x12_in, b3_z, ckb, ck0, ck1, putI, putR, putJ, not_true_eq_false, not_false_eq_true, if_true, if_false, and_self, and_true, true_and, one_ne0, zero_eq0, ite_self, sI_eq, sI_ne, sI_nk, sI_21, sI_22, sJ_21, sJ_1]
end
/-- the shifts of a number's bytes -/
def shf (m : Nat) : Int32 := 24 - 8 * nI m
def byt (x : Int32) (m : Nat) : Int32 := (x.toUInt32 >>> ((shf m).toUInt32 &&& Int32.toUInt32 31)).toInt32 &&& 255
theorem byt_nat {x : Int32} {m : Nat} (hm : m < 4) : byt x m = nI (x.toBitVec.toNat / 2 ^ (24 - 8 * m) % 2 ^ 8) := by
  unfold byt
  rw [pk_and _ 8 (by decide)]
  congr 2
  rcases (show m = 0 ∨ m = 1 ∨ m = 2 ∨ m = 3 by omega) with rfl | rfl | rfl | rfl
  · exact pk_ushr x (shf 0) 24 (by decide)
  · exact pk_ushr x (shf 1) 16 (by decide)
  · exact pk_ushr x (shf 2) 8 (by decide)
  · exact pk_ushr x (shf 3) 0 (by decide)
theorem shr_nat (x s : Int32) (k : Nat) (hs : (s.toBitVec.smod 32).toNat = k) (hk : k = 0 ∨ k = 8 ∨ k = 16 ∨ k = 24) : ((x >>> s) &&& 255) = nI (x.toBitVec.toNat / 2 ^ k % 2 ^ 8) := by
  rw [pk_and _ 8 (by decide)]
  congr 1
  have h1 := pk_shr x s k hs
  have e1 : (x >>> s).toInt = if 2 * (x >>> s).toBitVec.toNat < 4294967296 then ((x >>> s).toBitVec.toNat : Int) else ((x >>> s).toBitVec.toNat : Int) - 4294967296 := by
    show (x >>> s).toBitVec.toInt = _
    rw [BitVec.toInt_eq_toNat_cond]
    rfl
  have e2 : x.toInt = if 2 * x.toBitVec.toNat < 4294967296 then (x.toBitVec.toNat : Int) else (x.toBitVec.toNat : Int) - 4294967296 := by
    show x.toBitVec.toInt = _
    rw [BitVec.toInt_eq_toNat_cond]
    rfl
  have b1 : (x >>> s).toBitVec.toNat < 4294967296 := (x >>> s).toBitVec.isLt
  have b2 : x.toBitVec.toNat < 4294967296 := x.toBitVec.isLt
  rw [Int.shiftRight_eq_div_pow] at h1
  rw [e1, e2] at h1
  generalize (x >>> s).toBitVec.toNat = A at h1 b1 ⊢
  generalize x.toBitVec.toNat = B at h1 b2 ⊢
  rcases hk with rfl | rfl | rfl | rfl
  · simp only [Nat.pow_zero, Int.pow_zero] at h1 ⊢
    split at h1 <;> split at h1 <;> omega
  · rw [show ((2 ^ 8 : Nat) : Int) = 256 from rfl] at h1
    rw [show (2 : Nat) ^ 8 = 256 from rfl]
    split at h1 <;> split at h1 <;> omega
  · rw [show ((2 ^ 16 : Nat) : Int) = 65536 from rfl] at h1
    rw [show (2 : Nat) ^ 16 = 65536 from rfl, show (2 : Nat) ^ 8 = 256 from rfl]
    split at h1 <;> split at h1 <;> omega
  · rw [show ((2 ^ 24 : Nat) : Int) = 16777216 from rfl] at h1
    rw [show (2 : Nat) ^ 24 = 16777216 from rfl, show (2 : Nat) ^ 8 = 256 from rfl]
    split at h1 <;> split at h1 <;> omega
theorem byteOf_byt (L : Lay) (σ : Sto) (x : Int32) {m : Nat} (hm : m < 4) : f_X12_byteOf L σ x (nI m) = some (byt x m) := by
  rw [byt_nat hm]
  unfold f_X12_byteOf
  rcases (show m = 0 ∨ m = 1 ∨ m = 2 ∨ m = 3 by omega) with rfl | rfl | rfl | rfl
  · exact congrArg some (shr_nat x _ 24 (by decide) (by omega))
  · exact congrArg some (shr_nat x _ 16 (by decide) (by omega))
  · exact congrArg some (shr_nat x _ 8 (by decide) (by omega))
  · exact congrArg some (shr_nat x _ 0 (by decide) (by omega))
theorem byt_lt {x : Int32} {m : Nat} (hm : m < 4) : ∃ b, b < 256 ∧ byt x m = nI b := ⟨_, Nat.mod_lt _ (by decide), byt_nat hm⟩
theorem sI_over {σ : Sto} {a k b l : Nat} {u v u' : Int32} (h : a ≠ b) : sI (sI (sI σ a k u) b l v) a k u' = sI (sI σ b l v) a k u' := by
  refine Prod.ext (funext fun a' => funext fun k' => ?_) rfl
  show (if a' = a ∧ k' = k then u' else if a' = b ∧ k' = l then v else if a' = a ∧ k' = k then u else σ.1 a' k') = (if a' = a ∧ k' = k then u' else if a' = b ∧ k' = l then v else σ.1 a' k')
  by_cases e : a' = a ∧ k' = k
  · rw [if_pos e, if_pos e]
  · rw [if_neg e, if_neg e, if_neg e]
theorem shf_lt {m : Nat} (hm : m < 4) : (shf m < 0) = False := by
  rcases (show m = 0 ∨ m = 1 ∨ m = 2 ∨ m = 3 by omega) with rfl | rfl | rfl | rfl <;> exact eq_false (by decide)
theorem shf_s {m : Nat} (hm : m < 4) : shf m + (-8) = shf (m + 1) := by
  rcases (show m = 0 ∨ m = 1 ∨ m = 2 ∨ m = 3 by omega) with rfl | rfl | rfl | rfl <;> decide
section
variable {nb nm nl nB nN td nt nw lw : Nat} {w : Nat → Nat} {L : Lay} {σ : Sto}
theorem x9_addFour (hS : SF L) {σ : Sto} (hR : RF lw σ.2.1) {n : Nat} (e : σ.1 15 1 = nI n) (hn : n + 4 ≤ 108) (x : Int32) : f_X9_addFour L σ 15 x = some (sI (wS σ 16 n 4 (byt x)) 15 1 (nI (n + 4))) := by
  unfold f_X9_addFour
  have e0 : sI (wS σ 16 n 0 (byt x)) 15 1 (nI (n + 0)) = σ := by
    rw [wS_0]
    refine Prod.ext (funext fun a' => funext fun k' => ?_) rfl
    show (sI σ 15 1 (nI n)).1 a' k' = σ.1 a' k'
    rw [sI_at]
    by_cases q : a' = 15 ∧ k' = 1
    · rw [if_pos q, q.1, q.2, e]
    · rw [if_neg q]
  refine loop (F := fun k z => f_X9_addFour_3 k L z.1 15 x z.2) (s := fun m => (sI (wS σ 16 n m (byt x)) 15 1 (nI (n + m)), shf m)) 4 _ ?_ ?_ (FU_lt (by omega)) |> (fun z => by rw [e0] at z; exact z)
  · intro m K hm
    show f_X9_addFour_3 (K + 1) L (sI (wS σ 16 n m (byt x)) 15 1 (nI (n + m))) 15 x (shf m) = f_X9_addFour_3 K L (sI (wS σ 16 n (m + 1) (byt x)) 15 1 (nI (n + (m + 1)))) 15 x (shf (m + 1))
    have e1 := wS_step σ 16 n m (byt x)
    have e2 : ((x.toUInt32 >>> ((shf m).toUInt32 &&& Int32.toUInt32 31)).toInt32 &&& 255) = byt x m := rfl
    simp (disch := omega) only [f_X9_addFour_3, shf_lt hm, sI_eq, nle_r, show ¬ 108 ≤ n + m by omega, sI_21, wS_21, hR.r15_0, wI_nI hS.l16, e2, putI, sI_ne, nI_1, sI_over, e1, shf_s hm, Nat.add_assoc, if_false, Option.bind_some]
  · intro K
    show f_X9_addFour_3 (K + 1) L (sI (wS σ 16 n 4 (byt x)) 15 1 (nI (n + 4))) 15 x (shf 4) = _
    simp only [f_X9_addFour_3, show (shf 4 < 0) = True from eq_true (by decide), if_true]
theorem x12_feed_lp (hS : SF L) {σ : Sto} (hR : RF lw σ.2.1) {n : Nat} (e : σ.1 37 25 = nI n) (hn : n + 12 ≤ 108) (x y z : Int32) : OK (f_X12_feed_18 FU L σ 37 x y z 0) (fun q => q.1 = nI (n + 12) ∧ q.2.1 37 25 = nI (n + 12) ∧ (∀ k, q.2.1 55 k = if n ≤ k ∧ k < n + 4 then byt x (k - n) else if n + 4 ≤ k ∧ k < n + 8 then byt y (k - (n + 4)) else if n + 8 ≤ k ∧ k < n + 12 then byt z (k - (n + 8)) else σ.1 55 k) ∧ (∀ a k, a ≠ 55 → ¬ (a = 37 ∧ k = 25) → q.2.1 a k = σ.1 a k) ∧ q.2.2 = σ.2) := by
  refine loopI (F := fun k q => f_X12_feed_18 k L q.1 37 x y z q.2) (s := (σ, 0)) (I := fun i q => q.2 = nI i ∧ (∀ k, q.1.1 55 k = if n ≤ k ∧ k < n + i then byt x (k - n) else if n + 4 ≤ k ∧ k < n + 4 + i then byt y (k - (n + 4)) else if n + 8 ≤ k ∧ k < n + 8 + i then byt z (k - (n + 8)) else σ.1 55 k) ∧ (∀ a k, a ≠ 55 → q.1.1 a k = σ.1 a k) ∧ q.1.2 = σ.2) _ 4 ?_ ?_ (FU_lt (by omega)) ⟨nI_0.symm, fun k => by rw [if_neg (by omega), if_neg (by omega), if_neg (by omega)], fun _ _ _ => rfl, rfl⟩
  · rintro i K ⟨σ', t⟩ hi ⟨et1, h1, h2, h3⟩
    dsimp only at et1 h1 h2 h3
    subst et1
    have hR' : RF lw σ'.2.1 := by rw [h3]; exact hR
    have k1 : σ'.1 37 25 = nI n := by rw [h2 _ _ (by omega), e]
    refine Or.inl ⟨(sI (sI (sI σ' 55 (n + i) (byt x i)) 55 (n + 4 + i) (byt y i)) 55 (n + 8 + i) (byt z i), nI (i + 1)), ?_, rfl, ?_, ?_, h3⟩
    · have a4 : nI n + 4 = nI (n + 4) := nI_add n 4
      have a8 : nI n + 8 = nI (n + 8) := nI_add n 8
      simp (disch := omega) only [f_X12_feed_18, nle_r, show ¬ 4 ≤ i by omega, byteOf_byt L _ _ hi, hR'.r37_23, k1, a4, a8, nI_add, wI_nI hS.l55, sI_21, sI_ne, nI_1, if_false, Option.bind_some]
    · intro k
      dsimp only
      by_cases q1 : k = n + 8 + i
      · subst q1
        rw [sI_eq, if_neg (by omega), if_neg (by omega), if_pos (by omega), Nat.add_sub_cancel_left]
      · rw [sI_nk q1]
        by_cases q2 : k = n + 4 + i
        · subst q2
          rw [sI_eq, if_neg (by omega), if_pos (by omega), Nat.add_sub_cancel_left]
        · rw [sI_nk q2]
          by_cases q3 : k = n + i
          · subst q3
            rw [sI_eq, if_pos (by omega), Nat.add_sub_cancel_left]
          · rw [sI_nk q3, h1 k]
            by_cases q4 : n ≤ k ∧ k < n + i
            · rw [if_pos q4, if_pos (show n ≤ k ∧ k < n + (i + 1) by omega)]
            · rw [if_neg q4, if_neg (show ¬ (n ≤ k ∧ k < n + (i + 1)) by omega)]
              by_cases q5 : n + 4 ≤ k ∧ k < n + 4 + i
              · rw [if_pos q5, if_pos (show n + 4 ≤ k ∧ k < n + 4 + (i + 1) by omega)]
              · rw [if_neg q5, if_neg (show ¬ (n + 4 ≤ k ∧ k < n + 4 + (i + 1)) by omega)]
                by_cases q6 : n + 8 ≤ k ∧ k < n + 8 + i
                · rw [if_pos q6, if_pos (show n + 8 ≤ k ∧ k < n + 8 + (i + 1) by omega)]
                · rw [if_neg q6, if_neg (show ¬ (n + 8 ≤ k ∧ k < n + 8 + (i + 1)) by omega)]
    · intro a k q
      dsimp only
      rw [sI_ne q, sI_ne q, sI_ne q, h2 a k q]
  · rintro K ⟨σ', t⟩ ⟨et1, h1, h2, h3⟩
    dsimp only at et1 h1 h2 h3
    subst et1
    have k1 : σ'.1 37 25 = nI n := by rw [h2 _ _ (by omega), e]
    have a12 : nI n + 12 = nI (n + 12) := nI_add n 12
    refine ⟨(nI (n + 12), sI σ' 37 25 (nI (n + 12))), ?_, rfl, sI_eq _ _ _ _, fun k => ?_, fun a k q1 q2 => ?_, h3⟩
    · simp (disch := omega) only [f_X12_feed_18, nle_r, Nat.le_refl, k1, a12, putI, sI_eq, if_true, Option.bind_some]
    · dsimp only
      rw [sI_ne (by omega), h1 k]
    · dsimp only
      rw [sI_at, if_neg q2, h2 a k q1]
theorem op_feed (h : INVP nb nm nl nB nN td nt nw lw w L σ) (x y z : Int32) : OPs L (f_X11_feed L σ 0 x y z) (fun σ1 => f_X12_feed L σ1 37 x y z) := by
  have hN := h.hN
  obtain ⟨hS, hR, ⟨⟨hnb, hnm, hnl, hnB, hnN, htd, hnt, hnw⟩, ⟨eb, eb'⟩, ⟨em, em'⟩, ⟨el, el'⟩, ⟨eB, eB'⟩, ⟨eN, eN'⟩, ⟨et, et'⟩, ⟨ep, ep'⟩, ew, ew'⟩, hBR, hME, hLI, hBA, hTA, hNO, hHA, hRU, hWA, hSH, hLA⟩ := id h
  by_cases hf : nt + 12 ≤ 108
  · have a12 : nI nt + 12 = nI (nt + 12) := nI_add nt 12
    obtain ⟨σa, ea⟩ : ∃ s, s = sI (wS σ 16 nt 4 (byt x)) 15 1 (nI (nt + 4)) := ⟨_, rfl⟩
    obtain ⟨σb, eb0⟩ : ∃ s, s = sI (wS σa 16 (nt + 4) 4 (byt y)) 15 1 (nI (nt + 4 + 4)) := ⟨_, rfl⟩
    obtain ⟨σ1, ec⟩ : ∃ s, s = sI (wS σb 16 (nt + 4 + 4) 4 (byt z)) 15 1 (nI (nt + 4 + 4 + 4)) := ⟨_, rfl⟩
    have ra : σa.2 = σ.2 := by rw [ea]; rfl
    have rb : σb.2 = σ.2 := by rw [eb0]; exact ra
    have rc : σ1.2 = σ.2 := by rw [ec]; exact rb
    have hRa : RF lw σa.2.1 := by rw [ra]; exact hR
    have hRb : RF lw σb.2.1 := by rw [rb]; exact hR
    have hRc : RF lw σ1.2.1 := by rw [rc]; exact hR
    have f1 := x9_addFour (lw := lw) hS hR ep (by omega) x
    rw [← ea] at f1
    have f2 := x9_addFour (lw := lw) hS hRa (n := nt + 4) (by rw [ea, sI_eq]) (by omega) y
    rw [← eb0] at f2
    have f3 := x9_addFour (lw := lw) hS hRb (n := nt + 4 + 4) (by rw [eb0, sI_eq]) (by omega) z
    rw [← ec] at f3
    have c25 : σ1.1 15 1 = nI (nt + 12) := by rw [ec, sI_eq]
    have g1 : ∀ a k, a ≠ 16 → ¬ (a = 15 ∧ k = 1) → σ1.1 a k = σ.1 a k := fun a k q1 q2 => by
      rw [ec, sI_at, if_neg q2, wS_ne q1, eb0, sI_at, if_neg q2, wS_ne q1, ea, sI_at, if_neg q2, wS_ne q1]
    have g16 : ∀ k, σ1.1 16 k = if nt ≤ k ∧ k < nt + 4 then byt x (k - nt) else if nt + 4 ≤ k ∧ k < nt + 8 then byt y (k - (nt + 4)) else if nt + 8 ≤ k ∧ k < nt + 12 then byt z (k - (nt + 8)) else σ.1 16 k := fun k => by
      rw [ec, sI_ne (by omega), wS_at, eb0, sI_ne (by omega), wS_at, ea, sI_ne (by omega), wS_at]
      by_cases q1 : nt ≤ k ∧ k < nt + 4
      · rw [if_neg (by omega), if_neg (by omega), if_pos ⟨rfl, q1⟩, if_pos q1]
      · rw [if_neg q1]
        by_cases q2 : nt + 4 ≤ k ∧ k < nt + 8
        · rw [if_neg (by omega), if_pos ⟨rfl, by omega⟩, if_pos q2]
        · rw [if_neg q2]
          by_cases q3 : nt + 8 ≤ k ∧ k < nt + 12
          · rw [if_pos ⟨rfl, by omega⟩, if_pos q3]
          · rw [if_neg (by omega), if_neg (by omega), if_neg (by omega), if_neg q3]
    obtain ⟨⟨v, σ2⟩, B0, rfl, B1, B2, B3, B4⟩ := x12_feed_lp (lw := lw) hS hRc (n := nt) (by rw [g1 _ _ (by omega) (by omega)]; exact ep') hf x y z
    dsimp only at B1 B2 B3 B4
    have er2 : σ2.2.1 = σ.2.1 := by rw [B4, rc]
    refine ops_of (v := nI (nt + 12)) (σ1 := σ1) (σ2 := σ2) ?_ ?_ ?_
    · simp (disch := omega) only [f_X11_feed, hR.r0_5, hRa.r0_5, hRb.r0_5, hRc.r0_5, ep, a12, nle_l, hf, f1, f2, f3, c25, if_true, Option.bind_some]
    · have k1 : σ1.1 37 25 = nI nt := by rw [g1 _ _ (by omega) (by omega)]; exact ep'
      simp (disch := omega) only [f_X12_feed, k1, a12, nle_l, hf, B0, if_true]
    · have g : ∀ a k, a ≠ 16 → a ≠ 55 → ¬ (a = 15 ∧ k = 1) → ¬ (a = 37 ∧ k = 25) → σ2.1 a k = σ.1 a k := fun a k q1 q2 q3 q4 => (B3 a k q2 q4).trans (g1 a k q1 q3)
      have ag : ∀ P : Nat → Nat → Bool, (∀ k, P 16 k = false) → (∀ k, P 55 k = false) → P 15 1 = false → P 37 25 = false → AG P σ σ2 := fun P p1 p2 p3 p4 a k p => g a k (fun e => by subst e; rw [p1] at p; cases p) (fun e => by subst e; rw [p2] at p; cases p) (fun e => by obtain ⟨e1, e2⟩ := e; subst e1; subst e2; rw [p3] at p; cases p) (fun e => by obtain ⟨e1, e2⟩ := e; subst e1; subst e2; rw [p4] at p; cases p)
      refine ⟨nb, nm, nl, nB, nN, td, nt + 12, nw, lw, w, hS, by rw [er2]; exact hR, ?_, hBR.fr (ag _ (fun _ => rfl) (fun _ => rfl) rfl rfl), hME.f (by omega) (by omega) (fun i _ => ag _ (fun _ => rfl) (fun _ => rfl) rfl rfl) er2, hLI.fr (ag _ (fun _ => rfl) (fun _ => rfl) rfl rfl), hBA.f hnm (by omega) (by omega) (fun i _ => ag _ (fun _ => rfl) (fun _ => rfl) rfl rfl) er2, ?_, hNO.f (by omega) (by omega) (fun i _ => ag _ (fun _ => rfl) (fun _ => rfl) rfl rfl) er2, hHA.fr (ag _ (fun _ => rfl) (fun _ => rfl) rfl rfl), hRU.fr (ag _ (fun _ => rfl) (fun _ => rfl) rfl rfl), hWA.fr (ag _ (fun _ => rfl) (fun _ => rfl) rfl rfl), hSH.fr (ag _ (fun _ => rfl) (fun _ => rfl) rfl rfl), hLA.fr hR.lw (ag _ (fun _ => rfl) (fun _ => rfl) rfl rfl)⟩
      · refine ⟨⟨hnb, hnm, hnl, hnB, hnN, htd, by omega, hnw⟩, ⟨?_, ?_⟩, ⟨?_, ?_⟩, ⟨?_, ?_⟩, ⟨?_, ?_⟩, ⟨?_, ?_⟩, ⟨?_, ?_⟩, ⟨?_, B1⟩, ?_, ?_⟩
        · rw [g _ _ (by omega) (by omega) (by omega) (by omega)]; exact eb
        · rw [g _ _ (by omega) (by omega) (by omega) (by omega)]; exact eb'
        · rw [g _ _ (by omega) (by omega) (by omega) (by omega)]; exact em
        · rw [g _ _ (by omega) (by omega) (by omega) (by omega)]; exact em'
        · rw [g _ _ (by omega) (by omega) (by omega) (by omega)]; exact el
        · rw [g _ _ (by omega) (by omega) (by omega) (by omega)]; exact el'
        · rw [g _ _ (by omega) (by omega) (by omega) (by omega)]; exact eB
        · rw [g _ _ (by omega) (by omega) (by omega) (by omega)]; exact eB'
        · rw [g _ _ (by omega) (by omega) (by omega) (by omega)]; exact eN
        · rw [g _ _ (by omega) (by omega) (by omega) (by omega)]; exact eN'
        · rw [g _ _ (by omega) (by omega) (by omega) (by omega)]; exact et
        · rw [g _ _ (by omega) (by omega) (by omega) (by omega)]; exact et'
        · rw [B3 _ _ (by omega) (by omega)]; exact c25
        · rw [g _ _ (by omega) (by omega) (by omega) (by omega)]; exact ew
        · rw [g _ _ (by omega) (by omega) (by omega) (by omega)]; exact ew'
      · intro k hk
        rw [B3 16 k (by omega) (by omega), g16, B2 k]
        by_cases q1 : nt ≤ k ∧ k < nt + 4
        · rw [if_pos q1, if_pos q1]
          obtain ⟨b, b1, b2⟩ := byt_lt (x := x) (m := k - nt) (by omega)
          exact ⟨b, b1, b2, b2⟩
        · rw [if_neg q1, if_neg q1]
          by_cases q2 : nt + 4 ≤ k ∧ k < nt + 8
          · rw [if_pos q2, if_pos q2]
            obtain ⟨b, b1, b2⟩ := byt_lt (x := y) (m := k - (nt + 4)) (by omega)
            exact ⟨b, b1, b2, b2⟩
          · rw [if_neg q2, if_neg q2]
            by_cases q3 : nt + 8 ≤ k ∧ k < nt + 12
            · rw [if_pos q3, if_pos q3]
              obtain ⟨b, b1, b2⟩ := byt_lt (x := z) (m := k - (nt + 8)) (by omega)
              exact ⟨b, b1, b2, b2⟩
            · rw [if_neg q3, if_neg q3, g1 55 k (by omega) (by omega)]
              exact hTA k (by omega)
  · have a12 : nI nt + 12 = nI (nt + 12) := nI_add nt 12
    refine ops_of (v := -1000000003) (σ1 := σ) (σ2 := σ) ?_ ?_ h.iv
    · simp (disch := omega) only [f_X11_feed, hR.r0_5, ep, a12, nle_l, hf, if_false, Option.bind_some]
    · simp (disch := omega) only [f_X12_feed, ep', a12, nle_l, hf, if_false]
end
