/-! rolls -/
section
variable {nb nm nl nB nN td nt nw lw : Nat} {w : Nat → Nat} {L : Lay} {σ : Sto}
theorem x12_rolls_end (el' : σ.1 37 13 = nI nl) (hnl : nl ≤ 40) {x y : Int32} (hy : y = 0 ∨ y = 4) (a : Int32) : f_X12_rolls_89 L σ 37 x y a = some (a, σ) := by
  unfold f_X12_rolls_89
  suffices hK : ∀ K, f_X12_rolls_92 (K + 1) L σ 37 x y a 0 = some (a, σ) from hK 4999
  intro K
  have q : ¬ (1 ≤ y ∧ y ≤ 3) := by rcases hy with rfl | rfl <;> decide
  simp only [f_X12_rolls_92, el', x12_in, wi, b3_f q, if_true, Option.bind_some, ite_self]
theorem x12_rolls_m (h : RD nb nm td lw w L σ) (el' : σ.1 37 13 = nI nl) (hnl : nl ≤ 40) {x y : Int32} (hy : y = 0 ∨ y = 4) : f_X12_rolls_29 FU L σ 37 x y 0 0 = some (cnt (fun i => decide (ofS σ i (nI td) = x ∧ (y = 0 ∨ σ.1 72 i = 0))) nm, σ) := by
  have ea := fun i (hi : i < nm) => x12_ofOn' h hi (nI td)
  obtain ⟨⟨hS, hR⟩, ⟨hnb, hnm, htd⟩, ⟨eb, eb'⟩, ⟨em, em'⟩, ⟨et, et'⟩, hBR, hME⟩ := id h
  refine loop (F := fun k q => f_X12_rolls_29 k L σ 37 x y q.1 q.2) (s := fun m => (cnt (fun i => decide (ofS σ i (nI td) = x ∧ (y = 0 ∨ σ.1 72 i = 0))) m, nI m)) nm _ ?_ ?_ (FU_lt (by omega))
  · intro m K hm
    show f_X12_rolls_29 (K + 1) L σ 37 x y (cnt (fun i => decide (ofS σ i (nI td) = x ∧ (y = 0 ∨ σ.1 72 i = 0))) m) (nI m) = f_X12_rolls_29 K L σ 37 x y (cnt (fun i => decide (ofS σ i (nI td) = x ∧ (y = 0 ∨ σ.1 72 i = 0))) (m + 1)) (nI (m + 1))
    rw [cnt_succ]
    have e47 : (if y = 0 then f_X12_rolls_47 (f_X12_rolls_29 K) L σ 37 x y (cnt (fun i => decide (ofS σ i (nI td) = x ∧ (y = 0 ∨ σ.1 72 i = 0))) m) (nI m) else if y = 4 then f_X12_rolls_47 (f_X12_rolls_29 K) L σ 37 x y (cnt (fun i => decide (ofS σ i (nI td) = x ∧ (y = 0 ∨ σ.1 72 i = 0))) m) (nI m) else f_X12_rolls_89 L σ 37 x y (cnt (fun i => decide (ofS σ i (nI td) = x ∧ (y = 0 ∨ σ.1 72 i = 0))) m)) = f_X12_rolls_47 (f_X12_rolls_29 K) L σ 37 x y (cnt (fun i => decide (ofS σ i (nI td) = x ∧ (y = 0 ∨ σ.1 72 i = 0))) m) (nI m) := by
      rcases hy with rfl | rfl
      · rw [if_pos rfl]
      · rw [if_neg (by decide), if_pos rfl]
    have e0 : f_X12_rolls_29 (K + 1) L σ 37 x y (cnt (fun i => decide (ofS σ i (nI td) = x ∧ (y = 0 ∨ σ.1 72 i = 0))) m) (nI m) = f_X12_rolls_47 (f_X12_rolls_29 K) L σ 37 x y (cnt (fun i => decide (ofS σ i (nI td) = x ∧ (y = 0 ∨ σ.1 72 i = 0))) m) (nI m) := by
      rw [← e47]
      show (if σ.1 37 4 ≤ nI m then _ else _) = _
      rw [em', if_neg (nI_ge hm (by omega))]
    rw [e0]
    generalize cnt (fun i => decide (ofS σ i (nI td) = x ∧ (y = 0 ∨ σ.1 72 i = 0))) m = C
    simp (disch := omega) only [f_X12_rolls_47, f_X12_rolls_76, f_X12_rolls_80, f_X12_rolls_81, et', ea m hm, hR.r37_45, rI_nI hS.l72, nI_1, Option.bind_some]
    by_cases q1 : ofS σ m (nI td) = x
    · rw [if_pos q1]
      by_cases q2 : y = 0
      · rw [if_pos q2, b3_t (p := decide (ofS σ m (nI td) = x ∧ (y = 0 ∨ σ.1 72 m = 0)) = true) (decide_eq_true ⟨q1, Or.inl q2⟩)]
      · rw [if_neg q2]
        by_cases q3 : σ.1 72 m = 0
        · rw [if_pos q3, b3_t (p := decide (ofS σ m (nI td) = x ∧ (y = 0 ∨ σ.1 72 m = 0)) = true) (decide_eq_true ⟨q1, Or.inr q3⟩)]
        · rw [if_neg q3, b3_f (p := decide (ofS σ m (nI td) = x ∧ (y = 0 ∨ σ.1 72 m = 0)) = true) (fun u => (of_decide_eq_true u).2.elim q2 q3)]
    · rw [if_neg q1, b3_f (p := decide (ofS σ m (nI td) = x ∧ (y = 0 ∨ σ.1 72 m = 0)) = true) (fun u => q1 (of_decide_eq_true u).1)]
  · intro K
    show f_X12_rolls_29 (K + 1) L σ 37 x y (cnt (fun i => decide (ofS σ i (nI td) = x ∧ (y = 0 ∨ σ.1 72 i = 0))) nm) (nI nm) = _
    simp (disch := omega) only [f_X12_rolls_29, em', nI_leI, Nat.le_refl, if_true, x12_rolls_end el' hnl hy]
theorem x12_rolls_l (hS : SF L) {σ : Sto} (hR : RF lw σ.2.1) (em' : σ.1 37 4 = nI nm) (hnm : nm ≤ 40) (el' : σ.1 37 13 = nI nl) (hnl : nl ≤ 40) {x y : Int32} (hy : 1 ≤ y ∧ y ≤ 3) : f_X12_rolls_29 FU L σ 37 x y 0 0 = some (cnt (fun i => decide (σ.1 48 i = x ∧ (y = 1 ∨ (¬ σ.1 70 i = -1 ∧ σ.1 71 i = b3 (y = 2))))) nl, σ) := by
  have hy0 : ¬ y = 0 := fun e => by subst e; exact absurd hy.1 (by decide)
  have hy4 : ¬ y = 4 := fun e => by subst e; exact absurd hy.2 (by decide)
  have e0 : f_X12_rolls_29 FU L σ 37 x y 0 0 = f_X12_rolls_89 L σ 37 x y 0 := by
    suffices hK : ∀ K, f_X12_rolls_29 (K + 1) L σ 37 x y 0 0 = f_X12_rolls_89 L σ 37 x y 0 from hK 4999
    intro K
    show (if σ.1 37 4 ≤ 0 then _ else (if y = 0 then _ else (if y = 4 then _ else _))) = _
    rw [if_neg hy0, if_neg hy4, ite_self]
  rw [e0]
  unfold f_X12_rolls_89
  refine loop (F := fun k q => f_X12_rolls_92 k L σ 37 x y q.1 q.2) (s := fun m => (cnt (fun i => decide (σ.1 48 i = x ∧ (y = 1 ∨ (¬ σ.1 70 i = -1 ∧ σ.1 71 i = b3 (y = 2))))) m, nI m)) nl _ ?_ ?_ (FU_lt (by omega))
  · intro m K hm
    show f_X12_rolls_92 (K + 1) L σ 37 x y (cnt (fun i => decide (σ.1 48 i = x ∧ (y = 1 ∨ (¬ σ.1 70 i = -1 ∧ σ.1 71 i = b3 (y = 2))))) m) (nI m) = f_X12_rolls_92 K L σ 37 x y (cnt (fun i => decide (σ.1 48 i = x ∧ (y = 1 ∨ (¬ σ.1 70 i = -1 ∧ σ.1 71 i = b3 (y = 2))))) (m + 1)) (nI (m + 1))
    rw [cnt_succ]
    generalize cnt (fun i => decide (σ.1 48 i = x ∧ (y = 1 ∨ (¬ σ.1 70 i = -1 ∧ σ.1 71 i = b3 (y = 2))))) m = C
    have fin : ∀ s : Int32, f_X12_rolls_151 (f_X12_rolls_92 K) L σ 37 x y C (nI m) s = f_X12_rolls_92 K L σ 37 x y (C + b3 (σ.1 48 m = x ∧ ¬ s = 0)) (nI (m + 1)) := fun s => by
      simp (disch := omega) only [f_X12_rolls_151, f_X12_rolls_174, f_X12_rolls_175, hR.r37_15, rI_nI hS.l48, nI_1, Option.bind_some]
      by_cases q1 : σ.1 48 m = x
      · rw [if_pos q1]
        by_cases q2 : s = 0
        · rw [if_pos q2, b3_f (p := σ.1 48 m = x ∧ ¬ s = 0) (fun u => u.2 q2)]
        · rw [if_neg q2, b3_t (p := σ.1 48 m = x ∧ ¬ s = 0) ⟨q1, q2⟩]
      · rw [if_neg q1, b3_f (p := σ.1 48 m = x ∧ ¬ s = 0) (fun u => q1 u.1)]
    have ne10 : ¬ (1 : Int32) = 0 := by decide
    have fin1 : f_X12_rolls_151 (f_X12_rolls_92 K) L σ 37 x y C (nI m) 1 = f_X12_rolls_92 K L σ 37 x y (C + b3 (σ.1 48 m = x)) (nI (m + 1)) := by
      rw [fin 1, b3_c (q := σ.1 48 m = x) ⟨fun u => u.1, fun u => ⟨u, ne10⟩⟩]
    have fin0 : f_X12_rolls_151 (f_X12_rolls_92 K) L σ 37 x y C (nI m) 0 = f_X12_rolls_92 K L σ 37 x y (C + 0) (nI (m + 1)) := by
      rw [fin 0, b3_f (p := σ.1 48 m = x ∧ ¬ (0 : Int32) = 0) (fun u => u.2 rfl)]
    simp (disch := omega) only [f_X12_rolls_92, f_X12_rolls_146, f_X12_rolls_150, f_X12_rolls_143, el', nI_leI, show ¬ nl ≤ m by omega, x12_in, wi, b3_t hy, one_ne0, hR.r37_43, hR.r37_44, rI_nI hS.l70, rI_nI hS.l71, fin1, fin0, if_false, Option.bind_some]
    by_cases q1 : y = 1
    · rw [if_pos q1, b3_c (p := σ.1 48 m = x) (q := decide (σ.1 48 m = x ∧ (y = 1 ∨ (¬ σ.1 70 m = -1 ∧ σ.1 71 m = b3 (y = 2)))) = true) ⟨fun u => decide_eq_true ⟨u, Or.inl q1⟩, fun u => (of_decide_eq_true u).1⟩]
    · rw [if_neg q1]
      by_cases q2 : σ.1 70 m = -1
      · rw [if_pos q2, b3_f (p := decide (σ.1 48 m = x ∧ (y = 1 ∨ (¬ σ.1 70 m = -1 ∧ σ.1 71 m = b3 (y = 2)))) = true) (fun u => ((of_decide_eq_true u).2.elim q1 (fun v => v.1 q2)).elim)]
      · rw [if_neg q2]
        have key : ∀ s0 : Int32, s0 = b3 (y = 2) → (if σ.1 71 m = s0 then f_X12_rolls_92 K L σ 37 x y (C + b3 (σ.1 48 m = x)) (nI (m + 1)) else f_X12_rolls_92 K L σ 37 x y (C + 0) (nI (m + 1))) = f_X12_rolls_92 K L σ 37 x y (C + b3 (decide (σ.1 48 m = x ∧ (y = 1 ∨ (¬ σ.1 70 m = -1 ∧ σ.1 71 m = b3 (y = 2)))) = true)) (nI (m + 1)) := fun s0 e => by
          subst e
          by_cases q4 : σ.1 71 m = b3 (y = 2)
          · rw [if_pos q4, b3_c (p := σ.1 48 m = x) (q := decide (σ.1 48 m = x ∧ (y = 1 ∨ (¬ σ.1 70 m = -1 ∧ σ.1 71 m = b3 (y = 2)))) = true) ⟨fun u => decide_eq_true ⟨u, Or.inr ⟨q2, q4⟩⟩, fun u => (of_decide_eq_true u).1⟩]
          · rw [if_neg q4, b3_f (p := decide (σ.1 48 m = x ∧ (y = 1 ∨ (¬ σ.1 70 m = -1 ∧ σ.1 71 m = b3 (y = 2)))) = true) (fun u => ((of_decide_eq_true u).2.elim q1 (fun v => q4 v.2)).elim)]
        by_cases q3 : y = 2
        · rw [if_pos q3]
          exact key 1 (b3_t q3).symm
        · rw [if_neg q3]
          exact key 0 (b3_f q3).symm
  · intro K
    show f_X12_rolls_92 (K + 1) L σ 37 x y (cnt (fun i => decide (σ.1 48 i = x ∧ (y = 1 ∨ (¬ σ.1 70 i = -1 ∧ σ.1 71 i = b3 (y = 2))))) nl) (nI nl) = _
    simp (disch := omega) only [f_X12_rolls_92, el', nI_leI, Nat.le_refl, if_true]
theorem op_rolls (h : INVP nb nm nl nB nN td nt nw lw w L σ) (x y : Int32) : OPs L (f_X11_rolls L σ 0 x y) (fun σ1 => f_X12_rolls L σ1 37 x y) := by
  have h0 := h
  obtain ⟨hS, hR, ⟨⟨hnb, hnm, hnl, hnB, hnN, htd, hnt, hnw⟩, ⟨eb, eb'⟩, ⟨em, em'⟩, ⟨el, el'⟩, ⟨eB, eB'⟩, ⟨eN, eN'⟩, ⟨et, et'⟩, ⟨ep, ep'⟩, ew, ew'⟩, hBR, hME, hLI, hBA, hTA, hNO, hHA, hRU, hWA, hSH, hLA⟩ := id h
  rcases ixc x nb (by omega) with hx | ⟨b, hb, rfl⟩
  · refine ops_of (v := -1000000001) (σ1 := σ) (σ2 := σ) ?_ ?_ h.iv
    · simp only [f_X11_rolls, hR.r0_0, hB_out eb hnb hx, Option.bind_some, if_true]
    · simp only [f_X12_rolls, isBr_out eb' hnb hx, Option.bind_some, if_true]
  · obtain ⟨σ1, e1, j1, j2, ⟨T, hT, jt, jb⟩, js⟩ := x7_join h0
    have h1 := h0.sc js
    have hd1 := h1.rd
    have hR1 : RF lw σ1.2.1 := h1.2.1
    have el1 : σ1.1 4 3 = nI nl := (js.at rfl).trans el
    have eb1 : σ1.1 37 2 = nI nb := (js.at rfl).trans eb'
    by_cases hy : 0 ≤ y ∧ y ≤ 4
    · obtain ⟨σ2, e2, k1, k2, k3, ks⟩ := x12_joinsAll h1
      rw [jal_sc js] at k1 k2 k3
      have h2 := h1.sc ks
      have hd2 := h2.rd
      have hR2 : RF lw σ2.2.1 := h2.2.1
      have el2 : σ2.1 37 13 = nI nl := (ks.at rfl).trans ((js.at rfl).trans el')
      have em2 : σ2.1 37 4 = nI nm := (ks.at rfl).trans ((js.at rfl).trans em')
      have B : ∀ v σ3, f_X12_rolls_29 FU L σ2 37 (nI b) y 0 0 = some (v, σ3) → f_X12_rolls L σ1 37 (nI b) y = some (v, σ3) := fun v σ3 e => by
        simp only [f_X12_rolls, isBr_in eb1 hnb hb, x12_in, wi, b3_t hy, one_ne0, e2, e, if_false, Option.bind_some]
      have o2 : ∀ i, ofS σ2 i (nI td) = ofS σ1 i (nI td) := fun i => ofS_sc ks i (nI td)
      obtain ⟨yn, hyn, rfl⟩ := of_le (n := 4) hy (by omega)
      have pcs : ∀ (d : Int32) (hd : d < 0) l, l < 40 → ((pval d ((jal σ nm td nl).1 l) = d) ↔ (jal σ nm td nl).1 l = none) := fun d hd l hl => by
        cases hq : (jal σ nm td nl).1 l with
        | none => exact ⟨fun _ => rfl, fun _ => rfl⟩
        | some q =>
          refine ⟨fun u => ?_, fun u => by cases u⟩
          have := (k2 l q hl hq).2
          exact absurd u (nI_nneg (by omega) hd)
      have jl : ∀ p : Nat, p ≤ 1 → ∀ l, l < nl → decide ((¬ σ1.1 7 l = -1000000005 ∧ σ1.1 8 l = nI p) ∧ σ1.1 6 l = nI b) = decide (σ2.1 48 l = nI b ∧ (nI (p + 2) = 1 ∨ (¬ σ2.1 70 l = -1 ∧ σ2.1 71 l = b3 (nI (p + 2) = 2)))) := fun p hp l hl => by
        have a1 := j1 l (by omega)
        have a2 := k1 l (by omega)
        have a3 : σ1.1 6 l = σ2.1 48 l := by rw [js.at (a := 6) rfl, (hLI l hl).2, ks.at (a := 48) rfl, js.at (a := 48) rfl]
        have a4 : ¬ nI (p + 2) = 1 := fun u => by have := (nI_eq (a := p + 2) (b := 1) (by omega) (by omega)).mp u; omega
        rw [a1, a2, a3]
        refine decide_eq_decide.mpr ⟨fun u => ⟨u.2, Or.inr ⟨?_, ?_⟩⟩, fun u => ?_⟩
        · intro z; exact u.1.1 ((pcs _ (by decide) l (by omega)).mpr ((pcs _ (by decide) l (by omega)).mp z))
        · cases hq : (jal σ nm td nl).1 l with
          | none => exact absurd ((pcs _ (by decide) l (by omega)).mpr hq) u.1.1
          | some q =>
            rw [(k2 l q (by omega) hq).1]
            have z := u.1.2
            rw [(j2 l q (by omega) hq).1] at z
            have z2 := (j2 l q (by omega) hq).2.2
            have z3 := (nI_eq (by omega) (by omega)).mp z
            rw [z3]
            rcases (show p = 0 ∨ p = 1 by omega) with rfl | rfl <;> decide
        · have u2 := u.2.resolve_left a4
          refine ⟨⟨fun z => u2.1 ((pcs _ (by decide) l (by omega)).mpr ((pcs _ (by decide) l (by omega)).mp z)), ?_⟩, u.1⟩
          cases hq : (jal σ nm td nl).1 l with
          | none => exact absurd ((pcs _ (by decide) l (by omega)).mpr hq) u2.1
          | some q =>
            rw [(j2 l q (by omega) hq).1]
            have z := u2.2
            rw [(k2 l q (by omega) hq).1] at z
            have z2 := (j2 l q (by omega) hq).2.2
            rcases (show p = 0 ∨ p = 1 by omega) with rfl | rfl
            · rcases (show q.2 = 0 ∨ q.2 = 1 by omega) with e | e
              · rw [e]
              · rw [e] at z; exact absurd z (by decide)
            · rcases (show q.2 = 0 ∨ q.2 = 1 by omega) with e | e
              · rw [e] at z; exact absurd z (by decide)
              · rw [e]
      rcases (show yn = 0 ∨ yn = 1 ∨ yn = 2 ∨ yn = 3 ∨ yn = 4 by omega) with rfl | rfl | rfl | rfl | rfl
      · have C := x12_rolls_m hd2 el2 hnl (x := nI b) (y := nI 0) (Or.inl rfl)
        have A : f_X11_rolls L σ 0 (nI b) (nI 0) = some (cnt (fun i => decide (ofS σ1 i (nI td) = nI b)) nm, σ1) := by
          simp only [f_X11_rolls, hR.r0_0, hR.r0_1, hB_in eb hnb hb, one_ne0, e1, hR1.r0_0, x10_sizeOf hd1, nI_0, if_false, if_true, Option.bind_some]
        refine ops_of A (B _ _ (C.trans ?_)) h2.iv
        congr 2
        exact cnt_congr nm (fun i hi => decide_eq_decide.mpr ⟨fun u => by rw [← o2]; exact u.1, fun u => ⟨by rw [o2]; exact u, Or.inl rfl⟩⟩)
      · have C := x12_rolls_l hS hR2 em2 hnm el2 hnl (x := nI b) (y := nI 1) (by decide)
        have A : f_X11_rolls L σ 0 (nI b) (nI 1) = some (cnt (fun i => decide (σ1.1 6 i = nI b)) nl, σ1) := by
          simp only [f_X11_rolls, hR.r0_0, hR.r0_1, hB_in eb hnb hb, one_ne0, e1, hR1.r0_1, x7_linesOf hS hR1 el1 hnl, show (nI 1 = 0) = False from eq_false (by decide), show (nI 1 = 1) = True from eq_true rfl, if_false, if_true, Option.bind_some]
        refine ops_of A (B _ _ (C.trans ?_)) h2.iv
        congr 2
        refine cnt_congr nl (fun i hi => ?_)
        have a3 : σ1.1 6 i = σ2.1 48 i := by rw [js.at (a := 6) rfl, (hLI i hi).2, ks.at (a := 48) rfl, js.at (a := 48) rfl]
        rw [a3]
        exact decide_eq_decide.mpr ⟨fun u => u.1, fun u => ⟨u, Or.inl rfl⟩⟩
      · have C := x12_rolls_l hS hR2 em2 hnm el2 hnl (x := nI b) (y := nI 2) (by decide)
        have A : f_X11_rolls L σ 0 (nI b) (nI 2) = some (cnt (fun i => decide ((¬ σ1.1 7 i = -1000000005 ∧ σ1.1 8 i = nI 0) ∧ σ1.1 6 i = nI b)) nl, σ1) := by
          simp only [f_X11_rolls, hR.r0_0, hR.r0_1, hB_in eb hnb hb, one_ne0, e1, hR1.r0_1, x7_joinedLinesOf hS hR1 el1 hnl, show (nI 2 = 0) = False from eq_false (by decide), show (nI 2 = 1) = False from eq_false (by decide), show (nI 2 = 2) = True from eq_true rfl, nI_0, if_false, if_true, Option.bind_some]
        refine ops_of A (B _ _ (C.trans ?_)) h2.iv
        congr 2
        exact cnt_congr nl (fun i hi => (jl 0 (by omega) i hi).symm)
      · have C := x12_rolls_l hS hR2 em2 hnm el2 hnl (x := nI b) (y := nI 3) (by decide)
        have A : f_X11_rolls L σ 0 (nI b) (nI 3) = some (cnt (fun i => decide ((¬ σ1.1 7 i = -1000000005 ∧ σ1.1 8 i = nI 1) ∧ σ1.1 6 i = nI b)) nl, σ1) := by
          have e3 := x7_joinedLinesOf hS hR1 el1 hnl (nI b) (nI 1)
          have e3 : f_X7_joinedLinesOf L σ1 4 (nI b) 1 = _ := e3
          simp only [f_X11_rolls, hR.r0_0, hR.r0_1, hB_in eb hnb hb, one_ne0, e1, hR1.r0_1, e3, show (nI 3 = 0) = False from eq_false (by decide), show (nI 3 = 1) = False from eq_false (by decide), show (nI 3 = 2) = False from eq_false (by decide), show (nI 3 = 3) = True from eq_true rfl, if_false, if_true, Option.bind_some]
        refine ops_of A (B _ _ (C.trans ?_)) h2.iv
        congr 2
        exact cnt_congr nl (fun i hi => (jl 1 (by omega) i hi).symm)
      · have C := x12_rolls_m hd2 el2 hnl (x := nI b) (y := nI 4) (Or.inr rfl)
        have A : f_X11_rolls L σ 0 (nI b) (nI 4) = some (cnt (fun i => decide (¬ T / 2 ^ i % 2 = 1 ∧ ofS σ1 i (nI td) = nI b)) nm, σ1) := by
          simp only [f_X11_rolls, hR.r0_0, hR.r0_1, hB_in eb hnb hb, one_ne0, e1, hR1.r0_1, x7_membersWithout hd1 hT jt, show (nI 4 = 0) = False from eq_false (by decide), show (nI 4 = 1) = False from eq_false (by decide), show (nI 4 = 2) = False from eq_false (by decide), show (nI 4 = 3) = False from eq_false (by decide), show (nI 4 = 4) = True from eq_true rfl, if_false, if_true, Option.bind_some]
        refine ops_of A (B _ _ (C.trans ?_)) h2.iv
        congr 2
        refine cnt_congr nm (fun i hi => ?_)
        have a1 := k3 i (by omega)
        have a2 := jb i (by omega)
        rw [o2, a1]
        refine decide_eq_decide.mpr ⟨fun u => ⟨fun z => ?_, u.1⟩, fun u => ⟨u.2, Or.inr (b3_f (fun z => u.1 (a2.mpr z)))⟩⟩
        rcases u.2 with v | v
        · exact absurd v (by decide)
        · rw [b3_t (a2.mp z)] at v; exact absurd v (by decide)
    · have ny : ∀ k : Nat, k ≤ 4 → ¬ y = nI k := fun k hk e => hy (by subst e; exact ⟨nI_pos' (by omega), nI_le (b := 4) hk (by omega)⟩)
      have n0 : ¬ y = 0 := ny 0 (by omega)
      have n1 : ¬ y = 1 := ny 1 (by omega)
      have n2 : ¬ y = 2 := ny 2 (by omega)
      have n3 : ¬ y = 3 := ny 3 (by omega)
      have n4 : ¬ y = 4 := ny 4 (by omega)
      refine ops_of (v := -1000000001) (σ1 := σ1) (σ2 := σ1) ?_ ?_ h1.iv
      · simp only [f_X11_rolls, hR.r0_0, hR.r0_1, hB_in eb hnb hb, one_ne0, e1, n0, n1, n2, n3, n4, if_false, Option.bind_some]
      · simp only [f_X12_rolls, isBr_in eb1 hnb hb, x12_in, wi, b3_f hy, one_ne0, if_false, if_true, Option.bind_some]
end
