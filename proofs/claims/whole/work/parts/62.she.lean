/-! Rows written in one go; sheets -/
def wS (σ : Sto) (a off n : Nat) (f : Nat → Int32) : Sto := (fun a' k' => if a' = a ∧ off ≤ k' ∧ k' < off + n then f (k' - off) else σ.1 a' k', σ.2)
theorem wS_at (σ : Sto) (a off n : Nat) (f : Nat → Int32) (a' k' : Nat) : (wS σ a off n f).1 a' k' = if a' = a ∧ off ≤ k' ∧ k' < off + n then f (k' - off) else σ.1 a' k' := rfl
theorem wS_ne {σ : Sto} {a off n : Nat} {f : Nat → Int32} {a' k' : Nat} (h : a' ≠ a) : (wS σ a off n f).1 a' k' = σ.1 a' k' := if_neg (fun e => h e.1)
theorem wS_out {σ : Sto} {a off n : Nat} {f : Nat → Int32} {a' k' : Nat} (h : k' < off ∨ off + n ≤ k') : (wS σ a off n f).1 a' k' = σ.1 a' k' := if_neg (fun e => by omega)
theorem wS_in {σ : Sto} {a off n : Nat} {f : Nat → Int32} {k : Nat} (h : k < n) : (wS σ a off n f).1 a (off + k) = f k := by
  rw [wS_at, if_pos ⟨rfl, by omega, by omega⟩, Nat.add_sub_cancel_left]
theorem wS_21 (σ : Sto) (a off n : Nat) (f : Nat → Int32) : (wS σ a off n f).2.1 = σ.2.1 := rfl
theorem wS_0 (σ : Sto) (a off : Nat) (f : Nat → Int32) : wS σ a off 0 f = σ := by
  unfold wS
  refine Prod.ext (funext fun a' => funext fun k' => ?_) rfl
  exact if_neg (fun e => by omega)
theorem wS_step (σ : Sto) (a off m : Nat) (f : Nat → Int32) : sI (wS σ a off m f) a (off + m) (f m) = wS σ a off (m + 1) f := by
  refine Prod.ext (funext fun a' => funext fun k' => ?_) rfl
  show (sI (wS σ a off m f) a (off + m) (f m)).1 a' k' = (wS σ a off (m + 1) f).1 a' k'
  rw [sI_at, wS_at, wS_at]
  by_cases e : a' = a ∧ k' = off + m
  · obtain ⟨rfl, rfl⟩ := e
    rw [if_pos ⟨rfl, rfl⟩, if_pos ⟨rfl, by omega, by omega⟩, Nat.add_sub_cancel_left]
  · rw [if_neg e]
    by_cases q : a' = a ∧ off ≤ k' ∧ k' < off + m
    · rw [if_pos q, if_pos ⟨q.1, by omega, by omega⟩]
    · rw [if_neg q, if_neg (fun z => q ⟨z.1, z.2.1, by
        have : k' ≠ off + m := fun y => e ⟨z.1, y⟩
        omega⟩)]
theorem AG.ws {P : Nat → Nat → Bool} {σ σ' : Sto} {a off n : Nat} {f : Nat → Int32} (h : AG P σ σ') (hp : ∀ k, P a k = false) : AG P σ (wS σ' a off n f) := fun a' k' p => by
  rw [wS_ne (fun e => by subst e; rw [hp] at p; cases p)]
  exact h a' k' p
theorem SC.ws {σ σ' : Sto} {a off n : Nat} {f : Nat → Int32} (h : SC σ σ') (hp : ∀ k, scr a k = true) : SC σ (wS σ' a off n f) := ⟨h.1.ws (fun k => by unfold psv; rw [hp]; rfl), h.2⟩
theorem fill_i {L : Lay} {σ : Sto} {a n : Nat} (hl : L.2.1 a = n) (hn : n < 4000) (v : Int32) : f_J7_fill_53178 L σ (some a) v = some (wS σ a 0 n (fun _ => v)) := by
  unfold f_J7_fill_53178
  rw [Option.bind_some, hl]
  refine loop (F := fun k q => f_J7_fill_53178_5 k L q.1 (some a) v q.2 (nI n)) (s := fun m => (wS σ a 0 m (fun _ => v), nI m)) n _ ?_ ?_ (FU_lt (by omega)) |> (fun z => by rw [wS_0] at z; exact z)
  · intro m K hm
    show f_J7_fill_53178_5 (K + 1) L (wS σ a 0 m (fun _ => v)) (some a) v (nI m) (nI n) = f_J7_fill_53178_5 K L (wS σ a 0 (m + 1) (fun _ => v)) (some a) v (nI (m + 1)) (nI n)
    have e := wS_step σ a 0 m (fun _ => v)
    rw [Nat.zero_add] at e
    simp (disch := omega) only [f_J7_fill_53178_5, nI_leI, show ¬ n ≤ m by omega, wI_nI hl, e, nI_1, if_false, Option.bind_some]
  · intro K
    show f_J7_fill_53178_5 (K + 1) L (wS σ a 0 n (fun _ => v)) (some a) v (nI n) (nI n) = _
    simp (disch := omega) only [f_J7_fill_53178_5, nI_leI, Nat.le_refl, if_true]
theorem fill_s {L : Lay} {σ : Sto} {a n : Nat} (hl : L.2.1 a = n) (hn : n < 4000) (v : Int32) : f_J7_fill_fb410 L σ (some a) v = some (wS σ a 0 n (fun _ => nSh v)) := by
  unfold f_J7_fill_fb410
  rw [Option.bind_some, hl]
  refine loop (F := fun k q => f_J7_fill_fb410_5 k L q.1 (some a) v q.2 (nI n)) (s := fun m => (wS σ a 0 m (fun _ => nSh v), nI m)) n _ ?_ ?_ (FU_lt (by omega)) |> (fun z => by rw [wS_0] at z; exact z)
  · intro m K hm
    show f_J7_fill_fb410_5 (K + 1) L (wS σ a 0 m (fun _ => nSh v)) (some a) v (nI m) (nI n) = f_J7_fill_fb410_5 K L (wS σ a 0 (m + 1) (fun _ => nSh v)) (some a) v (nI (m + 1)) (nI n)
    have e := wS_step σ a 0 m (fun _ => nSh v)
    rw [Nat.zero_add] at e
    simp (disch := omega) only [f_J7_fill_fb410_5, nI_leI, show ¬ n ≤ m by omega, wI_nI hl, e, nI_1, if_false, Option.bind_some]
  · intro K
    show f_J7_fill_fb410_5 (K + 1) L (wS σ a 0 n (fun _ => nSh v)) (some a) v (nI n) (nI n) = _
    simp (disch := omega) only [f_J7_fill_fb410_5, nI_leI, Nat.le_refl, if_true]
theorem SHE.get {σ : Sto} (h : SHE σ) {s : Nat} (hs : s < 2) : SHE1 σ (33 + 2 * s) (34 + 2 * s) s := by
  rcases (show s = 0 ∨ s = 1 by omega) with rfl | rfl
  · exact h.1
  · exact h.2
theorem SHE.of {σ : Sto} (h : ∀ s, s < 2 → SHE1 σ (33 + 2 * s) (34 + 2 * s) s) : SHE σ := ⟨h 0 (by omega), h 1 (by omega)⟩
theorem SHE1.fr {σ σ' : Sto} {x y s : Nat} (h : SHE1 σ x y s) (a1 : σ'.1 x 1 = σ.1 x 1) (a2 : σ'.1 68 s = σ.1 68 s) (a3 : ∀ i, i < 40 → σ'.1 y i = σ.1 y i ∧ σ'.1 69 (40 * s + i) = σ.1 69 (40 * s + i)) : SHE1 σ' x y s := by
  unfold SHE1
  rw [a1, a2]
  exact ⟨h.1, fun i hi => by rw [(a3 i hi).1, (a3 i hi).2]; exact h.2 i hi⟩
theorem sh_no {x : Int32} (h : ¬ (0 ≤ x ∧ x ≤ 1)) : ¬ x = 0 ∧ ¬ x = 1 := ⟨fun e => h (by subst e; decide), fun e => h (by subst e; decide)⟩
theorem md_N {a k : Nat} (h1 : 33 ≤ a) (h2 : a ≤ 36) : pNUM a k = false := pf_of (fun z => by simp [pNUM] at z; omega)
theorem md_BR {a k : Nat} (h1 : 33 ≤ a) (h2 : a ≤ 36) : pBRA a k = false := pf_of (fun z => by simp [pBRA] at z; omega)
theorem md_ME {w : Nat → Nat} {N i a k : Nat} (h1 : 33 ≤ a) (h2 : a ≤ 36) : pMEM1 w N i a k = false := pf_of (fun z => by simp [pMEM1] at z; omega)
theorem md_LI {a k : Nat} (h1 : 33 ≤ a) (h2 : a ≤ 36) : pLIN a k = false := pf_of (fun z => by simp [pLIN] at z; omega)
theorem md_BA {w : Nat → Nat} {N i a k : Nat} (h1 : 33 ≤ a) (h2 : a ≤ 36) : pBAL1 w N i a k = false := pf_of (fun z => by simp [pBAL1] at z; omega)
theorem md_TA {a k : Nat} (h1 : 33 ≤ a) (h2 : a ≤ 36) : pTAP a k = false := pf_of (fun z => by simp [pTAP] at z; omega)
theorem md_NO {w : Nat → Nat} {N i a k : Nat} (h1 : 33 ≤ a) (h2 : a ≤ 36) : pNOT1 w N i a k = false := pf_of (fun z => by simp [pNOT1] at z; omega)
theorem md_HA {a k : Nat} (h1 : 33 ≤ a) (h2 : a ≤ 36) : pHAR a k = false := pf_of (fun z => by simp [pHAR] at z; omega)
theorem md_RU {a k : Nat} (h1 : 33 ≤ a) (h2 : a ≤ 36) : pRUL a k = false := pf_of (fun z => by simp [pRUL] at z; omega)
theorem md_WA {a k : Nat} (h1 : 33 ≤ a) (h2 : a ≤ 36) : pWAI a k = false := pf_of (fun z => by simp [pWAI] at z; omega)
theorem md_LA {a k : Nat} (h1 : 33 ≤ a) (h2 : a ≤ 36) : pLAW a k = false := pf_of (fun z => by simp [pLAW] at z; omega)
theorem nSh0 : nSh 0 = 0 := by decide
theorem fits0 : fits .short (.int 0) = true := by decide
section
variable {nb nm nl nB nN td nt nw lw : Nat} {w : Nat → Nat} {L : Lay} {σ : Sto}
/-- sheets alone have changed -/
theorem INVP.she (h : INVP nb nm nl nB nN td nt nw lw w L σ) {σ' : Sto} (g : ∀ a k, ¬ (33 ≤ a ∧ a ≤ 36) → a ≠ 68 → a ≠ 69 → a ≠ 79 → σ'.1 a k = σ.1 a k) (er : σ'.2.1 = σ.2.1) (hs : SHE σ') : IV L σ' := by
  have hN := h.hN
  obtain ⟨hS, hR, ⟨⟨hnb, hnm, hnl, hnB, hnN, htd, hnt, hnw⟩, ⟨eb, eb'⟩, ⟨em, em'⟩, ⟨el, el'⟩, ⟨eB, eB'⟩, ⟨eN, eN'⟩, ⟨et, et'⟩, ⟨ep, ep'⟩, ew, ew'⟩, hBR, hME, hLI, hBA, hTA, hNO, hHA, hRU, hWA, hSH, hLA⟩ := id h
  have ag : ∀ P : Nat → Nat → Bool, (∀ a k, 33 ≤ a → a ≤ 36 → P a k = false) → (∀ k, P 68 k = false) → (∀ k, P 69 k = false) → (∀ k, P 79 k = false) → AG P σ σ' := fun P p1 p2 p3 p4 a k p => g a k (fun e => by rw [p1 a k e.1 e.2] at p; cases p) (fun e => by subst e; rw [p2] at p; cases p) (fun e => by subst e; rw [p3] at p; cases p) (fun e => by subst e; rw [p4] at p; cases p)
  exact ⟨nb, nm, nl, nB, nN, td, nt, nw, lw, w, hS, by rw [er]; exact hR, hN.fr (ag _ (fun _ _ => md_N) (fun _ => rfl) (fun _ => rfl) (fun _ => rfl)), hBR.fr (ag _ (fun _ _ => md_BR) (fun _ => rfl) (fun _ => rfl) (fun _ => rfl)), hME.f (by omega) (by omega) (fun i _ => ag _ (fun _ _ => md_ME) (fun _ => rfl) (fun _ => rfl) (fun _ => rfl)) er, hLI.fr (ag _ (fun _ _ => md_LI) (fun _ => rfl) (fun _ => rfl) (fun _ => rfl)), hBA.f hnm (by omega) (by omega) (fun i _ => ag _ (fun _ _ => md_BA) (fun _ => rfl) (fun _ => rfl) (fun _ => rfl)) er, hTA.fr (ag _ (fun _ _ => md_TA) (fun _ => rfl) (fun _ => rfl) (fun _ => rfl)), hNO.f (by omega) (by omega) (fun i _ => ag _ (fun _ _ => md_NO) (fun _ => rfl) (fun _ => rfl) (fun _ => rfl)) er, hHA.fr (ag _ (fun _ _ => md_HA) (fun _ => rfl) (fun _ => rfl) (fun _ => rfl)), hRU.fr (ag _ (fun _ _ => md_RU) (fun _ => rfl) (fun _ => rfl) (fun _ => rfl)), hWA.fr (ag _ (fun _ _ => md_WA) (fun _ => rfl) (fun _ => rfl) (fun _ => rfl)), hs, hLA.fr hR.lw (ag _ (fun _ _ => md_LA) (fun _ => rfl) (fun _ => rfl) (fun _ => rfl))⟩
theorem sh_out {x : Int32} (h : ¬ (0 ≤ x ∧ x ≤ 1)) : f_X11_sheetAt L σ 0 x = some none := by
  unfold f_X11_sheetAt
  rw [if_neg (sh_no h).1, if_neg (sh_no h).2]
theorem sh_in (hS : SF L) (hR : RF lw σ.2.1) {x : Int32} (h : 0 ≤ x ∧ x ≤ 1) : ∃ s X Y, s < 2 ∧ X = 33 + 2 * s ∧ Y = 34 + 2 * s ∧ x = nI s ∧ f_X11_sheetAt L σ 0 x = some (some X) ∧ σ.2.1 X 0 = some Y ∧ L.2.1 Y = 40 := by
  obtain ⟨s, hs, rfl⟩ := of_le (n := 1) h (by omega)
  rcases (show s = 0 ∨ s = 1 by omega) with rfl | rfl
  · exact ⟨0, 33, 34, by omega, rfl, rfl, rfl, by rw [← hR.r0_13]; rfl, hR.r33_0, hS.l34⟩
  · exact ⟨1, 35, 36, by omega, rfl, rfl, rfl, by rw [← hR.r0_14]; rfl, hR.r35_0, hS.l36⟩
theorem isS_in (σ : Sto) {x : Int32} (h : 0 ≤ x ∧ x ≤ 1) : f_X12_isSheet L σ x = some 1 := by
  simp only [f_X12_isSheet, x12_in, wi, b3_t h, ck1, Option.bind_some]
theorem isS_out (σ : Sto) {x : Int32} (h : ¬ (0 ≤ x ∧ x ≤ 1)) : f_X12_isSheet L σ x = some 0 := by
  simp only [f_X12_isSheet, x12_in, wi, b3_f h, ck0, Option.bind_some]
theorem x12_sheet_lp (hS : SF L) {σ : Sto} (hR : RF lw σ.2.1) {s : Nat} (hs : s < 2) (v : Int32) : f_X12_sheet_33 FU L σ 37 (nI s) v 0 = some (v, wS σ 69 (40 * s) 40 (fun _ => 0)) := by
  refine loop (F := fun k q => f_X12_sheet_33 k L q.1 37 (nI s) v q.2) (s := fun m => (wS σ 69 (40 * s) m (fun _ => 0), nI m)) 40 _ ?_ ?_ (FU_lt (by omega)) |> (fun z => by rw [wS_0] at z; exact z)
  · intro m K hm
    show f_X12_sheet_33 (K + 1) L (wS σ 69 (40 * s) m (fun _ => 0)) 37 (nI s) v (nI m) = f_X12_sheet_33 K L (wS σ 69 (40 * s) (m + 1) (fun _ => 0)) 37 (nI s) v (nI (m + 1))
    have e := wS_step σ 69 (40 * s) m (fun _ => 0)
    simp (disch := omega) only [f_X12_sheet_33, nle_r, show ¬ 40 ≤ m by omega, wS_21, hR.r37_42, mul_lit, nI_add, wI_nI hS.l69, nSh0, e, nI_1, if_false, Option.bind_some]
  · intro K
    show f_X12_sheet_33 (K + 1) L (wS σ 69 (40 * s) 40 (fun _ => 0)) 37 (nI s) v (nI 40) = _
    simp (disch := omega) only [f_X12_sheet_33, nle_r, Nat.le_refl, if_true]
theorem op_sheet (h : INVP nb nm nl nB nN td nt nw lw w L σ) (x y : Int32) : OPs L (f_X11_sheet L σ 0 x y) (fun σ1 => f_X12_sheet L σ1 37 x y) := by
  have h0 := h
  obtain ⟨hS, hR, ⟨⟨hnb, hnm, hnl, hnB, hnN, htd, hnt, hnw⟩, ⟨eb, eb'⟩, ⟨em, em'⟩, ⟨el, el'⟩, ⟨eB, eB'⟩, ⟨eN, eN'⟩, ⟨et, et'⟩, ⟨ep, ep'⟩, ew, ew'⟩, hBR, hME, hLI, hBA, hTA, hNO, hHA, hRU, hWA, hSH, hLA⟩ := id h
  by_cases hx : 0 ≤ x ∧ x ≤ 1
  · obtain ⟨s, X, Y, hs, eX, eY, rfl, c1, c2, c3⟩ := sh_in (σ := σ) hS hR hx
    by_cases hy : y ≤ 40
    · by_cases hy0 : 0 ≤ y
      · obtain ⟨n, hn, rfl⟩ := of_le (n := 40) ⟨hy0, hy⟩ (by omega)
        refine ops_of (v := nI n) (σ1 := sI (wS σ Y 0 40 (fun _ => 0)) X 1 (nI n)) (σ2 := wS (sI (sI (wS σ Y 0 40 (fun _ => 0)) X 1 (nI n)) 68 s (nI n)) 69 (40 * s) 40 (fun _ => 0)) ?_ ?_ ?_
        · simp only [f_X11_sheet, f_X8_clearTo, c1, hy, hy0, c2, fill_s c3 (by omega), nSh0, Option.bind_some, Option.elim_some, Option.elim_none, wi, x12_in, b3_z, ckb, ck0, ck1, putI, putR, putJ, not_true_eq_false, not_false_eq_true, if_true, if_false, and_self, and_true, true_and, one_ne0, zero_eq0, ite_self, sI_eq, sI_ne, sI_nk, sI_21, sI_22, sJ_21, sJ_1]
        · have hR' : RF lw (sI (sI (wS σ Y 0 40 (fun _ => 0)) X 1 (nI n)) 68 s (nI n)).2.1 := hR
          simp (disch := omega) only [f_X12_sheet, isS_in _ hx, hy, hy0, wS_21, hR.r37_41, wI_nI hS.l68, x12_sheet_lp hS hR' hs, Option.bind_some, Option.elim_some, Option.elim_none, wi, x12_in, b3_z, ckb, ck0, ck1, putI, putR, putJ, not_true_eq_false, not_false_eq_true, if_true, if_false, and_self, and_true, true_and, one_ne0, zero_eq0, ite_self, sI_eq, sI_ne, sI_nk, sI_21, sI_22, sJ_21, sJ_1]
        · refine h0.she (fun a k z1 z2 z3 z4 => ?_) rfl (SHE.of (fun s' hs' => ?_))
          · rw [wS_ne z3, sI_ne z2, sI_ne (by omega), wS_ne (by omega)]
          · by_cases e : s' = s
            · subst e
              rw [← eX, ← eY]
              refine ⟨⟨?_, Or.inr ⟨n, hn, ?_⟩⟩, fun i hi => ?_⟩
              · rw [wS_ne (by omega), sI_ne (by omega), sI_eq, wS_ne (by omega), sI_eq]
              · rw [wS_ne (by omega), sI_eq]
              · have e1 : (wS (sI (sI (wS σ Y 0 40 (fun _ => 0)) X 1 (nI n)) 68 s' (nI n)) 69 (40 * s') 40 (fun _ => 0)).1 Y i = 0 := by
                  rw [wS_ne (by omega), sI_ne (by omega), sI_ne (by omega)]
                  have := wS_in (σ := σ) (a := Y) (off := 0) (f := fun _ => 0) hi
                  rw [Nat.zero_add] at this
                  exact this
                rw [e1, wS_in hi]
                exact ⟨rfl, fits0, nSh0⟩
            · refine (hSH.get hs').fr ?_ ?_ (fun i hi => ⟨?_, ?_⟩)
              · rw [wS_ne (by omega), sI_ne (by omega), sI_ne (by omega), wS_ne (by omega)]
              · rw [wS_ne (by omega), sI_nk (by omega), sI_ne (by omega), wS_ne (by omega)]
              · rw [wS_ne (by omega), sI_ne (by omega), sI_ne (by omega), wS_ne (by omega)]
              · rw [wS_out (by omega), sI_ne (by omega), sI_ne (by omega), wS_ne (by omega)]
      · refine ops_of (v := -1000000014) (σ1 := σ) (σ2 := σ) ?_ ?_ h.iv
        · simp only [f_X11_sheet, c1, hy, hy0, Option.bind_some, Option.elim_some, Option.elim_none, wi, x12_in, b3_z, ckb, ck0, ck1, putI, putR, putJ, not_true_eq_false, not_false_eq_true, if_true, if_false, and_self, and_true, true_and, one_ne0, zero_eq0, ite_self, sI_eq, sI_ne, sI_nk, sI_21, sI_22, sJ_21, sJ_1]
        · simp only [f_X12_sheet, isS_in _ hx, hy, hy0, Option.bind_some, Option.elim_some, Option.elim_none, wi, x12_in, b3_z, ckb, ck0, ck1, putI, putR, putJ, not_true_eq_false, not_false_eq_true, if_true, if_false, and_self, and_true, true_and, one_ne0, zero_eq0, ite_self, sI_eq, sI_ne, sI_nk, sI_21, sI_22, sJ_21, sJ_1]
    · refine ops_of (v := -1000000001) (σ1 := σ) (σ2 := σ) ?_ ?_ h.iv
      · simp only [f_X11_sheet, c1, hy, Option.bind_some, Option.elim_some, Option.elim_none, wi, x12_in, b3_z, ckb, ck0, ck1, putI, putR, putJ, not_true_eq_false, not_false_eq_true, if_true, if_false, and_self, and_true, true_and, one_ne0, zero_eq0, ite_self, sI_eq, sI_ne, sI_nk, sI_21, sI_22, sJ_21, sJ_1]
      · simp only [f_X12_sheet, isS_in _ hx, hy, Option.bind_some, Option.elim_some, Option.elim_none, wi, x12_in, b3_z, ckb, ck0, ck1, putI, putR, putJ, not_true_eq_false, not_false_eq_true, if_true, if_false, and_self, and_true, true_and, one_ne0, zero_eq0, ite_self, sI_eq, sI_ne, sI_nk, sI_21, sI_22, sJ_21, sJ_1]
  · refine ops_of (v := -1000000001) (σ1 := σ) (σ2 := σ) ?_ ?_ h.iv
    · simp only [f_X11_sheet, sh_out hx, Option.bind_some, Option.elim_some, Option.elim_none, wi, x12_in, b3_z, ckb, ck0, ck1, putI, putR, putJ, not_true_eq_false, not_false_eq_true, if_true, if_false, and_self, and_true, true_and, one_ne0, zero_eq0, ite_self, sI_eq, sI_ne, sI_nk, sI_21, sI_22, sJ_21, sJ_1]
    · simp only [f_X12_sheet, isS_out _ hx, Option.bind_some, Option.elim_some, Option.elim_none, wi, x12_in, b3_z, ckb, ck0, ck1, putI, putR, putJ, not_true_eq_false, not_false_eq_true, if_true, if_false, and_self, and_true, true_and, one_ne0, zero_eq0, ite_self, sI_eq, sI_ne, sI_nk, sI_21, sI_22, sJ_21, sJ_1]
theorem op_mark (h : INVP nb nm nl nB nN td nt nw lw w L σ) (x y z : Int32) : OPs L (f_X11_mark L σ 0 x y z) (fun σ1 => f_X12_mark L σ1 37 x y z) := by
  have h0 := h
  obtain ⟨hS, hR, ⟨⟨hnb, hnm, hnl, hnB, hnN, htd, hnt, hnw⟩, ⟨eb, eb'⟩, ⟨em, em'⟩, ⟨el, el'⟩, ⟨eB, eB'⟩, ⟨eN, eN'⟩, ⟨et, et'⟩, ⟨ep, ep'⟩, ew, ew'⟩, hBR, hME, hLI, hBA, hTA, hNO, hHA, hRU, hWA, hSH, hLA⟩ := id h
  by_cases hx : 0 ≤ x ∧ x ≤ 1
  · obtain ⟨s, X, Y, hs, eX, eY, rfl, c1, c2, c3⟩ := sh_in (σ := σ) hS hR hx
    have hs1 := hSH.get hs
    rw [← eX, ← eY] at hs1
    obtain ⟨⟨d1, d2⟩, d3⟩ := hs1
    rcases d2 with q | ⟨n, hn, q⟩
    · refine ops_of (v := -1000000011) (σ1 := σ) (σ2 := σ) ?_ ?_ h.iv
      · simp only [f_X11_mark, f_X8_isMissing, c1, d1, q, m1m1, Option.bind_some, Option.elim_some, Option.elim_none, wi, x12_in, b3_z, ckb, ck0, ck1, putI, putR, putJ, not_true_eq_false, not_false_eq_true, if_true, if_false, and_self, and_true, true_and, one_ne0, zero_eq0, ite_self, sI_eq, sI_ne, sI_nk, sI_21, sI_22, sJ_21, sJ_1]
      · simp (disch := omega) only [f_X12_mark, isS_in _ hx, hR.r37_41, rI_nI hS.l68, q, m1m1, Option.bind_some, Option.elim_some, Option.elim_none, wi, x12_in, b3_z, ckb, ck0, ck1, putI, putR, putJ, not_true_eq_false, not_false_eq_true, if_true, if_false, and_self, and_true, true_and, one_ne0, zero_eq0, ite_self, sI_eq, sI_ne, sI_nk, sI_21, sI_22, sJ_21, sJ_1]
    · rcases ixc y n (by omega) with hy | ⟨i, hi, rfl⟩
      · refine ops_of (v := -1000000013) (σ1 := σ) (σ2 := σ) ?_ ?_ h.iv
        · simp (disch := omega) only [f_X11_mark, f_X8_isMissing, c1, d1, q, nIm1, wi_out L σ hy (show n < 2 ^ 30 by omega), Option.bind_some, Option.elim_some, if_false, if_true, zero_eq0, ck0]
        · simp (disch := omega) only [f_X12_mark, isS_in _ hx, hR.r37_41, rI_nI hS.l68, q, nIm1, x12_in, wi_out L σ hy (show n < 2 ^ 30 by omega), Option.bind_some, if_false, if_true, zero_eq0, one_ne0]
      · obtain ⟨u, hu⟩ : ∃ u, u = nSh z.toInt16.toInt32 := ⟨_, rfl⟩
        have hu1 : fits .short (.int u) = true := by rw [hu]; show fits .short (.int (vp_nar .short z.toInt16.toInt32)) = true; rw [pk_vs]; exact pk_fs z
        have hu2 : nSh u = u := by rw [hu]; show vp_nar .short (vp_nar .short z.toInt16.toInt32) = vp_nar .short z.toInt16.toInt32; rw [pk_vs, pk_vs]
        refine ops_of (v := σ.1 69 (40 * s + i)) (σ1 := sI σ Y i u) (σ2 := sI (sI σ Y i u) 69 (40 * s + i) u) ?_ ?_ ?_
        · simp (disch := omega) only [f_X11_mark, f_X8_isMissing, c1, c2, d1, q, nIm1, wi_in L σ hi (show n < 2 ^ 30 by omega), Option.bind_some, Option.elim_some, if_false, if_true, zero_eq0, one_ne0, ck0, rI_nI c3, wI_nI c3, (d3 i (by omega)).1, hu]
        · have hR' : RF lw (sI σ Y i u).2.1 := hR
          have q' : (sI σ Y i u).1 68 s = nI n := by rw [sI_ne (by omega)]; exact q
          have q2 : (sI σ Y i u).1 69 (40 * s + i) = σ.1 69 (40 * s + i) := sI_ne (by omega)
          simp (disch := omega) only [f_X12_mark, isS_in _ hx, hR'.r37_41, hR'.r37_42, rI_nI hS.l68, rI_nI hS.l69, q', nIm1, x12_in, wi_in L (sI σ Y i u) hi (show n < 2 ^ 30 by omega), Option.bind_some, if_false, if_true, zero_eq0, one_ne0, mul_lit, nI_add, wI_nI hS.l69, ← hu, q2]
        · refine h0.she (fun a k z1 z2 z3 z4 => ?_) rfl (SHE.of (fun s' hs' => ?_))
          · rw [sI_ne z3, sI_ne (by omega)]
          · by_cases e : s' = s
            · subst e
              rw [← eX, ← eY]
              refine ⟨⟨?_, ?_⟩, fun j hj => ?_⟩
              · rw [sI_ne (by omega), sI_ne (by omega), sI_ne (by omega), sI_ne (by omega)]; exact d1
              · rw [sI_ne (by omega), sI_ne (by omega)]; exact Or.inr ⟨n, hn, q⟩
              · by_cases e : j = i
                · subst e
                  rw [sI_ne (by omega), sI_eq, sI_eq]
                  exact ⟨rfl, hu1, hu2⟩
                · rw [sI_ne (by omega), sI_nk e, sI_nk (by omega), sI_ne (by omega)]
                  exact d3 j hj
            · refine (hSH.get hs').fr ?_ ?_ (fun j hj => ⟨?_, ?_⟩)
              · rw [sI_ne (by omega), sI_ne (by omega)]
              · rw [sI_ne (by omega), sI_ne (by omega)]
              · rw [sI_ne (by omega), sI_ne (by omega)]
              · rw [sI_nk (by omega), sI_ne (by omega)]
  · refine ops_of (v := -1000000001) (σ1 := σ) (σ2 := σ) ?_ ?_ h.iv
    · simp only [f_X11_mark, sh_out hx, Option.bind_some, Option.elim_some, Option.elim_none, wi, x12_in, b3_z, ckb, ck0, ck1, putI, putR, putJ, not_true_eq_false, not_false_eq_true, if_true, if_false, and_self, and_true, true_and, one_ne0, zero_eq0, ite_self, sI_eq, sI_ne, sI_nk, sI_21, sI_22, sJ_21, sJ_1]
    · simp only [f_X12_mark, isS_out _ hx, Option.bind_some, Option.elim_some, Option.elim_none, wi, x12_in, b3_z, ckb, ck0, ck1, putI, putR, putJ, not_true_eq_false, not_false_eq_true, if_true, if_false, and_self, and_true, true_and, one_ne0, zero_eq0, ite_self, sI_eq, sI_ne, sI_nk, sI_21, sI_22, sJ_21, sJ_1]
end
