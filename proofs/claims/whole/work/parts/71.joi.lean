theorem nBo0 : nBo 0 = 0 := by decide
theorem nBo1 : nBo 1 = 1 := by decide
theorem jcd_sc {σ σ' : Sto} (h : SC σ σ') (td : Nat) : jcd σ' td = jcd σ td := by
  funext S l p m
  unfold jcd
  rw [ofS_sc h, h.at (a := 48) rfl, h.at (a := 39) rfl, h.at (a := 47) rfl]
theorem jst_sc {σ σ' : Sto} (h : SC σ σ') (nm td p l : Nat) (S : JS) : jst σ' nm td p l S = jst σ nm td p l S := by
  unfold jst
  rw [jcd_sc h]
theorem jph_sc {σ σ' : Sto} (h : SC σ σ') (nm td p n : Nat) (S : JS) : jph σ' nm td p n S = jph σ nm td p n S := itr_congr n S (fun l _ S => jst_sc h nm td p l S)
theorem jal_sc {σ σ' : Sto} (h : SC σ σ') (nm td nl : Nat) : jal σ' nm td nl = jal σ nm td nl := by
  unfold jal
  rw [jph_sc h, jph_sc h]
def cnt (c : Nat → Bool) (n : Nat) : Int32 := itr (fun i a => a + b3 (c i = true)) n 0
theorem cnt_succ (c : Nat → Bool) (n : Nat) : cnt c (n + 1) = cnt c n + b3 (c n = true) := rfl
theorem cnt_congr {c d : Nat → Bool} (n : Nat) (h : ∀ i, i < n → c i = d i) : cnt c n = cnt d n := itr_congr n 0 (fun i hi x => by rw [h i hi])
section
variable {nb nm nl nB nN td nt nw lw : Nat} {w : Nat → Nat} {L : Lay} {σ : Sto}
theorem x12_join1 (h : INVP nb nm nl nB nN td nt nw lw w L σ) {σ' : Sto} {S : JS} (hj : JR S σ σ') {l p : Nat} (hl : l < nl) (hp : p ≤ 1) (c2 : Lay → Sto → Nat → Int32 → Int32 → Option Sto) : ∃ t, f_X12_joins_12 c2 FU L σ' 37 (nI p) (nI l) 0 = c2 L t 37 (nI p) (nI (l + 1)) ∧ JR (jst σ nm td p l S) σ t := by
  have hS := h.1
  have hnl : nl ≤ 40 := h.2.2.1.1.2.2.1
  have hnm : nm ≤ 40 := h.2.2.1.1.2.1
  have em' : σ.1 37 4 = nI nm := h.2.2.1.2.2.1.2
  have et' : σ.1 37 1 = nI td := h.2.2.1.2.2.2.2.2.2.1.2
  obtain ⟨j1, j2, j3, js⟩ := id hj
  have hR' : RF lw σ'.2.1 := (h.sc js).2.1
  have v70 := j1 l (by omega)
  cases hq : S.1 l with
  | some q =>
    rw [jst_some hq]
    rw [hq] at v70
    have q40 := (j2 l q (by omega) hq).2
    refine ⟨σ', ?_, hj⟩
    have e4 : σ'.1 37 4 = nI nm := (js.at rfl).trans em'
    suffices hK : ∀ K, f_X12_joins_12 c2 (K + 1) L σ' 37 (nI p) (nI l) 0 = c2 L σ' 37 (nI p) (nI (l + 1)) from hK 4999
    intro K
    by_cases z : nm = 0
    · simp (disch := omega) only [f_X12_joins_12, f_X12_joins_111, e4, z, nI_0, Int32.le_refl, nI_1, if_true]
    · have e5 : ¬ nI nm ≤ 0 := nI_nle (by omega) (by omega)
      simp (disch := omega) only [f_X12_joins_12, f_X12_joins_111, e4, e5, hR'.r37_43, rI_nI hS.l70, v70, pval, nI_m1, nI_1, if_false, Option.bind_some]
  | none =>
    rw [hq] at v70
    refine loopE (F := fun k q => f_X12_joins_12 c2 k L q.1 37 (nI p) (nI l) q.2) (E := fun t => c2 L t 37 (nI p) (nI (l + 1))) (s := (σ', 0)) (I := fun i q => q.2 = nI i ∧ ((fm (jcd σ td S l p) i = none ∧ JR S σ q.1) ∨ ∃ m, fm (jcd σ td S l p) i = some m ∧ JR (jput S l p m) σ q.1)) (Q := fun t => JR (jst σ nm td p l S) σ t) nm ?_ ?_ (FU_lt (by omega)) (by exact ⟨nI_0.symm, Or.inl ⟨rfl, hj⟩⟩)
    · rintro i K ⟨σ2, t⟩ hi ⟨et1, hI⟩
      dsimp only at et1 hI
      subst et1
      rcases hI with ⟨hI, hJ⟩ | ⟨m, hI, hJ⟩
      · obtain ⟨k1, k2, k3, ks⟩ := id hJ
        have hR2 : RF lw σ2.2.1 := (h.sc ks).2.1
        have e4 : σ2.1 37 4 = nI nm := (ks.at rfl).trans em'
        have e1 : σ2.1 37 1 = nI td := (ks.at rfl).trans et'
        have v := k1 l (by omega)
        rw [hq] at v
        have v72 := k3 i (by omega)
        have eo : f_X12_ofOn L σ2 37 (nI i) (nI td) = some (ofS σ i (nI td)) := by rw [x12_ofOn' (h.sc ks).rd hi, ofS_sc ks]
        have w48 : σ2.1 48 l = σ.1 48 l := ks.at rfl
        have w39 : σ2.1 39 i = σ.1 39 i := ks.at rfl
        have w47 : σ2.1 47 l = σ.1 47 l := ks.at rfl
        have cd : jcd σ td S l p i = decide (S.2 i = false ∧ ofS σ i (nI td) = σ.1 48 l ∧ (fgs (σ.1 39 i) (σ.1 47 l) 4).2.2 = nI p) := rfl
        refine Or.inl ?_
        by_cases c1 : S.2 i = false
        · have v0 : σ2.1 72 i = 0 := by rw [v72, c1]; rfl
          by_cases c2' : ofS σ i (nI td) = σ.1 48 l
          · by_cases c3 : (fgs (σ.1 39 i) (σ.1 47 l) 4).2.2 = nI p
            · refine ⟨(sI (sI (sI σ2 70 l (nI i)) 71 l (b3 (p = 0))) 72 i 1, nI (i + 1)), ?_, rfl, Or.inr ⟨i, fm_hit hI (cd.trans (decide_eq_true ⟨c1, c2', c3⟩)) 0, ?_⟩⟩
              · rcases (show p = 0 ∨ p = 1 by omega) with rfl | rfl
                · simp (disch := omega) only [f_X12_joins_12, f_X12_joins_97, f_X12_joins_105, e4, e1, nI_leI, show ¬ nm ≤ i by omega, hR2.r37_43, hR2.r37_44, hR2.r37_45, hR2.r37_15, hR2.r37_5, hR2.r37_14, rI_nI hS.l70, rI_nI hS.l72, rI_nI hS.l48, rI_nI hS.l39, rI_nI hS.l47, v, pval, m1m1, v0, zero_eq0, eo, w48, c2', w39, w47, x12_fig, c3, sI_21, wI_nI hS.l70, wI_nI hS.l71, wI_nI hS.l72, nI_0, nBo0, nBo1, b3_t (show (0 : Nat) = 0 from rfl), nI_1, if_false, if_true, Option.bind_some]
                  rfl
                · simp (disch := omega) only [f_X12_joins_12, f_X12_joins_97, f_X12_joins_105, e4, e1, nI_leI, show ¬ nm ≤ i by omega, hR2.r37_43, hR2.r37_44, hR2.r37_45, hR2.r37_15, hR2.r37_5, hR2.r37_14, rI_nI hS.l70, rI_nI hS.l72, rI_nI hS.l48, rI_nI hS.l39, rI_nI hS.l47, v, pval, m1m1, v0, zero_eq0, eo, w48, c2', w39, w47, x12_fig, c3, sI_21, wI_nI hS.l70, wI_nI hS.l71, wI_nI hS.l72, show (nI 1 = 0) = False from eq_false (by decide), nBo0, nBo1, b3_f (show ¬ (1 : Nat) = 0 by omega), nI_1, if_false, if_true, Option.bind_some]
              · refine ⟨fun l' hl' => ?_, fun l' q hl' e => ?_, fun m' hm' => ?_, ((ks.wr rfl).wr rfl).wr rfl⟩
                · show _ = pval _ (if l' = l then some (i, p) else _)
                  rw [sI_ne (by omega), sI_ne (by omega)]
                  by_cases z : l' = l
                  · subst z; rw [sI_eq, if_pos rfl]; rfl
                  · rw [sI_nk z, if_neg z]; exact k1 l' hl'
                · have e : (if l' = l then some (i, p) else S.1 l') = some q := e
                  rw [sI_ne (by omega)]
                  by_cases z : l' = l
                  · subst z
                    rw [if_pos rfl] at e
                    cases e
                    exact ⟨sI_eq _ _ _ _, by show i < 40; omega⟩
                  · rw [if_neg z] at e
                    rw [sI_nk z, sI_ne (by omega)]
                    exact k2 l' q hl' e
                · show _ = b3 ((if m' = i then true else _) = true)
                  by_cases z : m' = i
                  · subst z; rw [sI_eq, if_pos rfl]; rfl
                  · rw [sI_nk z, sI_ne (by omega), sI_ne (by omega), if_neg z]; exact k3 m' hm'
            · refine ⟨(σ2, nI (i + 1)), ?_, rfl, Or.inl ⟨fm_miss hI (fun u => c3 (of_decide_eq_true (cd.symm.trans u)).2.2), hJ⟩⟩
              simp (disch := omega) only [f_X12_joins_12, f_X12_joins_105, e4, e1, nI_leI, show ¬ nm ≤ i by omega, hR2.r37_43, hR2.r37_45, hR2.r37_15, hR2.r37_5, hR2.r37_14, rI_nI hS.l70, rI_nI hS.l72, rI_nI hS.l48, rI_nI hS.l39, rI_nI hS.l47, v, pval, m1m1, v0, zero_eq0, eo, w48, c2', w39, w47, x12_fig, c3, nI_1, if_false, if_true, Option.bind_some]
          · refine ⟨(σ2, nI (i + 1)), ?_, rfl, Or.inl ⟨fm_miss hI (fun u => c2' (of_decide_eq_true (cd.symm.trans u)).2.1), hJ⟩⟩
            simp (disch := omega) only [f_X12_joins_12, f_X12_joins_105, e4, e1, nI_leI, show ¬ nm ≤ i by omega, hR2.r37_43, hR2.r37_45, hR2.r37_15, rI_nI hS.l70, rI_nI hS.l72, rI_nI hS.l48, v, pval, m1m1, v0, zero_eq0, eo, w48, c2', nI_1, if_false, if_true, Option.bind_some]
        · have ct : S.2 i = true := by
            cases z : S.2 i with
            | true => rfl
            | false => exact absurd z c1
          have v0 : σ2.1 72 i = 1 := by rw [v72, ct]; rfl
          refine ⟨(σ2, nI (i + 1)), ?_, rfl, Or.inl ⟨fm_miss hI (fun u => c1 (of_decide_eq_true (cd.symm.trans u)).1), hJ⟩⟩
          simp (disch := omega) only [f_X12_joins_12, f_X12_joins_105, e4, e1, nI_leI, show ¬ nm ≤ i by omega, hR2.r37_43, hR2.r37_45, rI_nI hS.l70, rI_nI hS.l72, v, pval, m1m1, v0, one_ne0, nI_1, if_false, if_true, Option.bind_some]
      · obtain ⟨k1, k2, k3, ks⟩ := id hJ
        have hR2 : RF lw σ2.2.1 := (h.sc ks).2.1
        have e4 : σ2.1 37 4 = nI nm := (ks.at rfl).trans em'
        have v := k1 l (by omega)
        rw [show (jput S l p m).1 l = some (m, p) from if_pos rfl] at v
        have hm40 : m < 40 := by have := (fm_lt hI).1; omega
        have hfin : fm (jcd σ td S l p) nm = some m := by
          have h1 := fm_lt hI
          have : ∀ j, fm (jcd σ td S l p) (i + j) = some m := by
            intro j
            induction j with
            | zero => exact hI
            | succ j ih =>
              show (match fm (jcd σ td S l p) (i + j) with | some m => some m | none => if jcd σ td S l p (i + j) = true then some (i + j) else none) = some m
              rw [ih]
          have := this (nm - i)
          rw [show i + (nm - i) = nm by omega] at this
          exact this
        refine Or.inr ⟨σ2, ?_, ?_⟩
        · simp (disch := omega) only [f_X12_joins_12, f_X12_joins_111, e4, nI_leI, show ¬ nm ≤ i by omega, hR2.r37_43, rI_nI hS.l70, v, pval, nI_m1, nI_1, if_false, Option.bind_some]
        · rw [jst_put hq hfin]
          exact hJ
    · rintro K ⟨σ2, t⟩ ⟨et1, hI⟩
      dsimp only at et1 hI
      subst et1
      have e4 : σ2.1 37 4 = nI nm := by
        rcases hI with ⟨-, hJ⟩ | ⟨m, -, hJ⟩
        · exact (hJ.2.2.2.at rfl).trans em'
        · exact (hJ.2.2.2.at rfl).trans em'
      refine ⟨σ2, ?_, ?_⟩
      · simp (disch := omega) only [f_X12_joins_12, f_X12_joins_111, e4, nI_leI, Nat.le_refl, nI_1, if_true]
      · rcases hI with ⟨hI, hJ⟩ | ⟨m, hI, hJ⟩
        · rw [jst_no hq hI]; exact hJ
        · rw [jst_put hq hI]; exact hJ
theorem x12_joins (h : INVP nb nm nl nB nN td nt nw lw w L σ) {σ' : Sto} {S : JS} (hj : JR S σ σ') {p : Nat} (hp : p ≤ 1) : OK (f_X12_joins L σ' 37 (nI p)) (fun q => JR (jph σ nm td p nl S) σ q) := by
  have hnl : nl ≤ 40 := h.2.2.1.1.2.2.1
  have el' : σ.1 37 13 = nI nl := h.2.2.1.2.2.2.1.2
  unfold f_X12_joins
  refine loopI (F := fun k q => f_X12_joins_2 k L q.1 37 (nI p) q.2) (s := (σ', 0)) (I := fun i q => q.2 = nI i ∧ JR (jph σ nm td p i S) σ q.1) _ nl ?_ ?_ (FU_lt (by omega)) (by exact ⟨nI_0.symm, hj⟩)
  · rintro i K ⟨σ2, t⟩ hi ⟨et1, hI⟩
    dsimp only at et1 hI
    subst et1
    obtain ⟨t, e, q⟩ := x12_join1 h hI hi hp (f_X12_joins_2 K)
    have e2 : σ2.1 37 13 = nI nl := (hI.2.2.2.at rfl).trans el'
    refine Or.inl ⟨(t, nI (i + 1)), ?_, rfl, q⟩
    simp (disch := omega) only [f_X12_joins_2, e2, nI_leI, show ¬ nl ≤ i by omega, e, if_false]
  · rintro K ⟨σ2, t⟩ ⟨et1, hI⟩
    dsimp only at et1 hI
    subst et1
    have e2 : σ2.1 37 13 = nI nl := (hI.2.2.2.at rfl).trans el'
    refine ⟨σ2, ?_, hI⟩
    simp (disch := omega) only [f_X12_joins_2, e2, nI_leI, Nat.le_refl, if_true]
theorem x12_joinsAll (h : INVP nb nm nl nB nN td nt nw lw w L σ) : OK (f_X12_joinsAll L σ 37) (fun q => JR (jal σ nm td nl) σ q) := by
  have hS := h.1
  have hR := h.2.1
  unfold f_X12_joinsAll
  have j0 : JR (fun _ => none, fun _ => false) σ (wS (wS σ 70 0 40 (fun _ => -1)) 72 0 40 (fun _ => 0)) := by
    refine ⟨fun l hl => ?_, fun l q hl e => (by cases e), fun m hm => ?_, ((SC.rf σ).ws (fun _ => rfl)).ws (fun _ => rfl)⟩
    · rw [wS_ne (by omega)]
      have := wS_in (σ := σ) (a := 70) (off := 0) (f := fun _ => (-1 : Int32)) hl
      rw [Nat.zero_add] at this
      exact this
    · have := wS_in (σ := wS σ 70 0 40 (fun _ => -1)) (a := 72) (off := 0) (f := fun _ => (0 : Int32)) hm
      rw [Nat.zero_add] at this
      exact this
  obtain ⟨σ1, e1, j1⟩ := x12_joins h j0 (p := 0) (by omega)
  obtain ⟨σ2, e2, j2⟩ := x12_joins h j1 (p := 1) (by omega)
  refine ⟨σ2, ?_, j2⟩
  have e1 : f_X12_joins L (wS (wS σ 70 0 40 (fun _ => -1)) 72 0 40 (fun _ => 0)) 37 0 = some σ1 := e1
  have e2 : f_X12_joins L σ1 37 1 = some σ2 := e2
  refine loop (F := fun k q => f_X12_joinsAll_2 k L q.1 37 q.2) (s := fun m => (wS (wS σ 70 0 m (fun _ => -1)) 72 0 m (fun _ => 0), nI m)) 40 _ ?_ ?_ (FU_lt (by omega)) |> (fun z => by rw [wS_0, wS_0] at z; exact z)
  · intro m K hm
    show f_X12_joinsAll_2 (K + 1) L (wS (wS σ 70 0 m (fun _ => -1)) 72 0 m (fun _ => 0)) 37 (nI m) = f_X12_joinsAll_2 K L (wS (wS σ 70 0 (m + 1) (fun _ => -1)) 72 0 (m + 1) (fun _ => 0)) 37 (nI (m + 1))
    have f1 := wS_step σ 70 0 m (fun _ => -1)
    have f2 := wS_step (wS σ 70 0 (m + 1) (fun _ => -1)) 72 0 m (fun _ => 0)
    rw [Nat.zero_add] at f1 f2
    have f3 : sI (wS (wS σ 70 0 m (fun _ => -1)) 72 0 m (fun _ => 0)) 70 m (-1) = wS (wS σ 70 0 (m + 1) (fun _ => -1)) 72 0 m (fun _ => 0) := by
      rw [sI_wS (by omega), f1]
    simp (disch := omega) only [f_X12_joinsAll_2, nle_r, show ¬ 40 ≤ m by omega, wS_21, hR.r37_43, hR.r37_45, wI_nI hS.l70, wI_nI hS.l72, f3, nBo0, f2, nI_1, if_false, Option.bind_some]
  · intro K
    show f_X12_joinsAll_2 (K + 1) L (wS (wS σ 70 0 40 (fun _ => -1)) 72 0 40 (fun _ => 0)) 37 (nI 40) = _
    simp (disch := omega) only [f_X12_joinsAll_2, nle_r, Nat.le_refl, e1, e2, if_true, Option.bind_some]
theorem op_joined (h : INVP nb nm nl nB nN td nt nw lw w L σ) (x : Int32) : OPs L (f_X11_joined L σ 0 x) (fun σ1 => f_X12_joined L σ1 37 x) := by
  have h0 := h
  obtain ⟨hS, hR, ⟨⟨hnb, hnm, hnl, hnB, hnN, htd, hnt, hnw⟩, ⟨eb, eb'⟩, ⟨em, em'⟩, ⟨el, el'⟩, ⟨eB, eB'⟩, ⟨eN, eN'⟩, ⟨et, et'⟩, ⟨ep, ep'⟩, ew, ew'⟩, hBR, hME, hLI, hBA, hTA, hNO, hHA, hRU, hWA, hSH, hLA⟩ := id h
  rcases ixc x nl (by omega) with hx | ⟨l, hl, rfl⟩
  · refine ops_of (v := -1000000001) (σ1 := σ) (σ2 := σ) ?_ ?_ h.iv
    · simp only [f_X11_joined, hR.r0_1, el, wi_out L σ hx (show nl < 2 ^ 30 by omega), Option.bind_some, if_true]
    · simp only [f_X12_joined, el', x12_in, wi_out L σ hx (show nl < 2 ^ 30 by omega), Option.bind_some, if_true]
  · obtain ⟨σ1, e1, j1, j2, -, js⟩ := x7_join h0
    have h1 := h0.sc js
    obtain ⟨σ2, e2, k1, k2, k3, ks⟩ := x12_joinsAll h1
    rw [jal_sc js] at k1 k2 k3
    have hR1 : RF lw σ1.2.1 := h1.2.1
    have hR2 : RF lw σ2.2.1 := (h1.sc ks).2.1
    have el1 : σ1.1 37 13 = nI nl := (js.at rfl).trans el'
    have v1 := j1 l (by omega)
    have v2 := k1 l (by omega)
    refine ops_of (v := pval (-1000000005) ((jal σ nm td nl).1 l)) (σ1 := σ1) (σ2 := σ2) ?_ ?_ (h1.sc ks).iv
    · simp (disch := omega) only [f_X11_joined, hR.r0_1, el, wi_in L σ hl (show nl < 2 ^ 30 by omega), Option.bind_some, one_ne0, if_false, e1, hR1.r0_1, hR1.r4_4, rI_nI hS.l7, v1]
    · simp (disch := omega) only [f_X12_joined, el1, x12_in, wi_in L σ1 hl (show nl < 2 ^ 30 by omega), Option.bind_some, one_ne0, if_false, e2, hR2.r37_43, rI_nI hS.l70, v2]
      cases hq : (jal σ nm td nl).1 l with
      | none => rfl
      | some q =>
        have := (k2 l q (by omega) hq).2
        show (if nI q.1 = -1 then _ else some (nI q.1, σ2)) = some (nI q.1, σ2)
        rw [if_neg (nI_nneg (by omega) (by decide))]
theorem x10_sizeOf (h : RD nb nm td lw w L σ) (x : Int32) : f_X10_sizeOf L σ 1 x = some (cnt (fun i => decide (ofS σ i (nI td) = x)) nm) := by
  have ht : td ≤ 400 := h.2.1.2.2
  have ea := fun i (hi : i < nm) => x10_branchOn h hi ht
  obtain ⟨⟨hS, hR⟩, ⟨hnb, hnm, htd⟩, ⟨eb, eb'⟩, ⟨em, em'⟩, ⟨et, et'⟩, hBR, hME⟩ := id h
  unfold f_X10_sizeOf
  refine loop (F := fun k q => f_X10_sizeOf_4 k L σ 1 x q.1 q.2) (s := fun m => (cnt (fun i => decide (ofS σ i (nI td) = x)) m, nI m)) nm _ ?_ ?_ (FU_lt (by omega))
  · intro m K hm
    show f_X10_sizeOf_4 (K + 1) L σ 1 x (cnt (fun i => decide (ofS σ i (nI td) = x)) m) (nI m) = f_X10_sizeOf_4 K L σ 1 x (cnt (fun i => decide (ofS σ i (nI td) = x)) (m + 1)) (nI (m + 1))
    rw [cnt_succ]
    simp (disch := omega) only [f_X10_sizeOf_4, f_X10_sizeOf_31, f_X11_oneIf, em, et, nI_leI, show ¬ nm ≤ m by omega, ea m hm, nI_1, if_false, if_true, Option.bind_some, one_ne0, zero_eq0]
    by_cases q : ofS σ m (nI td) = x
    · rw [if_pos q, b3_t (p := decide (ofS σ m (nI td) = x) = true) (decide_eq_true q)]
    · rw [if_neg q, b3_f (p := decide (ofS σ m (nI td) = x) = true) (fun u => q (of_decide_eq_true u))]
  · intro K
    show f_X10_sizeOf_4 (K + 1) L σ 1 x (cnt (fun i => decide (ofS σ i (nI td) = x)) nm) (nI nm) = _
    simp (disch := omega) only [f_X10_sizeOf_4, em, nI_leI, Nat.le_refl, if_true]
theorem x7_linesOf (hS : SF L) {σ : Sto} (hR : RF lw σ.2.1) (el : σ.1 4 3 = nI nl) (hnl : nl ≤ 40) (x : Int32) : f_X7_linesOf L σ 4 x = some (cnt (fun i => decide (σ.1 6 i = x)) nl) := by
  unfold f_X7_linesOf
  refine loop (F := fun k q => f_X7_linesOf_4 k L σ 4 x q.1 q.2) (s := fun m => (cnt (fun i => decide (σ.1 6 i = x)) m, nI m)) nl _ ?_ ?_ (FU_lt (by omega))
  · intro m K hm
    show f_X7_linesOf_4 (K + 1) L σ 4 x (cnt (fun i => decide (σ.1 6 i = x)) m) (nI m) = f_X7_linesOf_4 K L σ 4 x (cnt (fun i => decide (σ.1 6 i = x)) (m + 1)) (nI (m + 1))
    rw [cnt_succ]
    simp (disch := omega) only [f_X7_linesOf_4, f_X7_linesOf_28, f_X11_oneIf, el, nI_leI, show ¬ nl ≤ m by omega, hR.r4_2, rI_nI hS.l6, nI_1, if_false, if_true, Option.bind_some, one_ne0, zero_eq0]
    by_cases q : σ.1 6 m = x
    · rw [if_pos q, b3_t (p := decide (σ.1 6 m = x) = true) (decide_eq_true q)]
    · rw [if_neg q, b3_f (p := decide (σ.1 6 m = x) = true) (fun u => q (of_decide_eq_true u))]
  · intro K
    show f_X7_linesOf_4 (K + 1) L σ 4 x (cnt (fun i => decide (σ.1 6 i = x)) nl) (nI nl) = _
    simp (disch := omega) only [f_X7_linesOf_4, el, nI_leI, Nat.le_refl, if_true]
theorem x7_joinedLinesOf (hS : SF L) {σ : Sto} (hR : RF lw σ.2.1) (el : σ.1 4 3 = nI nl) (hnl : nl ≤ 40) (x p : Int32) : f_X7_joinedLinesOf L σ 4 x p = some (cnt (fun i => decide ((¬ σ.1 7 i = -1000000005 ∧ σ.1 8 i = p) ∧ σ.1 6 i = x)) nl) := by
  unfold f_X7_joinedLinesOf
  refine loop (F := fun k q => f_X7_joinedLinesOf_5 k L σ 4 x p q.1 q.2) (s := fun m => (cnt (fun i => decide ((¬ σ.1 7 i = -1000000005 ∧ σ.1 8 i = p) ∧ σ.1 6 i = x)) m, nI m)) nl _ ?_ ?_ (FU_lt (by omega))
  · intro m K hm
    show f_X7_joinedLinesOf_5 (K + 1) L σ 4 x p (cnt (fun i => decide ((¬ σ.1 7 i = -1000000005 ∧ σ.1 8 i = p) ∧ σ.1 6 i = x)) m) (nI m) = f_X7_joinedLinesOf_5 K L σ 4 x p (cnt (fun i => decide ((¬ σ.1 7 i = -1000000005 ∧ σ.1 8 i = p) ∧ σ.1 6 i = x)) (m + 1)) (nI (m + 1))
    rw [cnt_succ]
    simp (disch := omega) only [f_X7_joinedLinesOf_5, f_X7_joinedLinesOf_41, f_X7_joinedLinesOf_42, f_X7_joinedLinesOf_65, f_X7_joinedLinesOf_66, f_X11_oneIf, el, nI_leI, show ¬ nl ≤ m by omega, hR.r4_2, hR.r4_4, hR.r4_5, rI_nI hS.l6, rI_nI hS.l7, rI_nI hS.l8, nI_1, if_false, if_true, Option.bind_some, one_ne0, zero_eq0]
    by_cases q1 : σ.1 7 m = -1000000005
    · rw [if_pos q1, b3_f (p := decide ((¬ σ.1 7 m = -1000000005 ∧ σ.1 8 m = p) ∧ σ.1 6 m = x) = true) (fun u => (of_decide_eq_true u).1.1 q1)]
    · rw [if_neg q1]
      by_cases q2 : σ.1 8 m = p
      · rw [if_pos q2]
        by_cases q3 : σ.1 6 m = x
        · rw [if_pos q3, b3_t (p := decide ((¬ σ.1 7 m = -1000000005 ∧ σ.1 8 m = p) ∧ σ.1 6 m = x) = true) (decide_eq_true ⟨⟨q1, q2⟩, q3⟩)]
        · rw [if_neg q3, b3_f (p := decide ((¬ σ.1 7 m = -1000000005 ∧ σ.1 8 m = p) ∧ σ.1 6 m = x) = true) (fun u => q3 (of_decide_eq_true u).2)]
      · rw [if_neg q2, b3_f (p := decide ((¬ σ.1 7 m = -1000000005 ∧ σ.1 8 m = p) ∧ σ.1 6 m = x) = true) (fun u => q2 (of_decide_eq_true u).1.2)]
  · intro K
    show f_X7_joinedLinesOf_5 (K + 1) L σ 4 x p (cnt (fun i => decide ((¬ σ.1 7 i = -1000000005 ∧ σ.1 8 i = p) ∧ σ.1 6 i = x)) nl) (nI nl) = _
    simp (disch := omega) only [f_X7_joinedLinesOf_5, el, nI_leI, Nat.le_refl, if_true]
theorem x7_membersWithout (h : RD nb nm td lw w L σ) {T : Nat} (hT : T < 2 ^ 40) (jt : σ.2.2 4 6 = lN T) (x : Int32) : f_X7_membersWithout L σ 4 x = some (cnt (fun i => decide (¬ T / 2 ^ i % 2 = 1 ∧ ofS σ i (nI td) = x)) nm) := by
  have ht : td ≤ 400 := h.2.1.2.2
  have ea := fun i (hi : i < nm) => x10_branchOn h hi ht
  obtain ⟨⟨hS, hR⟩, ⟨hnb, hnm, htd⟩, ⟨eb, eb'⟩, ⟨em, em'⟩, ⟨et, et'⟩, hBR, hME⟩ := id h
  unfold f_X7_membersWithout
  refine loop (F := fun k q => f_X7_membersWithout_4 k L σ 4 x q.1 q.2) (s := fun m => (cnt (fun i => decide (¬ T / 2 ^ i % 2 = 1 ∧ ofS σ i (nI td) = x)) m, nI m)) nm _ ?_ ?_ (FU_lt (by omega))
  · intro m K hm
    show f_X7_membersWithout_4 (K + 1) L σ 4 x (cnt (fun i => decide (¬ T / 2 ^ i % 2 = 1 ∧ ofS σ i (nI td) = x)) m) (nI m) = f_X7_membersWithout_4 K L σ 4 x (cnt (fun i => decide (¬ T / 2 ^ i % 2 = 1 ∧ ofS σ i (nI td) = x)) (m + 1)) (nI (m + 1))
    have ct : (lg_cmp ((lN T >>> ((nI m).toInt64 &&& 63)) &&& 1) 0 = 0) = (¬ T / 2 ^ m % 2 = 1) := by
      have hq : T / 2 ^ m ≤ T := Nat.div_le_self _ _
      rw [lsh (by omega) (by omega), wb_a1 (by omega), lg_cmp_eq, show (0 : Int64) = lN 0 from rfl, pk_lEQ (by omega) (by omega)]
      exact propext (by omega)
    rw [cnt_succ]
    simp (disch := omega) only [f_X7_membersWithout_4, f_X7_membersWithout_33, f_X7_membersWithout_64, f_X7_membersWithout_65, f_X11_oneIf, hR.r4_0, em, et, nI_leI, show ¬ nm ≤ m by omega, jt, ct, ea m hm, nI_1, if_false, if_true, Option.bind_some, one_ne0, zero_eq0]
    by_cases q1 : T / 2 ^ m % 2 = 1
    · rw [if_neg (not_not_intro q1), b3_f (p := decide (¬ T / 2 ^ m % 2 = 1 ∧ ofS σ m (nI td) = x) = true) (fun u => (of_decide_eq_true u).1 q1)]
    · rw [if_pos q1]
      by_cases q : ofS σ m (nI td) = x
      · rw [if_pos q, b3_t (p := decide (¬ T / 2 ^ m % 2 = 1 ∧ ofS σ m (nI td) = x) = true) (decide_eq_true ⟨q1, q⟩)]
      · rw [if_neg q, b3_f (p := decide (¬ T / 2 ^ m % 2 = 1 ∧ ofS σ m (nI td) = x) = true) (fun u => q (of_decide_eq_true u).2)]
  · intro K
    show f_X7_membersWithout_4 (K + 1) L σ 4 x (cnt (fun i => decide (¬ T / 2 ^ i % 2 = 1 ∧ ofS σ i (nI td) = x)) nm) (nI nm) = _
    simp (disch := omega) only [f_X7_membersWithout_4, hR.r4_0, em, nI_leI, Nat.le_refl, if_true, Option.bind_some]
end
