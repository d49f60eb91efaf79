/-! cure, holds -/
def cfn (F : Nat → Int32) (M i k : Nat) : Int32 := if k = 15 then F 15 + nI i else if k = 12 then nI (M - i) else F k
def cur (W : Nat → Int32) : Nat → Nat → Int32
  | 0, _ => -1000000005
  | m + 1, i => if W i = 0 then cur W m (i + 1) else nI i
section
variable {nb nm nl nB nN td nt nw lw : Nat} {w : Nat → Nat} {L : Lay} {σ : Sto}
theorem x11_curl (h : INVP nb nm nl nB nN td nt nw lw w L σ) {n a b fr M : Nat} {c : List Int32} {F : Nat → Int32} (hM : M ≤ 40) (hP : LPk lw n σ 0 a b fr c) : ∀ m i K σ', i + m = M + 1 → m < K → SC σ σ' → (∀ k, k < 26 → k ≠ 15 → k ≠ 12 → σ'.1 26 k = F k) → ∃ σ2, f_X11_cure_63 K L σ' 0 (F 15) (nI M) (nI i) = some (cur (fun i => evc (KQ (cfn F M i)) c) m i, σ2) ∧ SC σ' σ2
  | 0, i, K, σ', hi, hK, s, hf => by
    obtain ⟨K, rfl⟩ := Nat.exists_eq_add_one_of_ne_zero (show K ≠ 0 by omega)
    refine ⟨σ', ?_, SC.rf _⟩
    rw [f_X11_cure_63]
    dsimp only
    rw [if_pos (nI_lt (by omega) (by omega))]
    rfl
  | m + 1, i, K, σ', hi, hK, s, hf => by
    obtain ⟨K, rfl⟩ := Nat.exists_eq_add_one_of_ne_zero (show K ≠ 0 by omega)
    have hS := h.1
    have hR : RF lw σ'.2.1 := by rw [s.2]; exact h.2.1
    have s1 : SC σ' (sI (sI σ' 26 15 (F 15 + nI i)) 26 12 (nI (M - i))) := ((SC.rf _).wr rfl).wr rfl
    have nv : NV (sI (sI σ' 26 15 (F 15 + nI i)) 26 12 (nI (M - i))) (cfn F M i) := fun k hk => by
      unfold cfn
      by_cases k12 : k = 12
      · subst k12; rw [sI_eq]; rfl
      · by_cases k15 : k = 15
        · subst k15; rw [sI_nk (by omega), sI_eq]; rfl
        · rw [sI_nk k12, sI_nk k15, if_neg k15, if_neg k12, hf k hk k15 k12]
    obtain ⟨σ5, g1, g2, g3⟩ := c_val (σ := sI (sI σ' 26 15 (F 15 + nI i)) 26 12 (nI (M - i))) hS hR (k := 0) (by omega) (hP.sc h.2.1.lw (s.tr s1)) nv
    have p1 := x3_put hS (σ := σ') hR.r25_0 (k := 15) (by omega) (F 15 + nI i)
    have p2 := x3_put hS (σ := sI σ' 26 15 (F 15 + nI i)) hR.r25_0 (k := 12) (by omega) (nI (M - i))
    have E : f_X11_cure_63 (K + 1) L σ' 0 (F 15) (nI M) (nI i) = (if evc (KQ (cfn F M i)) c = 0 then f_X11_cure_63 K L σ5 0 (F 15) (nI M) (nI (i + 1)) else some (nI i, σ5)) := by
      rw [f_X11_cure_63]
      dsimp only
      rw [if_neg (nI_nlt (by omega) (by omega)), hR.r0_9, Option.bind_some]
      have p1' : f_X3_put L σ' 25 112 (F 15 + nI i) = some (sI σ' 26 15 (F 15 + nI i)) := p1
      have p2' : f_X3_put L (sI σ' 26 15 (F 15 + nI i)) 25 109 (nI M - nI i) = some (sI (sI σ' 26 15 (F 15 + nI i)) 26 12 (nI (M - i))) := by rw [pk_sub (by omega)]; exact p2
      have g1' : f_X1_valueOf L (sI (sI σ' 26 15 (F 15 + nI i)) 26 12 (nI (M - i))) lw 0 (some 25) = some (evc (KQ (cfn F M i)) c, σ5) := g1
      rw [p1', Option.bind_some, show (sI σ' 26 15 (F 15 + nI i)).2.1 0 9 = some 25 from hR.r0_9, Option.bind_some, p2', Option.bind_some, show (sI (sI σ' 26 15 (F 15 + nI i)) 26 12 (nI (M - i))).2.1 0 6 = some lw from hR.r0_6, Option.bind_some, show (sI (sI σ' 26 15 (F 15 + nI i)) 26 12 (nI (M - i))).2.1 0 9 = some 25 from hR.r0_9, g1', Option.bind_some, nI_1]
    rw [E]
    show ∃ σ2, _ = some ((if evc (KQ (cfn F M i)) c = 0 then cur (fun i => evc (KQ (cfn F M i)) c) m (i + 1) else nI i), σ2) ∧ _
    have s5 : SC σ' σ5 := s1.tr g2
    by_cases z : evc (KQ (cfn F M i)) c = 0
    · rw [if_pos z, if_pos z]
      obtain ⟨σ2, k1, k2⟩ := x11_curl h (F := F) hM hP m (i + 1) K σ5 (by omega) (by omega) (s.tr s5) (fun k hk k15 k12 => by
        rw [g3 k hk]
        unfold cfn
        rw [if_neg k15, if_neg k12])
      exact ⟨σ2, k1, s5.tr k2⟩
    · rw [if_neg z, if_neg z]
      exact ⟨σ5, rfl, s5⟩
theorem x12_curl (h : INVP nb nm nl nB nN td nt nw lw w L σ) {n a b fr M : Nat} {c : List Int32} {F : Nat → Int32} (hM : M ≤ 40) (hN : LPn n σ) (hP : LPk lw n σ 0 a b fr c) : ∀ m i K σ', i + 1 + m = M + 1 → m < K → SC σ σ' → NW σ' (cfn F M i) → ∃ σ2, f_X12_cure_52 K L σ' 37 (nI M) (nI (i + 1)) = some (cur (fun i => evc (KQ (cfn F M i)) c) m (i + 1), σ2) ∧ SC σ' σ2
  | 0, i, K, σ', hi, hK, s, hf => by
    obtain ⟨K, rfl⟩ := Nat.exists_eq_add_one_of_ne_zero (show K ≠ 0 by omega)
    refine ⟨σ', ?_, SC.rf _⟩
    rw [f_X12_cure_52]
    dsimp only
    rw [if_pos (nI_lt (by omega) (by omega))]
    rfl
  | m + 1, i, K, σ', hi, hK, s, hf => by
    obtain ⟨K, rfl⟩ := Nat.exists_eq_add_one_of_ne_zero (show K ≠ 0 by omega)
    have hS := h.1
    have hR : RF lw σ'.2.1 := by rw [s.2]; exact h.2.1
    have v1 : σ'.1 73 1 = F 15 + nI i := hf 1 (by omega)
    have v2 : σ'.1 73 2 = nI (M - i) := hf 2 (by omega)
    have s1 : SC σ' (sI (sI σ' 73 1 (F 15 + nI (i + 1))) 73 2 (nI (M - (i + 1)))) := ((SC.rf _).wr rfl).wr rfl
    have nv : NW (sI (sI σ' 73 1 (F 15 + nI (i + 1))) 73 2 (nI (M - (i + 1)))) (cfn F M (i + 1)) := fun k hk => by
      by_cases k2 : k = 2
      · subst k2; rw [sI_eq]; rfl
      · by_cases k1 : k = 1
        · subst k1; rw [sI_nk (by omega), sI_eq]; rfl
        · have nl : ∀ k, k < 13 → k ≠ 2 → k ≠ 1 → ltr k ≠ 15 ∧ ltr k ≠ 12 := by decide
          obtain ⟨n1, n2⟩ := nl k hk k2 k1
          have e := hf k hk
          unfold cfn at e ⊢
          rw [if_neg n1, if_neg n2] at e ⊢
          rw [sI_nk k2, sI_nk k1, e]
    obtain ⟨σ5, g1, g2, g3⟩ := r_val (σ := sI (sI σ' 73 1 (F 15 + nI (i + 1))) 73 2 (nI (M - (i + 1)))) hS hR (hN.sc (s.tr s1)) (k := 0) (by omega) (hP.sc h.2.1.lw (s.tr s1)) nv
    have E : f_X12_cure_52 (K + 1) L σ' 37 (nI M) (nI (i + 1)) = (if evc (KQ (cfn F M (i + 1))) c = 0 then f_X12_cure_52 K L σ5 37 (nI M) (nI (i + 1 + 1)) else some (nI (i + 1), σ5)) := by
      rw [f_X12_cure_52]
      dsimp only
      have g1' : f_X12_gives L (sI (sI σ' 73 1 (F 15 + nI (i + 1))) 73 2 (nI (M - (i + 1)))) 37 0 = some (evc (KQ (cfn F M (i + 1))) c, σ5) := g1
      have r1 : rI L σ' 73 1 = some (σ'.1 73 1) := rI_nI hS.l73 (i := 1) (by omega) (by omega)
      have w1 : wI L σ' 73 1 (F 15 + nI i + 1) = some (sI σ' 73 1 (F 15 + nI (i + 1))) := by
        have := wI_nI (L := L) (σ := σ') (v := F 15 + nI i + 1) hS.l73 (i := 1) (by omega) (by omega)
        rw [Int32.add_assoc, nI_1] at this ⊢
        exact this
      have r2 : rI L (sI σ' 73 1 (F 15 + nI (i + 1))) 73 2 = some (nI (M - i)) := by
        have := rI_nI (L := L) (σ := sI σ' 73 1 (F 15 + nI (i + 1))) hS.l73 (i := 2) (by omega) (by omega)
        rw [sI_nk (by omega), v2] at this
        exact this
      have w2 : wI L (sI σ' 73 1 (F 15 + nI (i + 1))) 73 2 (nI (M - i) - 1) = some (sI (sI σ' 73 1 (F 15 + nI (i + 1))) 73 2 (nI (M - (i + 1)))) := by
        have := wI_nI (L := L) (σ := sI σ' 73 1 (F 15 + nI (i + 1))) (v := nI (M - i) - 1) hS.l73 (i := 2) (by omega) (by omega)
        rw [show M - i = M - (i + 1) + 1 by omega, nI_pred] at this ⊢
        exact this
      rw [if_neg (nI_nlt (by omega) (by omega)), hR.r37_46, Option.bind_some, r1, Option.bind_some, Option.bind_some, v1, w1, Option.bind_some, show (sI σ' 73 1 (F 15 + nI (i + 1))).2.1 37 46 = some 73 from hR.r37_46, Option.bind_some, r2, Option.bind_some, Option.bind_some, w2, Option.bind_some, g1', Option.bind_some, nI_1]
    rw [E]
    show ∃ σ2, _ = some ((if evc (KQ (cfn F M (i + 1))) c = 0 then cur (fun i => evc (KQ (cfn F M i)) c) m (i + 1 + 1) else nI (i + 1)), σ2) ∧ _
    have s5 : SC σ' σ5 := s1.tr g2
    by_cases z : evc (KQ (cfn F M (i + 1))) c = 0
    · rw [if_pos z, if_pos z]
      obtain ⟨σ2, k1, k2⟩ := x12_curl h hM hN hP m (i + 1) K σ5 (by omega) (by omega) (s.tr s5) g3
      exact ⟨σ2, k1, s5.tr k2⟩
    · rw [if_neg z, if_neg z]
      exact ⟨σ5, rfl, s5⟩
theorem op_cure (h : INVP nb nm nl nB nN td nt nw lw w L σ) (x : Int32) : OPs L (f_X11_cure L σ 0 x) (fun σ1 => f_X12_cure L σ1 37 x) := by
  have h0 := h
  obtain ⟨hS, hR, ⟨⟨hnb, hnm, hnl, hnB, hnN, htd, hnt, hnw⟩, ⟨eb, eb'⟩, ⟨em, em'⟩, ⟨el, el'⟩, ⟨eB, eB'⟩, ⟨eN, eN'⟩, ⟨et, et'⟩, ⟨ep, ep'⟩, ew, ew'⟩, hBR, hME, hLI, hBA, hTA, hNO, hHA, hRU, hWA, hSH, hLA⟩ := id h
  rcases ixc x nB (by omega) with hx | ⟨j, hj, rfl⟩
  · refine ops_of (v := -1000000001) (σ1 := σ) (σ2 := σ) ?_ ?_ h.iv
    · unfold f_X11_cure
      rw [bAt_out eB hnB hx]
      rfl
    · unfold f_X12_cure
      rw [isBa_out eB' hnB hx]
      rfl
  obtain ⟨r, o, hb⟩ := hBA j hj
  have b1 := hb.1.1
  rcases law_cases h0 with ⟨a1, a2⟩ | ⟨a1, a2, hW⟩
  · refine ops_of (v := -1000000002) (σ1 := σ) (σ2 := σ) ?_ ?_ h.iv
    · unfold f_X11_cure
      rw [bAt_in hS hR eB hnB hj, b1, Option.bind_some, Option.elim_some, a1, if_pos rfl]
    · unfold f_X12_cure
      rw [isBa_in eB' hnB hj, Option.bind_some, if_neg (by decide), a2, if_pos rfl]
  obtain ⟨n, hN', e, fr, C, hC⟩ := hW.parts
  have hP := hC 0 (by omega)
  obtain ⟨σ1, g1, g2, g3⟩ := c_for h0 (k := 0) (by omega) hP hb hj (d := td) (by omega)
  have g1 : f_X11_lawFor L σ 0 (some (r + 80)) 0 (nI td) = some (evc (KQ (nmV σ j o td nb nm)) (C 0), σ1) := g1
  have C0 : f_X11_cure L σ 0 (nI j) = (if evc (KQ (nmV σ j o td nb nm)) (C 0) = 0 then (σ1.2.1 0 9).bind fun x10 => (f_X3_valueOf L σ1 x10 112).bind fun r11 => (σ1.2.1 0 9).bind fun x12 => (f_X3_valueOf L σ1 x12 109).bind fun r13 => (f_X11_cure_63 FU) L σ1 0 r11 r13 0 else some ((-1000000002), σ1)) := by
    unfold f_X11_cure
    rw [bAt_in hS hR eB hnB hj, b1, Option.bind_some, Option.elim_some, a1, if_neg (by decide), hR.r0_0, Option.bind_some, et, g1, Option.bind_some]
  have R0 : ∀ σ', SC σ σ' → ∃ σ2, SC σ' σ2 ∧ f_X12_cure L σ' 37 (nI j) = (if evc (KQ (nmV σ j o td nb nm)) (C 0) = 0 then (f_X12_knows L σ2 37 (nI j) (σ2.1 37 1)).bind fun σ12 => (σ12.2.1 37 46).bind fun x13 => (rI L σ12 x13 2).bind fun v14 => (f_X12_cure_52 FU) L σ12 37 v14 1 else some ((-1000000002), σ2)) := fun σ' s => by
    obtain ⟨σ2, k1, k2⟩ := r_for (h0.sc s) (k := 0) (by omega) (hN'.sc s) (hP.sc hR.lw s) (hb.sc hnm s) hj (d := td) (by omega)
    rw [show nmV σ' j o td nb nm = nmV σ j o td nb nm from funext fun i => nmV_sc s j o td nb nm i] at k1
    have k1 : f_X12_saysOn L σ' 37 (nI j) 0 (nI td) = some (evc (KQ (nmV σ j o td nb nm)) (C 0), σ2) := k1
    refine ⟨σ2, k2, ?_⟩
    have e16 : σ'.1 37 16 = nI nB := (s.at rfl).trans eB'
    have e27 : σ'.1 37 27 = 1 := (s.at rfl).trans a2
    have e1 : σ'.1 37 1 = nI td := (s.at rfl).trans et'
    unfold f_X12_cure
    rw [isBa_in e16 hnB hj, Option.bind_some, if_neg (by decide), e27, if_neg (by decide), e1, k1, Option.bind_some]
  by_cases z : evc (KQ (nmV σ j o td nb nm)) (C 0) = 0
  · rw [if_pos z] at C0
    obtain ⟨M, hM1, hM2, -⟩ := cnt_nat (cc σ j o td 12) nm
    have F12 : nmV σ j o td nb nm 12 = nI M := by rw [nmV_c (by omega) (by omega), hM2]
    have cf0 : cfn (nmV σ j o td nb nm) M 0 = nmV σ j o td nb nm := funext fun k => by
      unfold cfn
      by_cases k15 : k = 15
      · rw [if_pos k15, k15, nI_0, Int32.add_zero]
      · rw [if_neg k15]
        by_cases k12 : k = 12
        · rw [if_pos k12, k12, F12, Nat.sub_zero]
        · rw [if_neg k12]
    have hR1 : RF lw σ1.2.1 := by rw [g2.2]; exact hR
    have v15 : f_X3_valueOf L σ1 25 112 = some (nmV σ j o td nb nm 15) := by
      have := x3_valueOf hS hR1.r25_0 (k := 15) (by omega)
      rw [g3 15 (by omega)] at this
      exact this
    have v12 : f_X3_valueOf L σ1 25 109 = some (nI M) := by
      have := x3_valueOf hS hR1.r25_0 (k := 12) (by omega)
      rw [g3 12 (by omega), F12] at this
      exact this
    obtain ⟨σ2, k1, k2⟩ := x11_curl h0 (F := nmV σ j o td nb nm) (M := M) (by omega) hP (M + 1) 0 FU σ1 (by omega) (FU_lt (by omega)) g2 (fun k hk _ _ => g3 k hk)
    have k1 : f_X11_cure_63 FU L σ1 0 (nmV σ j o td nb nm 15) (nI M) 0 = some (cur (fun i => evc (KQ (cfn (nmV σ j o td nb nm) M i)) (C 0)) (M + 1) 0, σ2) := k1
    have ce : cur (fun i => evc (KQ (cfn (nmV σ j o td nb nm) M i)) (C 0)) (M + 1) 0 = cur (fun i => evc (KQ (cfn (nmV σ j o td nb nm) M i)) (C 0)) M 1 := by
      show (if evc (KQ (cfn (nmV σ j o td nb nm) M 0)) (C 0) = 0 then _ else _) = _
      rw [cf0, if_pos z]
    rw [hR1.r0_9, Option.bind_some, v15, Option.bind_some, Option.bind_some, v12, Option.bind_some, k1, ce] at C0
    have s2 := g2.tr k2
    obtain ⟨σ3, m1, m2⟩ := R0 σ2 s2
    rw [if_pos z] at m2
    have s3 := s2.tr m1
    have e1 : σ3.1 37 1 = nI td := (s3.at rfl).trans et'
    obtain ⟨σ4, n1, n2, n3⟩ := x12_knows (h0.sc s3) (hb.sc hnm s3) hj (d := td) (by omega)
    rw [show nmV σ3 j o td nb nm = nmV σ j o td nb nm from funext fun i => nmV_sc s3 j o td nb nm i] at n3
    have s4 := s3.tr n2
    have hR4 : RF lw σ4.2.1 := by rw [s4.2]; exact hR
    obtain ⟨σ5, p1, p2⟩ := x12_curl h0 (F := nmV σ j o td nb nm) (M := M) (by omega) hN' hP M 0 FU σ4 (by omega) (FU_lt (by omega)) s4 (by rw [cf0]; exact n3)
    have p1 : f_X12_cure_52 FU L σ4 37 (nI M) 1 = some (cur (fun i => evc (KQ (cfn (nmV σ j o td nb nm) M i)) (C 0)) M 1, σ5) := p1
    have r2 : rI L σ4 73 2 = some (nI M) := by
      have := rI_nI (L := L) (σ := σ4) hS.l73 (i := 2) (by omega) (by omega)
      rw [n3 2 (by omega), show ltr 2 = 12 from rfl, F12] at this
      exact this
    rw [e1, n1, Option.bind_some, hR4.r37_46, Option.bind_some, r2, Option.bind_some, p1] at m2
    exact ops_of C0 m2 (h0.sc (s4.tr p2)).iv
  · rw [if_neg z] at C0
    obtain ⟨σ2, k2, k1⟩ := R0 σ1 g2
    rw [if_neg z] at k1
    exact ops_of C0 k1 (h0.sc (g2.tr k2)).iv
def hfn (F : Nat → Int32) (x y z : Int32) (k : Nat) : Int32 := if k = 2 then z else if k = 11 then y else if k = 0 then x else F k
theorem op_holds (h : INVP nb nm nl nB nN td nt nw lw w L σ) (x : Int32) : OPs L (f_X11_holds L σ 0 x) (fun σ1 => f_X12_holds L σ1 37 x) := by
  have h0 := h
  obtain ⟨hS, hR, ⟨⟨hnb, hnm, hnl, hnB, hnN, htd, hnt, hnw⟩, ⟨eb, eb'⟩, ⟨em, em'⟩, ⟨el, el'⟩, ⟨eB, eB'⟩, ⟨eN, eN'⟩, ⟨et, et'⟩, ⟨ep, ep'⟩, ew, ew'⟩, hBR, hME, hLI, hBA, hTA, hNO, hHA, hRU, hWA, hSH, hLA⟩ := id h
  rcases ixc x nN (by omega) with hx | ⟨j, hj, rfl⟩
  · refine ops_of (v := -1000000001) (σ1 := σ) (σ2 := σ) ?_ ?_ h.iv
    · unfold f_X11_holds
      rw [nAt_out eN hnN hx]
      rfl
    · unfold f_X12_holds
      rw [eN', x12_in, wi_out L σ hx (by omega)]
      rfl
  obtain ⟨r', bb, g, f, ⟨n1, n2, n3⟩, ⟨n4, n5, n6, n7⟩, ⟨n8, n9⟩, ⟨n10, n11⟩, ⟨n12, n13⟩, n14, n15⟩ := hNO j hj
  obtain ⟨r, o, hb⟩ := hBA bb n4
  have b1 := hb.1.1
  obtain ⟨b, ⟨hb01, hx, hy⟩, hbl⟩ := li_ex h0 hb n4 (d := f) (by omega)
  obtain ⟨σ1, g1, g2⟩ := hx σ (SC.rf σ)
  dsimp only at g1
  have C0 : f_X11_holds L σ 0 (nI j) = (if b = 0 then some (0, σ1) else (f_X0_tellNames L σ1 (r + 80) (σ1.2.1 0 9) (σ1.1 (r' + 80) 1)).bind fun σ9 => (σ9.2.1 0 9).bind fun x12 => (f_X3_put L σ9 x12 97 ((σ9.1 (r' + 80) 2) - (σ9.1 (r' + 80) 1))).bind fun σ13 => (σ13.2.1 0 9).bind fun x15 => (f_X3_put L σ13 x15 108 (σ13.1 (r' + 80) 3)).bind fun σ16 => (σ16.2.1 0 9).bind fun x18 => (f_X3_put L σ16 x18 99 (σ16.1 (r' + 80) 4)).bind fun σ19 => (σ19.2.1 0 6).bind fun x20 => (f_X1_valueOf L σ19 x20 1 (σ19.2.1 0 9)).bind fun r21 => (if r21.1 = 0 then (f_X11_holds_116) L r21.2 0 else (f_X11_holds_116) L r21.2 1)) := by
    unfold f_X11_holds
    rw [nAt_in hS hR eN hnN hj, n1, Option.bind_some, Option.elim_some, Option.bind_some, n8, bAt_in hS hR eB hnB n4, b1, Option.bind_some, Option.elim_some, Option.bind_some, n12, g1, Option.bind_some]
    rfl
  have R0 : ∀ σ', SC σ σ' → ∃ σ2, SC σ' σ2 ∧ f_X12_holds L σ' 37 (nI j) = (if b = 0 then some (0, σ2) else (σ2.2.1 37 31).bind fun x7 => (rI L σ2 x7 (nI j)).bind fun v8 => (f_X12_knows L σ2 37 (nI bb) v8).bind fun σ9 => (σ9.2.1 37 32).bind fun x10 => (rI L σ9 x10 (nI j)).bind fun v11 => (σ9.2.1 37 31).bind fun x12 => (rI L σ9 x12 (nI j)).bind fun v13 => (σ9.2.1 37 46).bind fun x14 => (wI L σ9 x14 10 (v11 - v13)).bind fun σ15 => (σ15.2.1 37 33).bind fun x16 => (rI L σ15 x16 (nI j)).bind fun v17 => (σ15.2.1 37 46).bind fun x18 => (wI L σ15 x18 11 v17).bind fun σ19 => (σ19.2.1 37 34).bind fun x20 => (rI L σ19 x20 (nI j)).bind fun v21 => (σ19.2.1 37 46).bind fun x22 => (wI L σ19 x22 12 v21).bind fun σ23 => (f_X12_gives L σ23 37 1).bind fun r24 => (if r24.1 = 0 then some (0, r24.2) else some (1, r24.2))) := fun σ' s => by
    obtain ⟨σ2, k1, k2⟩ := hy σ' s
    dsimp only at k1
    have hR' : RF lw σ'.2.1 := by rw [s.2]; exact hR
    have e29 : σ'.1 37 29 = nI nN := (s.at rfl).trans eN'
    refine ⟨σ2, k2, ?_⟩
    unfold f_X12_holds
    rw [e29, x12_in, wi_in L σ' hj (by omega), Option.bind_some, if_neg (by decide), hR'.r37_30, Option.bind_some, rI_nI hS.l58 (by omega) (by omega), Option.bind_some, hR'.r37_32, Option.bind_some, rI_nI hS.l60 (by omega) (by omega), Option.bind_some, s.at (a := 58) rfl, s.at (a := 60) rfl, n9, n13, k1, Option.bind_some]
  rcases hb01 with z | z
  · rw [if_pos z] at C0
    obtain ⟨σ2, k2, k1⟩ := R0 σ1 g2
    rw [if_pos z] at k1
    exact ops_of C0 k1 (h0.sc (g2.tr k2)).iv
  have bz : ¬ b = 0 := by rw [z]; decide
  rw [if_neg bz] at C0
  obtain ⟨n, hN', e, fr, C, hC⟩ := (hbl z).parts
  have hP := hC 1 (by omega)
  have hi : ∀ {σ'} (s : SC σ σ') (k : Nat), σ'.1 (r' + 80) k = σ.1 (r' + 80) k := fun s k => s.at (scr_hi (by omega))
  -- the class
  obtain ⟨σ9, t1, t2, t3⟩ := x0_tellNames (h0.sc g2) (hb.sc hnm g2) n4 (d := g) (by omega)
  rw [show nmV σ1 bb o g nb nm = nmV σ bb o g nb nm from funext fun i => nmV_sc g2 bb o g nb nm i] at t3
  have s9 := g2.tr t2
  have hR1 : RF lw σ1.2.1 := by rw [g2.2]; exact hR
  have hR9 : RF lw σ9.2.1 := by rw [s9.2]; exact hR
  have p1 : f_X3_put L σ9 25 97 (nI f - nI g) = some (sI σ9 26 0 (nI f - nI g)) := x3_put hS hR9.r25_0 (k := 0) (by omega) _
  have p2 : f_X3_put L (sI σ9 26 0 (nI f - nI g)) 25 108 (σ.1 61 j) = some (sI (sI σ9 26 0 (nI f - nI g)) 26 11 (σ.1 61 j)) := x3_put (σ := sI σ9 26 0 (nI f - nI g)) hS hR9.r25_0 (k := 11) (by omega) _
  have p3 : f_X3_put L (sI (sI σ9 26 0 (nI f - nI g)) 26 11 (σ.1 61 j)) 25 99 (σ.1 62 j) = some (sI (sI (sI σ9 26 0 (nI f - nI g)) 26 11 (σ.1 61 j)) 26 2 (σ.1 62 j)) := x3_put (σ := sI (sI σ9 26 0 (nI f - nI g)) 26 11 (σ.1 61 j)) hS hR9.r25_0 (k := 2) (by omega) _
  have s19 : SC σ9 (sI (sI (sI σ9 26 0 (nI f - nI g)) 26 11 (σ.1 61 j)) 26 2 (σ.1 62 j)) := (((SC.rf _).wr rfl).wr rfl).wr rfl
  have nv : NV (sI (sI (sI σ9 26 0 (nI f - nI g)) 26 11 (σ.1 61 j)) 26 2 (σ.1 62 j)) (hfn (nmV σ bb o g nb nm) (nI f - nI g) (σ.1 61 j) (σ.1 62 j)) := fun k hk => by
    unfold hfn
    by_cases k2 : k = 2
    · rw [if_pos k2, k2, sI_eq]
    · rw [if_neg k2, sI_nk k2]
      by_cases k11 : k = 11
      · rw [if_pos k11, k11, sI_eq]
      · rw [if_neg k11, sI_nk k11]
        by_cases k0 : k = 0
        · rw [if_pos k0, k0, sI_eq]
        · rw [if_neg k0, sI_nk k0, t3 k hk]
  obtain ⟨σ20, q1, q2, -⟩ := c_val (σ := sI (sI (sI σ9 26 0 (nI f - nI g)) 26 11 (σ.1 61 j)) 26 2 (σ.1 62 j)) hS hR9 (k := 1) (by omega) (hP.sc hR.lw (s9.tr s19)) nv
  generalize hV : evc (KQ (hfn (nmV σ bb o g nb nm) (nI f - nI g) (σ.1 61 j) (σ.1 62 j))) (C 1) = V at q1
  have q1 : f_X1_valueOf L (sI (sI (sI σ9 26 0 (nI f - nI g)) 26 11 (σ.1 61 j)) 26 2 (σ.1 62 j)) lw 1 (some 25) = some (V, σ20) := q1
  have sF := (s9.tr s19).tr q2
  have i1 : σ1.1 (r' + 80) 1 = nI g := (hi g2 1).trans n10
  have i2 : σ9.1 (r' + 80) 2 = nI f := (hi s9 2).trans n12
  have i3 : σ9.1 (r' + 80) 1 = nI g := (hi s9 1).trans n10
  have i4 : (sI σ9 26 0 (nI f - nI g)).1 (r' + 80) 3 = σ.1 61 j := (sI_ne (by omega)).trans ((hi s9 3).trans n14)
  have i5 : (sI (sI σ9 26 0 (nI f - nI g)) 26 11 (σ.1 61 j)).1 (r' + 80) 4 = σ.1 62 j := (sI_ne (by omega)).trans ((sI_ne (by omega)).trans ((hi s9 4).trans n15))
  rw [hR1.r0_9, i1, t1, Option.bind_some, hR9.r0_9, Option.bind_some, i2, i3, p1, Option.bind_some, show (sI σ9 26 0 (nI f - nI g)).2.1 0 9 = some 25 from hR9.r0_9, Option.bind_some, i4, p2, Option.bind_some, show (sI (sI σ9 26 0 (nI f - nI g)) 26 11 (σ.1 61 j)).2.1 0 9 = some 25 from hR9.r0_9, Option.bind_some, i5, p3, Option.bind_some, show (sI (sI (sI σ9 26 0 (nI f - nI g)) 26 11 (σ.1 61 j)) 26 2 (σ.1 62 j)).2.1 0 6 = some lw from hR9.r0_6, Option.bind_some, show (sI (sI (sI σ9 26 0 (nI f - nI g)) 26 11 (σ.1 61 j)) 26 2 (σ.1 62 j)).2.1 0 9 = some 25 from hR9.r0_9, q1, Option.bind_some] at C0
  have C1 : f_X11_holds L σ 0 (nI j) = some (b3 (¬ V = 0), σ20) := by
    rw [C0]
    dsimp only
    by_cases y : V = 0
    · rw [if_pos y, b3_f (fun u => u y)]; rfl
    · rw [if_neg y, b3_t y]; rfl
  -- the reference
  obtain ⟨σ2, m1, m2⟩ := R0 σ20 sF
  rw [if_neg bz] at m2
  have s2 := sF.tr m1
  have hR2 : RF lw σ2.2.1 := by rw [s2.2]; exact hR
  obtain ⟨τ, u1, u2, u3⟩ := x12_knows (h0.sc s2) (hb.sc hnm s2) n4 (d := g) (by omega)
  rw [show nmV σ2 bb o g nb nm = nmV σ bb o g nb nm from funext fun i => nmV_sc s2 bb o g nb nm i] at u3
  have sτ := s2.tr u2
  have hRτ : RF lw τ.2.1 := by rw [sτ.2]; exact hR
  have w1 : wI L τ 73 10 (nI f - nI g) = some (sI τ 73 10 (nI f - nI g)) := wI_nI hS.l73 (i := 10) (by omega) (by omega)
  have w2 : wI L (sI τ 73 10 (nI f - nI g)) 73 11 (σ.1 61 j) = some (sI (sI τ 73 10 (nI f - nI g)) 73 11 (σ.1 61 j)) := wI_nI hS.l73 (i := 11) (by omega) (by omega)
  have w3 : wI L (sI (sI τ 73 10 (nI f - nI g)) 73 11 (σ.1 61 j)) 73 12 (σ.1 62 j) = some (sI (sI (sI τ 73 10 (nI f - nI g)) 73 11 (σ.1 61 j)) 73 12 (σ.1 62 j)) := wI_nI hS.l73 (i := 12) (by omega) (by omega)
  have sE : SC τ (sI (sI (sI τ 73 10 (nI f - nI g)) 73 11 (σ.1 61 j)) 73 12 (σ.1 62 j)) := (((SC.rf _).wr rfl).wr rfl).wr rfl
  have nw' : NW (sI (sI (sI τ 73 10 (nI f - nI g)) 73 11 (σ.1 61 j)) 73 12 (σ.1 62 j)) (hfn (nmV σ bb o g nb nm) (nI f - nI g) (σ.1 61 j) (σ.1 62 j)) := fun k hk => by
    by_cases k2 : k = 12
    · subst k2; rw [sI_eq]; rfl
    · rw [sI_nk k2]
      by_cases k11 : k = 11
      · subst k11; rw [sI_eq]; rfl
      · rw [sI_nk k11]
        by_cases k0 : k = 10
        · subst k0; rw [sI_eq]; rfl
        · have nl : ∀ k, k < 13 → (k = 12 ∨ k = 11 ∨ k = 10) ∨ (ltr k ≠ 2 ∧ ltr k ≠ 11 ∧ ltr k ≠ 0) := by decide
          obtain ⟨l1, l2, l3⟩ := (nl k hk).resolve_left (fun u => by omega)
          unfold hfn
          rw [if_neg l1, if_neg l2, if_neg l3, sI_nk k0, u3 k hk]
  obtain ⟨σ30, v1, v2, -⟩ := r_val (σ := sI (sI (sI τ 73 10 (nI f - nI g)) 73 11 (σ.1 61 j)) 73 12 (σ.1 62 j)) hS hRτ (hN'.sc (sτ.tr sE)) (k := 1) (by omega) (hP.sc hR.lw (sτ.tr sE)) nw'
  rw [hV] at v1
  have v1 : f_X12_gives L (sI (sI (sI τ 73 10 (nI f - nI g)) 73 11 (σ.1 61 j)) 73 12 (σ.1 62 j)) 37 1 = some (V, σ30) := v1
  have y1 : rI L σ2 59 (nI j) = some (nI g) := by rw [rI_nI hS.l59 (by omega) (by omega), s2.at (a := 59) rfl, n11]
  have y2 : rI L τ 60 (nI j) = some (nI f) := by rw [rI_nI hS.l60 (by omega) (by omega), sτ.at (a := 60) rfl, n13]
  have y3 : rI L τ 59 (nI j) = some (nI g) := by rw [rI_nI hS.l59 (by omega) (by omega), sτ.at (a := 59) rfl, n11]
  have y4 : rI L (sI τ 73 10 (nI f - nI g)) 61 (nI j) = some (σ.1 61 j) := by rw [rI_nI hS.l61 (by omega) (by omega), sI_ne (by omega), sτ.at (a := 61) rfl]
  have y5 : rI L (sI (sI τ 73 10 (nI f - nI g)) 73 11 (σ.1 61 j)) 62 (nI j) = some (σ.1 62 j) := by rw [rI_nI hS.l62 (by omega) (by omega), sI_ne (by omega), sI_ne (by omega), sτ.at (a := 62) rfl]
  rw [hR2.r37_31, Option.bind_some, y1, Option.bind_some, u1, Option.bind_some, hRτ.r37_32, Option.bind_some, y2, Option.bind_some, hRτ.r37_31, Option.bind_some, y3, Option.bind_some, hRτ.r37_46, Option.bind_some, w1, Option.bind_some, show (sI τ 73 10 (nI f - nI g)).2.1 37 33 = some 61 from hRτ.r37_33, Option.bind_some, y4, Option.bind_some, show (sI τ 73 10 (nI f - nI g)).2.1 37 46 = some 73 from hRτ.r37_46, Option.bind_some, w2, Option.bind_some, show (sI (sI τ 73 10 (nI f - nI g)) 73 11 (σ.1 61 j)).2.1 37 34 = some 62 from hRτ.r37_34, Option.bind_some, y5, Option.bind_some, show (sI (sI τ 73 10 (nI f - nI g)) 73 11 (σ.1 61 j)).2.1 37 46 = some 73 from hRτ.r37_46, Option.bind_some, w3, Option.bind_some, v1, Option.bind_some] at m2
  have M1 : f_X12_holds L σ20 37 (nI j) = some (b3 (¬ V = 0), σ30) := by
    rw [m2]
    dsimp only
    by_cases y : V = 0
    · rw [if_pos y, b3_f (fun u => u y)]
    · rw [if_neg y, b3_t y]
  exact ops_of C1 M1 (h0.sc ((sτ.tr sE).tr v2)).iv
end
