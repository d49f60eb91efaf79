/-! name -/
def hasC (w n : Nat) (c : Int32) : Bool := (List.range n).any (fun i => decide (cnth (cal 1 w) i = c))
theorem hasC_t {w n : Nat} {c : Int32} {i : Nat} (hi : i < n) (h : cnth (cal 1 w) i = c) : hasC w n c = true := List.any_eq_true.mpr ⟨i, List.mem_range.mpr hi, decide_eq_true h⟩
theorem hasC_f {w n : Nat} {c : Int32} (h : ∀ i, i < n → ¬ cnth (cal 1 w) i = c) : hasC w n c = false := pf_of (fun u => by
  obtain ⟨i, h1, h2⟩ := List.any_eq_true.mp u
  exact h i (List.mem_range.mp h1) (of_decide_eq_true h2))
theorem ixChar (L : Lay) (σ : Sto) {w n : Nat} (hn : (cal 1 w).length = n) (hn2 : n ≤ 20) (c : Int32) : OK (f_J1_indexOfChar_4cfef_7 FU L σ w (nI n) c 0) (fun r => (r < 0) ↔ ¬ hasC w n c = true) := by
  refine loopI (F := fun k q => f_J1_indexOfChar_4cfef_7 k L σ w (nI n) c q) (I := fun i q => q = nI i ∧ ∀ k, k < i → ¬ cnth (cal 1 w) k = c) _ n ?_ ?_ (FU_lt (by omega)) (by exact ⟨nI_0.symm, fun k hk => absurd hk (by omega)⟩)
  · rintro i K s hi ⟨rfl, hI⟩
    have e : rC 1 w (nI i) = some (cnth (cal 1 w) i) := by
      unfold rC
      rw [if_pos (by rw [hn]; exact inb_nI hi (by omega)), nI_clamp (by omega)]
    simp (disch := omega) only [f_J1_indexOfChar_4cfef_7, nI_leI, show ¬ n ≤ i by omega, e, nI_1, if_false, Option.bind_some]
    by_cases q : cnth (cal 1 w) i = c
    · rw [if_pos q]
      exact Or.inr ⟨nI i, rfl, ⟨fun u => absurd u (nI_pos (by omega)), fun u => absurd (hasC_t hi q) u⟩⟩
    · rw [if_neg q]
      refine Or.inl ⟨_, rfl, rfl, fun k hk => ?_⟩
      by_cases z : k = i
      · subst z; exact q
      · exact hI k (by omega)
  · rintro K s ⟨rfl, hI⟩
    refine ⟨-1, ?_, ⟨fun _ => by rw [hasC_f hI]; decide, fun _ => by decide⟩⟩
    simp (disch := omega) only [f_J1_indexOfChar_4cfef_7, nI_leI, Nat.le_refl, if_true]
theorem j0_length (L : Lay) (σ : Sto) {w n : Nat} (hn : (cal 1 w).length = n) (hn2 : n ≤ 20) : f_J0_length_8abf5 L σ w = some (nI n) := by
  unfold f_J0_length_8abf5 f_J0_coder_7d493
  rw [if_neg (by decide), show ckN 3 0 = some () from by decide, hn]
  show some (nI n >>> ((0 : Int32) &&& 31)) = some (nI n)
  have := shr32 (n := n) (k := 0) (by omega) (by omega)
  rw [Nat.pow_zero, Nat.div_one] at this
  exact congrArg some this
theorem j0_indexOf (L : Lay) (σ : Sto) {w n : Nat} (hn : (cal 1 w).length = n) (hn1 : 1 ≤ n) (hn2 : n ≤ 20) {a : Nat} (ha : a < 128) : OK (f_J0_indexOf_0f7a4 L σ w (nI a)) (fun r => (r < 0) ↔ ¬ hasC w n (nI a) = true) := by
  have c1 : f_J1_canEncode_9a6ad L σ (nI a) = some 1 := by
    unfold f_J1_canEncode_9a6ad
    rw [if_neg (nI_pos (by omega)), if_neg (show ¬ (255 : Int32) < nI a from nI_nlt (a := 255) (by omega) (by omega)), ck1]
    rfl
  have c2 : (nI a).toInt8.toInt32 = nI a := by
    have : ∀ a, a < 128 → (nI a).toInt8.toInt32 = nI a := by decide +kernel
    exact this a ha
  obtain ⟨r, e, q⟩ := ixChar L σ hn hn2 (nI a)
  refine ⟨r, ?_, q⟩
  have m1 : (if (0 : Int32) < 0 then 0 else (0 : Int32)) = 0 := if_neg (by decide)
  have m2 : (if nI n < nI n then nI n else nI n) = nI n := ite_self _
  have m3 : (0 : Int32) < nI n := nI_lt (a := 0) (by omega) (by omega)
  unfold f_J0_indexOf_0f7a4 f_J0_indexOf_7cf53 f_J0_isLatin1_aae02 f_J1_indexOf_4cfef f_J1_indexOfChar_4cfef
  rw [if_neg (by decide), if_pos rfl, ck1, Option.bind_some, Option.bind_some, if_neg (by decide), j0_length L σ hn hn2, Option.bind_some, c1, Option.bind_some, if_neg (by decide), hn, m1, m2, if_pos m3, c2, e]
  rfl
theorem x1_isBallotName (L : Lay) (σ : Sto) {a : Nat} (ha : a < 128) : f_X1_isBallotName L σ (nI a) = some (b3 (hasC 0 10 (nI a) = true)) := by
  obtain ⟨r, e, q⟩ := j0_indexOf L σ (w := 0) (n := 10) rfl (by omega) (by omega) ha
  unfold f_X1_isBallotName
  rw [e, Option.bind_some, ck0, ck1, Option.bind_some, Option.bind_some]
  by_cases z : hasC 0 10 (nI a) = true
  · rw [if_neg (fun u => q.mp u z), b3_t z]
  · rw [if_pos (q.mpr z), b3_f z]
/-- the number of a name, by its letter -/
def nmq (k : Nat) : Int32 := [10, 4, 12, 9, 0, -1, -1, -1, -1, -1, -1, 11, 2, 7, -1, 1, -1, 5, -1, -1, -1, 8, -1, 3, 6, -1].getD k (-1)
theorem x12_nameOf (L : Lay) (σ : Sto) {k : Nat} (hk : k < 26) : f_X12_nameOf L σ (nI (97 + k)) = some (nmq k) := by
  have h : ∀ k, k < 26 → ∀ x : Int32, x = nI (97 + k) → (if x = 97 then some (10 : Int32) else (if x = 98 then some 4 else (if x = 99 then some 12 else (if x = 100 then some 9 else (if x = 101 then some 0 else (if x = 102 then some (-1) else (if x = 103 then some (-1) else (if x = 104 then some (-1) else (if x = 105 then some (-1) else (if x = 106 then some (-1) else (if x = 107 then some (-1) else (if x = 108 then some 11 else (if x = 109 then some 2 else (if x = 110 then some 7 else (if x = 111 then some (-1) else (if x = 112 then some 1 else (if x = 113 then some (-1) else (if x = 114 then some 5 else (if x = 115 then some (-1) else (if x = 116 then some (-1) else (if x = 117 then some (-1) else (if x = 118 then some 8 else (if x = 119 then some (-1) else (if x = 120 then some 3 else (if x = 121 then some 6 else some (-1)))))))))))))))))))))))))) = some (nmq k) := by
    intro k hk x hx
    subst hx
    have : ∀ k, k < 26 → (if nI (97 + k) = 97 then some (10 : Int32) else (if nI (97 + k) = 98 then some 4 else (if nI (97 + k) = 99 then some 12 else (if nI (97 + k) = 100 then some 9 else (if nI (97 + k) = 101 then some 0 else (if nI (97 + k) = 102 then some (-1) else (if nI (97 + k) = 103 then some (-1) else (if nI (97 + k) = 104 then some (-1) else (if nI (97 + k) = 105 then some (-1) else (if nI (97 + k) = 106 then some (-1) else (if nI (97 + k) = 107 then some (-1) else (if nI (97 + k) = 108 then some 11 else (if nI (97 + k) = 109 then some 2 else (if nI (97 + k) = 110 then some 7 else (if nI (97 + k) = 111 then some (-1) else (if nI (97 + k) = 112 then some 1 else (if nI (97 + k) = 113 then some (-1) else (if nI (97 + k) = 114 then some 5 else (if nI (97 + k) = 115 then some (-1) else (if nI (97 + k) = 116 then some (-1) else (if nI (97 + k) = 117 then some (-1) else (if nI (97 + k) = 118 then some 8 else (if nI (97 + k) = 119 then some (-1) else (if nI (97 + k) = 120 then some 3 else (if nI (97 + k) = 121 then some 6 else some (-1)))))))))))))))))))))))))) = some (nmq k) := by decide +kernel
    exact this k hk
  exact h k hk _ rfl
theorem x12_nameOf_no (L : Lay) (σ : Sto) {x : Int32} (h : ¬ (97 ≤ x ∧ x ≤ 122)) : f_X12_nameOf L σ x = some (-1) := by
  have n : ∀ k : Nat, k < 26 → ¬ x = nI (97 + k) := fun k hk e => h (by subst e; exact ⟨nI_le (a := 97) (by omega) (by omega), nI_le (b := 122) (by omega) (by omega)⟩)
  unfold f_X12_nameOf
  rw [if_neg (show ¬ x = 97 from n 0 (by omega)), if_neg (show ¬ x = 98 from n 1 (by omega)), if_neg (show ¬ x = 99 from n 2 (by omega)), if_neg (show ¬ x = 100 from n 3 (by omega)), if_neg (show ¬ x = 101 from n 4 (by omega)), if_neg (show ¬ x = 102 from n 5 (by omega)), if_neg (show ¬ x = 103 from n 6 (by omega)), if_neg (show ¬ x = 104 from n 7 (by omega)), if_neg (show ¬ x = 105 from n 8 (by omega)), if_neg (show ¬ x = 106 from n 9 (by omega)), if_neg (show ¬ x = 107 from n 10 (by omega)), if_neg (show ¬ x = 108 from n 11 (by omega)), if_neg (show ¬ x = 109 from n 12 (by omega)), if_neg (show ¬ x = 110 from n 13 (by omega)), if_neg (show ¬ x = 111 from n 14 (by omega)), if_neg (show ¬ x = 112 from n 15 (by omega)), if_neg (show ¬ x = 113 from n 16 (by omega)), if_neg (show ¬ x = 114 from n 17 (by omega)), if_neg (show ¬ x = 115 from n 18 (by omega)), if_neg (show ¬ x = 116 from n 19 (by omega)), if_neg (show ¬ x = 117 from n 20 (by omega)), if_neg (show ¬ x = 118 from n 21 (by omega)), if_neg (show ¬ x = 119 from n 22 (by omega)), if_neg (show ¬ x = 120 from n 23 (by omega)), if_neg (show ¬ x = 121 from n 24 (by omega))]
theorem nm_tab : ∀ k, k < 26 → (hasC 0 10 (nI (97 + k)) = true ↔ (0 ≤ nmq k ∧ nmq k ≤ 9)) ∧ ((0 ≤ nmq k ∧ nmq k ≤ 9) → ∃ q, q < 13 ∧ nmq k = nI q ∧ ltr q = k) := by
  intro k hk
  have t1 : ∀ k, k < 26 → (hasC 0 10 (nI (97 + k)) = true ↔ (0 ≤ nmq k ∧ nmq k ≤ 9)) := by decide +kernel
  have t2 : ∀ k, k < 26 → (0 ≤ nmq k ∧ nmq k ≤ 9) → ∃ q, q < 13 ∧ nmq k = nI q ∧ ltr q = k := by
    have : ∀ k, k < 26 → (0 ≤ nmq k ∧ nmq k ≤ 9) → (nmq k).toNatClampNeg < 13 ∧ nmq k = nI (nmq k).toNatClampNeg ∧ ltr (nmq k).toNatClampNeg = k := by decide +kernel
    exact fun k hk h => ⟨_, this k hk h⟩
  exact ⟨t1 k hk, t2 k hk⟩
theorem ch_of {a : Nat} (ha : a < 65536) : ((nI a).toUInt32 % 65536).toInt32 = nI a := by
  rw [pk_char, pk_tn (by omega), Nat.mod_eq_of_lt ha]
section
variable {nb nm nl nB nN td nt nw lw : Nat} {w : Nat → Nat} {L : Lay} {σ : Sto}
theorem op_name (h : INVP nb nm nl nB nN td nt nw lw w L σ) (x y z : Int32) : OPs L (f_X11_name L σ 0 x y z) (fun σ1 => f_X12_name L σ1 37 x y z) := by
  have h0 := h
  obtain ⟨hS, hR, ⟨⟨hnb, hnm, hnl, hnB, hnN, htd, hnt, hnw⟩, ⟨eb, eb'⟩, ⟨em, em'⟩, ⟨el, el'⟩, ⟨eB, eB'⟩, ⟨eN, eN'⟩, ⟨et, et'⟩, ⟨ep, ep'⟩, ew, ew'⟩, hBR, hME, hLI, hBA, hTA, hNO, hHA, hRU, hWA, hSH, hLA⟩ := id h
  rcases ixc x nB (by omega) with hx | ⟨j, hj, rfl⟩
  · refine ops_of (v := -1000000001) (σ1 := σ) (σ2 := σ) ?_ ?_ h.iv
    · unfold f_X11_name
      rw [bAt_out eB hnB hx]
      rfl
    · unfold f_X12_name
      rw [isBa_out eB' hnB hx]
      rfl
  · obtain ⟨r, o, hb⟩ := hBA j hj
    obtain ⟨⟨b1, b2, b3', b4, b5, b6⟩, ⟨b7, b8, b9, b10⟩, ⟨b11, b12, b13⟩, ⟨b14, b15, b17, b18, b19⟩, b20, b21, b22⟩ := id hb
    by_cases hy : 97 ≤ y ∧ y ≤ 122
    · have hy0 := hy
      obtain ⟨c, hc1, hc2, rfl⟩ := of_btw (a := 97) (b := 122) hy (by omega)
      obtain ⟨k, rfl⟩ : ∃ k, c = 97 + k := ⟨c - 97, by omega⟩
      have hk : k < 26 := by omega
      have nO := fun σ' => x12_nameOf L σ' hk
      have iB := x1_isBallotName L σ (a := 97 + k) (by omega)
      obtain ⟨t1, t2⟩ := nm_tab k hk
      by_cases hq : 0 ≤ nmq k ∧ nmq k ≤ 9
      · rw [b3_t (t1.mpr hq)] at iB
        obtain ⟨q, hq13, eq, lq⟩ := t2 hq
        by_cases hz : nI o ≤ z ∧ z ≤ nI td
        · obtain ⟨d, hd1, hd2, rfl⟩ := of_btw hz (by omega)
          obtain ⟨σ1, e1, js, v1⟩ := x0_tellNames h0 hb hj (d := d) (by omega)
          have h1 := h0.sc js
          obtain ⟨r', o', hb1⟩ := h1.2.2.2.2.2.2.1 j hj
          have eo : o' = o := by
            have a1 := hb1.2.2.2.1.2.2.2.1
            rw [js.at (a := 50) rfl, b18] at a1
            have a2 := hb1.2.2.2.1.2.2.2.2
            exact ((nI_eq (by omega) (by omega)).mp a1).symm
          subst eo
          obtain ⟨σ2, e2, ks, v2⟩ := x12_knows h1 hb1 hj (d := d) (by omega)
          have hR1 : RF lw σ1.2.1 := h1.2.1
          have hR2 : RF lw σ2.2.1 := (h1.sc ks).2.1
          refine ops_of (v := nmV σ j o' d nb nm k) (σ1 := σ1) (σ2 := σ2) ?_ ?_ (h1.sc ks).iv
          · have ik : f_X11_isKnownDay L σ 0 (some (r + 80)) (nI d) = some 1 := by
              simp only [f_X11_isKnownDay, hR.r0_0, b17, et, wi, b3_t hz, ck1, Option.bind_some]
            have vO := x3_valueOf hS hR1.r25_0 hk
            rw [v1 k hk] at vO
            unfold f_X11_name
            rw [bAt_in hS hR eB hnB hj, b1, Option.bind_some, Option.elim_some, isLt L σ hk, Option.bind_some, if_neg (by decide), ch_of (by omega), iB, Option.bind_some, if_neg (by decide), ik, Option.bind_some, if_neg (by decide), Option.bind_some, hR.r0_9, e1, Option.bind_some, hR1.r0_9, Option.bind_some, vO]
            rfl
          · have it : f_X12_isTime L σ1 37 (nI j) (nI d) = some 1 := by
              have a1 : σ1.1 50 j = nI o' := (js.at rfl).trans b18
              have a2 : σ1.1 37 1 = nI td := (js.at rfl).trans et'
              simp (disch := omega) only [f_X12_isTime, hR1.r37_18, rI_nI hS.l50, a1, a2, x12_in, wi, b3_t hz, ck1, Option.bind_some]
            have a3 : σ1.1 37 16 = nI nB := (js.at rfl).trans eB'
            have v73 := v2 q hq13
            rw [lq, nmV_sc js] at v73
            unfold f_X12_name
            rw [isBa_in a3 hnB hj, Option.bind_some, if_neg (by decide), nO, Option.bind_some, x12_in, wi, b3_t hq, Option.bind_some, if_neg (by decide), it, Option.bind_some, if_neg (by decide), e2, Option.bind_some, nO, Option.bind_some, hR2.r37_46, Option.bind_some, eq, rI_nI hS.l73 hq13 (by omega), v73]
            rfl
        · refine ops_of (v := -1000000001) (σ1 := σ) (σ2 := σ) ?_ ?_ h.iv
          · have ik : f_X11_isKnownDay L σ 0 (some (r + 80)) z = some 0 := by
              simp only [f_X11_isKnownDay, hR.r0_0, b17, et, wi, b3_f hz, ck0, Option.bind_some]
            unfold f_X11_name
            rw [bAt_in hS hR eB hnB hj, b1, Option.bind_some, Option.elim_some, isLt L σ hk, Option.bind_some, if_neg (by decide), ch_of (by omega), iB, Option.bind_some, if_neg (by decide), ik]
            rfl
          · have it : f_X12_isTime L σ 37 (nI j) z = some 0 := by
              simp (disch := omega) only [f_X12_isTime, hR.r37_18, rI_nI hS.l50, b18, et', x12_in, wi, b3_f hz, ck0, Option.bind_some]
            unfold f_X12_name
            rw [isBa_in eB' hnB hj, Option.bind_some, if_neg (by decide), nO, Option.bind_some, x12_in, wi, b3_t hq, Option.bind_some, if_neg (by decide), it]
            rfl
      · rw [b3_f (fun u => hq (t1.mp u))] at iB
        refine ops_of (v := -1000000001) (σ1 := σ) (σ2 := σ) ?_ ?_ h.iv
        · unfold f_X11_name
          rw [bAt_in hS hR eB hnB hj, b1, Option.bind_some, Option.elim_some, isLt L σ hk, Option.bind_some, if_neg (by decide), ch_of (by omega), iB]
          rfl
        · unfold f_X12_name
          rw [isBa_in eB' hnB hj, Option.bind_some, if_neg (by decide), nO, Option.bind_some, x12_in, wi, b3_f hq]
          rfl
    · refine ops_of (v := -1000000001) (σ1 := σ) (σ2 := σ) ?_ ?_ h.iv
      · have il : f_X11_isLetter L σ y = some 0 := by
          rw [x11_isL, b3_f hy]
        unfold f_X11_name
        rw [bAt_in hS hR eB hnB hj, b1, Option.bind_some, Option.elim_some, il]
        rfl
      · unfold f_X12_name
        rw [isBa_in eB' hnB hj, Option.bind_some, if_neg (by decide), x12_nameOf_no L σ hy, Option.bind_some, x12_in, wi, b3_f (by decide)]
        rfl
end
