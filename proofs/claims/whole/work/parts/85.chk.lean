/-! check -/
/-- the answer from row m on, d rows to go -/
def rwA (nw : Nat) (g v : Nat → Int32) : Nat → Nat → Int32
  | 0, m => if nw ≤ m then 0 else nI (1 + m)
  | d + 1, m => if m < nw ∧ g m = v m then rwA nw g v d (m + 1) else nI (1 + m)
/-- what a row must say -/
def rwV (F A c B : Nat) (m : Nat) : Int32 := if m % 2 = 0 then nI (if B.testBit (m / 2) = true then 1 else 0) else nI (F + (m / 2 + 1) * A - c * pcN B (m / 2 + 1))
theorem rwV_0 (F A c B k : Nat) : rwV F A c B (2 * k) = nI (if B.testBit k = true then 1 else 0) := by
  unfold rwV
  rw [if_pos (by omega), show 2 * k / 2 = k by omega]
theorem rwV_1 (F A c B k : Nat) : rwV F A c B (2 * k + 1) = nI (F + (k + 1) * A - c * pcN B (k + 1)) := by
  unfold rwV
  rw [if_neg (by omega), show (2 * k + 1) / 2 = k by omega]
theorem lad (m n : Nat) : (no_index (OfNat.ofNat n) : Int32) + nI m = nI (OfNat.ofNat n + m) := nI_add n m
section
variable {nb nm nl nB nN td nt nw lw : Nat} {w : Nat → Nat} {L : Lay} {σ : Sto}
theorem x6_told (hS : SF L) (hR : RF lw σ.2.1) (hnw : nw ≤ 30) {m : Nat} (hm : m < 100) (v : Int32) : f_X6_isTold L σ 28 (nI m) v (nI nw) = some (b3 (m < nw ∧ σ.1 31 m = v)) := by
  unfold f_X6_isTold
  by_cases q1 : nw ≤ m
  · rw [if_pos ((nI_leI (by omega) (by omega)).mpr q1), ck0, b3_f (fun u => by omega)]
    rfl
  · rw [if_neg (fun u => q1 ((nI_leI (by omega) (by omega)).mp u)), if_neg (fun u => by have := (nI_leI (a := 30) (b := m) (by omega) (by omega)).mp u; omega), hR.r28_2, Option.bind_some, rI_nI hS.l31 (by omega) (by omega), Option.bind_some]
    by_cases q2 : σ.1 31 m = v
    · rw [if_pos q2, ck1, b3_t ⟨by omega, q2⟩]
      rfl
    · rw [if_neg q2, ck0, b3_f (fun u => q2 u.2)]
      rfl
theorem x6_rows (hS : SF L) (hR : RF lw σ.2.1) (hnw : nw ≤ 30) {n c l F A B : Nat} (hn : n ≤ 12) (e5 : σ.1 28 5 = nI n) (e6 : σ.1 28 6 = nI c) (e8 : σ.1 28 8 = nI B) (eA : σ.1 30 2 = nI A) (hB : B < 4096) (o : OKN F A c l B n) : ∀ d k K, k + d = n → d < K → f_X6_compareRows_9 K L σ 28 (nI nw) (nI (F + k * A - c * pcN B k)) (nI k) = some (rwA nw (σ.1 31) (rwV F A c B) (2 * d) (2 * k))
  | 0, k, K, hk, hK => by
    obtain ⟨K, rfl⟩ := Nat.exists_eq_add_one_of_ne_zero (show K ≠ 0 by omega)
    obtain rfl : k = n := by omega
    rw [f_X6_compareRows_9]
    dsimp only
    rw [e5, if_pos ((nI_leI (by omega) (by omega)).mpr (Nat.le_refl _)), mul_lit]
    show _ = some (if nw ≤ 2 * k then 0 else nI (1 + 2 * k))
    by_cases q : nw ≤ 2 * k
    · rw [if_pos ((nI_leI (by omega) (by omega)).mpr q), if_pos q]
    · rw [if_neg (fun u => q ((nI_leI (by omega) (by omega)).mp u)), if_neg q, lad]
  | d + 1, k, K, hk, hK => by
    obtain ⟨K, rfl⟩ := Nat.exists_eq_add_one_of_ne_zero (show K ≠ 0 by omega)
    have ih := x6_rows hS hR hnw hn e5 e6 e8 eA hB o d (k + 1) K (by omega) (by omega)
    have r2 : rI L σ 30 2 = some (nI A) := by rw [show rI L σ 30 2 = some (σ.1 30 2) from rI_nI (i := 2) hS.l30 (by omega) (by omega), eA]
    have i1 : ¬ nI n ≤ nI k := fun u => by have := (nI_leI (by omega) (by omega)).mp u; omega
    have hp : c * pcN B k ≤ F + k * A := OKN_f k (OKN_le (by omega) o)
    have hp1 : c * pcN B (k + 1) ≤ F + (k + 1) * A := OKN_f (k + 1) (OKN_le (by omega) o)
    have sA : (k + 1) * A = k * A + A := Nat.succ_mul k A
    have ef : nI (F + k * A - c * pcN B k) + (nI A - nI (if B.testBit k = true then 1 else 0) * nI c) = nI (F + (k + 1) * A - c * pcN B (k + 1)) := by
      have e1 : c * pcN B (k + 1) = c * pcN B k + (if B.testBit k = true then 1 else 0) * c := by
        show c * (pcN B k + (if B.testBit k = true then 1 else 0)) = _
        rw [Nat.mul_add, Nat.mul_comm c (if B.testBit k = true then 1 else 0)]
      rw [pk_mul, Int32.sub_eq_add_neg, ← Int32.add_assoc, nI_add, ← Int32.sub_eq_add_neg, pk_sub (by omega)]
      congr 1
      omega
    rw [f_X6_compareRows_9]
    dsimp only
    rw [e5, if_neg i1, hR.r28_1, Option.bind_some, r2, Option.bind_some, e8, e6, bitv (by omega) (by omega), ef, mul_lit, x6_told hS hR hnw (by omega), Option.bind_some, show nI (2 * k) + 1 = nI (2 * k + 1) from by rw [nI_1], x6_told hS hR hnw (by omega)]
    show _ = some (if 2 * k < nw ∧ σ.1 31 (2 * k) = rwV F A c B (2 * k) then (if 2 * k + 1 < nw ∧ σ.1 31 (2 * k + 1) = rwV F A c B (2 * k + 1) then rwA nw (σ.1 31) (rwV F A c B) (2 * d) (2 * k + 1 + 1) else nI (1 + (2 * k + 1))) else nI (1 + 2 * k))
    rw [rwV_0, rwV_1]
    by_cases q1 : 2 * k < nw ∧ σ.1 31 (2 * k) = nI (if B.testBit k = true then 1 else 0)
    · rw [b3_t q1, if_neg (by decide), if_pos q1, Option.bind_some]
      by_cases q2 : 2 * k + 1 < nw ∧ σ.1 31 (2 * k + 1) = nI (F + (k + 1) * A - c * pcN B (k + 1))
      · rw [b3_t q2, if_neg (by decide), if_pos q2, show nI k + 1 = nI (k + 1) from by rw [nI_1], ih]
        rfl
      · rw [b3_f q2, if_pos rfl, if_neg q2, lad]
        congr 2
        omega
    · rw [b3_f q1, if_pos rfl, if_neg q1, lad]
theorem x12_rows (hS : SF L) (hR : RF lw σ.2.1) (hnw : nw ≤ 30) {n c l F A B : Nat} {g : Nat → Int32} (hg : ∀ m, m < nw → σ.1 67 m = g m) (hn : n ≤ 12) (eF : σ.1 64 0 = nI F) (eA : σ.1 64 2 = nI A) (hF : F ≤ 1000000) (hA : A ≤ 9999) (hc : c ≤ 400000) (hB : B < 4096) (o : OKN F A c l B n) : ∀ d m K, m + d = 2 * n → d < K → f_X12_check_40 K L σ 37 (nI n) (nI nw) (nI B) (nI c) (nI m) = some (rwA nw g (rwV F A c B) d m, σ)
  | 0, m, K, hm, hK => by
    obtain ⟨K, rfl⟩ := Nat.exists_eq_add_one_of_ne_zero (show K ≠ 0 by omega)
    obtain rfl : m = 2 * n := by omega
    rw [f_X12_check_40]
    dsimp only
    rw [mul_lit, if_pos ((nI_leI (by omega) (by omega)).mpr (Nat.le_refl _))]
    show _ = some ((if nw ≤ 2 * n then 0 else nI (1 + 2 * n)), σ)
    by_cases q : nw ≤ 2 * n
    · rw [if_pos ((nI_leI (by omega) (by omega)).mpr q), if_pos q]
    · rw [if_neg (fun u => q ((nI_leI (by omega) (by omega)).mp u)), if_neg q, lad]
  | d + 1, m, K, hm, hK => by
    obtain ⟨K, rfl⟩ := Nat.exists_eq_add_one_of_ne_zero (show K ≠ 0 by omega)
    have ih := x12_rows hS hR hnw hg hn eF eA hF hA hc hB o d (m + 1) K (by omega) (by omega)
    have i1 : ¬ nI (2 * n) ≤ nI m := fun u => by have := (nI_leI (by omega) (by omega)).mp u; omega
    have e81 : f_X12_check_81 (f_X12_check_40 K) L σ 37 (nI n) (nI nw) (nI B) (nI c) (nI m) (rwV F A c B m) = some (rwA nw g (rwV F A c B) (d + 1) m, σ) := by
      show _ = some ((if m < nw ∧ g m = rwV F A c B m then rwA nw g (rwV F A c B) d (m + 1) else nI (1 + m)), σ)
      unfold f_X12_check_81
      by_cases q1 : nw ≤ m
      · rw [if_pos ((nI_leI (by omega) (by omega)).mpr q1), if_neg (fun u => by omega), lad]
      · rw [if_neg (fun u => q1 ((nI_leI (by omega) (by omega)).mp u)), hR.r37_40, Option.bind_some, rI_nI hS.l67 (by omega) (by omega), Option.bind_some, hg m (by omega)]
        by_cases q2 : g m = rwV F A c B m
        · rw [if_pos q2, if_pos ⟨by omega, q2⟩, show nI m + 1 = nI (m + 1) from by rw [nI_1], ih]
        · rw [if_neg q2, if_neg (fun u => q2 u.2), lad]
    have t2 : ¬ (2 : Int32) = 0 := by decide
    have er : rm (nI m) 2 = some (nI (m % 2)) := by
      show (if (2 : Int32) = 0 then none else some (nI m - nI m / nI 2 * nI 2)) = _
      rw [if_neg t2, pk_rem (by omega) (by omega) (by omega)]
    have ed : dv (nI m) 2 = some (nI (m / 2)) := by
      show (if (2 : Int32) = 0 then none else some (nI m / nI 2)) = _
      rw [if_neg t2, pk_div (by omega) (by omega) (by omega)]
    rw [f_X12_check_40]
    dsimp only
    rw [mul_lit, if_neg i1, er, Option.bind_some]
    by_cases q : m % 2 = 0
    · rw [q, if_pos nI_0, ed, Option.bind_some, bitv (by omega) (by omega), ← e81]
      unfold rwV
      rw [if_pos q]
    · rw [if_neg (nI_ne0 (by omega) (by omega)), ed, Option.bind_some, show nI (m / 2) + 1 = nI (m / 2 + 1) from by rw [nI_1]]
      obtain ⟨r, z1, z2⟩ := x12_fund (L := L) (σ := σ) (T := B) (n := m / 2 + 1) hS hR eF eA hF hA hc hB (by omega)
      have hr : r = nI (F + (m / 2 + 1) * A - c * pcN B (m / 2 + 1)) := by
        rcases z2 with ⟨a, -⟩ | ⟨-, b⟩
        · exact a
        · exact absurd (fun i hi t => (o i (by omega) t).1) b
      rw [z1, Option.bind_some, hr, ← e81]
      congr 1
      unfold rwV
      rw [if_neg q]
theorem rwA_c {nw : Nat} {g g' v : Nat → Int32} (h : ∀ m, m < nw → g m = g' m) : ∀ d m, rwA nw g v d m = rwA nw g' v d m
  | 0, _ => rfl
  | d + 1, m => by
    show (if m < nw ∧ g m = v m then rwA nw g v d (m + 1) else nI (1 + m)) = (if m < nw ∧ g' m = v m then rwA nw g' v d (m + 1) else nI (1 + m))
    by_cases q : m < nw
    · rw [h m q, rwA_c h d]
    · rw [if_neg (fun u => q u.1), if_neg (fun u => q u.1)]
theorem SC.bo {σ σ' : Sto} (h : SC σ σ') (a k : Nat) (v : Int32) : SC (sI σ a k v) (sI σ' a k v) := ⟨fun a' k' p => by
  rw [sI_at, sI_at]
  by_cases q : a' = a ∧ k' = k
  · rw [if_pos q, if_pos q]
  · rw [if_neg q, if_neg q]
    exact h.1 a' k' p, h.2⟩
theorem PLN.eq {σ σ' : Sto} {nm td j n c l F A : Nat} {H : Nat → Nat} (s : ∀ a k, 29 ≤ a → a ≤ 64 → a ≠ 32 → a ≠ 37 → σ'.1 a k = σ.1 a k) (h : PLN σ nm td j n c l F A H) : PLN σ' nm td j n c l F A H := by
  have s1 : ∀ a k, 43 ≤ a → a ≤ 46 → σ'.1 a k = σ.1 a k := fun a k h1 h2 => s a k (by omega) (by omega) (by omega) (by omega)
  have e29 : ∀ k, σ'.1 29 k = σ.1 29 k := fun k => s _ k (by omega) (by omega) (by omega) (by omega)
  have e30 : ∀ k, σ'.1 30 k = σ.1 30 k := fun k => s _ k (by omega) (by omega) (by omega) (by omega)
  have e38 : ∀ k, σ'.1 38 k = σ.1 38 k := fun k => s _ k (by omega) (by omega) (by omega) (by omega)
  have e40 : ∀ k, σ'.1 40 k = σ.1 40 k := fun k => s _ k (by omega) (by omega) (by omega) (by omega)
  have e41 : ∀ k, σ'.1 41 k = σ.1 41 k := fun k => s _ k (by omega) (by omega) (by omega) (by omega)
  have e49 : ∀ k, σ'.1 49 k = σ.1 49 k := fun k => s _ k (by omega) (by omega) (by omega) (by omega)
  have e63 : ∀ k, σ'.1 63 k = σ.1 63 k := fun k => s _ k (by omega) (by omega) (by omega) (by omega)
  have e64 : ∀ k, σ'.1 64 k = σ.1 64 k := fun k => s _ k (by omega) (by omega) (by omega) (by omega)
  have ec : ∀ z d p n, cst σ' z d p n = cst σ z d p n := fun z d p n => itr_congr n 0 (fun i _ x => by
    simp only [inS_eq s1, e40, e41])
  have ev : ∀ z d, vtC σ' z d = vtC σ z d := fun z d => funext fun i => by
    unfold vtC
    exact decide_eq_decide.mpr (by rw [inS_eq s1, ofS_eq s1, e38])
  unfold PLN at h ⊢
  simp only [ec, ev, e29, e30, e49, e63, e64]
  exact h
theorem op_check (h : INVP nb nm nl nB nN td nt nw lw w L σ) (x y : Int32) : OPs L (f_X11_check L σ 0 x y) (fun σ1 => f_X12_check L σ1 37 x y) := by
  have h0 := h
  have hN := h.hN
  obtain ⟨hS, hR, ⟨⟨hnb, hnm, hnl, hnB, hnN, htd, hnt, hnw⟩, ⟨eb, eb'⟩, ⟨em, em'⟩, ⟨el, el'⟩, ⟨eB, eB'⟩, ⟨eN, eN'⟩, ⟨et, et'⟩, ⟨ep, ep'⟩, ew, ew'⟩, hBR, hME, hLI, hBA, hTA, hNO, hHA, hRU, hWA, hSH, hLA⟩ := id h
  have h1 : ∃ _ : True, INVP nb nm nl nB nN td nt 0 lw w L (sI (sI σ 28 3 (nI 0)) 37 39 (nI 0)) := by
    refine ⟨trivial, hS, hR, ⟨⟨by omega, by omega, by omega, by omega, by omega, by omega, by omega, by omega⟩, ⟨by simp (disch := omega) only [sI_eq, sI_ne, sI_nk, sI_21, eb, eb', em, em', el, el', eB, eB', eN, eN', et, et', ep, ep', ew, ew'], by simp (disch := omega) only [sI_eq, sI_ne, sI_nk, sI_21, eb, eb', em, em', el, el', eB, eB', eN, eN', et, et', ep, ep', ew, ew']⟩, ⟨by simp (disch := omega) only [sI_eq, sI_ne, sI_nk, sI_21, eb, eb', em, em', el, el', eB, eB', eN, eN', et, et', ep, ep', ew, ew'], by simp (disch := omega) only [sI_eq, sI_ne, sI_nk, sI_21, eb, eb', em, em', el, el', eB, eB', eN, eN', et, et', ep, ep', ew, ew']⟩, ⟨by simp (disch := omega) only [sI_eq, sI_ne, sI_nk, sI_21, eb, eb', em, em', el, el', eB, eB', eN, eN', et, et', ep, ep', ew, ew'], by simp (disch := omega) only [sI_eq, sI_ne, sI_nk, sI_21, eb, eb', em, em', el, el', eB, eB', eN, eN', et, et', ep, ep', ew, ew']⟩, ⟨by simp (disch := omega) only [sI_eq, sI_ne, sI_nk, sI_21, eb, eb', em, em', el, el', eB, eB', eN, eN', et, et', ep, ep', ew, ew'], by simp (disch := omega) only [sI_eq, sI_ne, sI_nk, sI_21, eb, eb', em, em', el, el', eB, eB', eN, eN', et, et', ep, ep', ew, ew']⟩, ⟨by simp (disch := omega) only [sI_eq, sI_ne, sI_nk, sI_21, eb, eb', em, em', el, el', eB, eB', eN, eN', et, et', ep, ep', ew, ew'], by simp (disch := omega) only [sI_eq, sI_ne, sI_nk, sI_21, eb, eb', em, em', el, el', eB, eB', eN, eN', et, et', ep, ep', ew, ew']⟩, ⟨by simp (disch := omega) only [sI_eq, sI_ne, sI_nk, sI_21, eb, eb', em, em', el, el', eB, eB', eN, eN', et, et', ep, ep', ew, ew'], by simp (disch := omega) only [sI_eq, sI_ne, sI_nk, sI_21, eb, eb', em, em', el, el', eB, eB', eN, eN', et, et', ep, ep', ew, ew']⟩, ⟨by simp (disch := omega) only [sI_eq, sI_ne, sI_nk, sI_21, eb, eb', em, em', el, el', eB, eB', eN, eN', et, et', ep, ep', ew, ew'], by simp (disch := omega) only [sI_eq, sI_ne, sI_nk, sI_21, eb, eb', em, em', el, el', eB, eB', eN, eN', et, et', ep, ep', ew, ew']⟩, by simp (disch := omega) only [sI_eq, sI_ne, sI_nk, sI_21, eb, eb', em, em', el, el', eB, eB', eN, eN', et, et', ep, ep', ew, ew'], by simp (disch := omega) only [sI_eq, sI_ne, sI_nk, sI_21, eb, eb', em, em', el, el', eB, eB', eN, eN', et, et', ep, ep', ew, ew']⟩, hBR.fr (((AG.rf _ _).wr rfl).wr rfl), hME.f (by omega) (by omega) (fun i _ => (((AG.rf _ _).wr rfl).wr rfl)) rfl, hLI.fr (((AG.rf _ _).wr rfl).wr rfl), hBA.f hnm (by omega) (by omega) (fun j _ => (((AG.rf _ _).wr rfl).wr rfl)) rfl, hTA.fr (((AG.rf _ _).wr rfl).wr rfl), hNO.f (by omega) (by omega) (fun j _ => (((AG.rf _ _).wr rfl).wr rfl)) rfl, hHA.fr (((AG.rf _ _).wr rfl).wr rfl), hRU.fr (((AG.rf _ _).wr rfl).wr rfl), fun i hi => absurd hi (by omega), hSH.fr (((AG.rf _ _).wr rfl).wr rfl), hLA.fr hR.lw (((AG.rf _ _).wr rfl).wr rfl)⟩
  obtain ⟨-, h1⟩ := h1
  have ep : putI σ 28 3 0 = some (sI σ 28 3 (nI 0)) := rfl
  have ep' : ∀ σ', putI σ' 37 39 0 = some (sI σ' 37 39 (nI 0)) := fun _ => rfl
  have eB3 : (sI σ 28 3 (nI 0)).1 0 3 = nI nB := by simp (disch := omega) only [sI_ne, eB]
  rcases pl_cases hnB x y with hx | ⟨j, n, hj, n1, n2, rfl, rfl⟩
  · refine ops_of (v := -1000000001) (σ1 := sI σ 28 3 (nI 0)) (σ2 := sI (sI σ 28 3 (nI 0)) 37 39 (nI 0)) ?_ ?_ h1.iv
    · simp only [f_X11_check, hR.r0_12, ep, mk_out (σ := sI σ 28 3 (nI 0)) hS hR eB3 hnB hx (fun j hj => by obtain ⟨r, o, hb⟩ := hBA j hj; exact ⟨_, hb.1.1⟩), Option.bind_some, if_true]
    · simp only [f_X12_check, ep', isP_out (σ := sI (sI σ 28 3 (nI 0)) 37 39 (nI 0)) (show _ = nI nB by simp (disch := omega) only [sI_ne, sI_nk, eB']) hnB hx, Option.bind_some, if_true]
  · obtain ⟨r, o, hb⟩ := hBA j hj
    obtain ⟨c, l, F, A, H, hp⟩ := pln_ex h0 j n1 n2
    have b14 := hb.2.2.2.1.1
    have hd3 : RD nb nm td lw w L (sI σ 28 3 (nI 0)) := ⟨⟨hS, hR⟩, ⟨hnb, hnm, htd⟩, ⟨by simp (disch := omega) only [sI_ne, eb], by simp (disch := omega) only [sI_ne, eb']⟩, ⟨by simp (disch := omega) only [sI_ne, em], by simp (disch := omega) only [sI_ne, em']⟩, ⟨by simp (disch := omega) only [sI_ne, et], by simp (disch := omega) only [sI_ne, et']⟩, hBR.fr ((AG.rf _ _).wr rfl), hME.f (Nat.le_refl _) (Nat.le_refl _) (fun i _ => (AG.rf _ _).wr rfl) rfl⟩
    have hp3 : PLN (sI σ 28 3 (nI 0)) nm td j n c l F A H := hp.eq (fun a k h1 h2 h3 h4 => sI_ne (by omega))
    have hba : f_X11_ballotAt L (sI σ 28 3 (nI 0)) 0 (nI j) = some (some (r + 80)) := by
      rw [bAt_in (σ := sI σ 28 3 (nI 0)) hS hR eB3 hnB hj]
      exact congrArg some hb.1.1
    obtain ⟨σ2, B, g1, g2, g3⟩ := x11_make hd3 hba (by simp (disch := omega) only [sI_ne, b14]) hp3
    have s2 := g2.1
    have h4 := h1.sc (s2.bo 37 39 (nI 0))
    have hp4 : PLN (sI σ2 37 39 (nI 0)) nm td j n c l F A H := (hp3.sc s2).eq (fun a k h1 h2 h3 h4 => sI_ne (by omega))
    obtain ⟨C, k1, k2⟩ := x12_bestDays h4.rd (show j < 12 by omega) hp4
    obtain rfl := g3.un k2
    have k3 := x12_costOf h4.rd (show j < 12 by omega)
    rw [hp4.2.1] at k3
    have hR2 : RF lw σ2.2.1 := by rw [s2.2]; exact hR
    have h12 := p12 n2
    have hB4 : B < 4096 := by have := g3.1; omega
    obtain ⟨⟨p1, p2, p3, p4, p5, p6, p7⟩, -, -, ⟨q3, q4⟩, ⟨q5, q6⟩, -, -⟩ := hp3.sc s2
    have c0 := x6_rows (L := L) hS hR2 hnw n2 g2.2.1.1 g2.2.1.2.1 g2.2.2.2.1 q5 hB4 g3.2.1 n 0 FU (by omega) (FU_lt (by omega))
    rw [show F + 0 * A - c * pcN B 0 = F by rw [Nat.zero_mul, show pcN B 0 = 0 from rfl, Nat.mul_zero]; rfl, nI_0] at c0
    have e39 : σ2.1 37 39 = nI nw := by
      rw [s2.at rfl]
      simp (disch := omega) only [sI_ne, ew']
    have r0 : rI L σ2 30 0 = some (nI F) := by rw [show rI L σ2 30 0 = some (σ2.1 30 0) from rI_nI (i := 0) hS.l30 (by omega) (by omega), q3]
    have d0 := x12_rows (L := L) (σ := sI σ2 37 39 (nI 0)) (lw := lw) hS hR2 hnw (g := σ2.1 31) (fun m hm => by
      rw [sI_ne (by omega), s2.at rfl, s2.at rfl, sI_ne (by omega), sI_ne (by omega)]
      exact (hWA m hm).symm) n2 ((sI_ne (by omega)).trans q4) ((sI_ne (by omega)).trans q6) p5 p6 p3 hB4 g3.2.1 (2 * n) 0 FU (by omega) (FU_lt (by omega))
    refine ops_of (v := rwA nw (σ2.1 31) (rwV F A c B) (2 * n) 0) (σ1 := σ2) (σ2 := sI σ2 37 39 (nI 0)) ?_ ?_ h4.iv
    · simp only [f_X11_check, hR.r0_12, ep, g1, hR2.r0_12, f_X6_compareRows, hR2.r28_1, r0, ew, c0, Option.bind_some, if_false, one_ne0, Nat.mul_zero]
    · simp only [f_X12_check, ep', isP_in (σ := sI σ2 37 39 (nI 0)) (h4.2.2.1.2.2.2.2.1.2) hnB hj n1 n2, k1, k3, e39, Option.bind_some, if_false, one_ne0]
      exact d0
end
