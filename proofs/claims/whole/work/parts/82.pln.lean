/-! plan: the class makes one -/
/-- the best of all that are allowed -/
def BST (n c l F A : Nat) (H : Nat → Nat) (B : Nat) : Prop := B < 2 ^ n ∧ OKN F A c l B n ∧ ∀ T, T < 2 ^ n → OKN F A c l T n → ¬ btr H T B
theorem BST.un {n c l F A : Nat} {H : Nat → Nat} {B C : Nat} (h : BST n c l F A H B) (k : BST n c l F A H C) : B = C := btr_tot (k.2.2 B h.1 h.2.1) (h.2.2 C k.1 k.2.1)
theorem sx_step {H : Nat → Nat} {n t : Nat} (hn : n ≤ 12) (ht : t < n) : sxN H n 12 (t + 1) + H t = sxN H n 12 t := by
  have e := sxN_d (H := H) (n := n) 11 1 (t + 1) (by omega)
  rw [show sxN H n 12 (t + 1) = sxN H n (11 + 1) (t + 1) from rfl, e]
  show sxN H n 11 (t + 1) + H t = sxN H n 11 (t + 1) + (if t < n then H t else 0)
  rw [if_pos ht]
theorem nI_dn (t : Nat) : nI (t + 1) + (-1) = nI t := by
  rw [← Int32.sub_eq_add_neg, nI_pred]
section
variable {nb nm nl nB nN td nt nw lw : Nat} {w : Nat → Nat} {L : Lay} {σ : Sto}
theorem x6_make (hS : SF L) (hR0 : RF lw σ.2.1) {n c l F A : Nat} {H : Nat → Nat} (hH : ∀ k, H k ≤ 999) (hn0 : 1 ≤ n) (hn : n ≤ 12) (hc : c ≤ 400000) (hF : F ≤ 1000000) (hA : A ≤ 9999) (hl : l ≤ 12) (eF : σ.1 30 0 = nI F) (eA : σ.1 30 2 = nI A) (eH : ∀ k, k < 12 → σ.1 29 k = nI (H k)) : ∃ σ2 B, f_X6_make L σ 28 (nI n) (nI c) (nI l) = some σ2 ∧ CH n c l H B σ σ2 ∧ BST n c l F A H B := by
  have main : OK (f_X6_make_42 FU L (sI (sI (sI (sI (sI (sI σ 28 5 (nI n)) 28 6 (nI c)) 28 7 (nI l)) 28 8 0) 28 9 0) 32 12 0) 28 (nI l) 11) (fun σ2 => ∃ B, CH n c l H B σ σ2 ∧ BST n c l F A H B) := by
    refine loopI (F := fun f (q : Sto × Int32) => f_X6_make_42 f L q.1 28 (nI l) q.2) (I := fun m q => SC σ q.1 ∧ (q.1.1 28 5 = nI n ∧ q.1.1 28 6 = nI c ∧ q.1.1 28 7 = nI l) ∧ (∀ k, 12 - m ≤ k → k ≤ 12 → q.1.1 32 k = nI (sxN H n 12 k)) ∧ (q.1.1 28 8 = 0 ∧ q.1.1 28 9 = 0) ∧ q.2 = (if m = 12 then -1 else nI (11 - m))) (n := 12) (s := (sI (sI (sI (sI (sI (sI σ 28 5 (nI n)) 28 6 (nI c)) 28 7 (nI l)) 28 8 0) 28 9 0) 32 12 0, 11)) _ ?_ ?_ (FU_lt (by omega)) ?_
    · rintro m K ⟨σ', x⟩ hm ⟨c1, ⟨c2, c3, c4⟩, c5, ⟨c6, c7⟩, hx⟩
      left
      dsimp only at c1 c2 c3 c4 c5 c6 c7 hx ⊢
      rw [if_neg (by omega)] at hx
      subst hx
      obtain ⟨t, ht⟩ : ∃ t, 11 - m = t := ⟨_, rfl⟩
      rw [ht]
      have hR : RF lw σ'.2.1 := by rw [c1.2]; exact hR0
      have hx : nI t + (-1) = (if m + 1 = 12 then -1 else nI (11 - (m + 1))) := by
        by_cases q : m + 1 = 12
        · rw [if_pos q, show t = 0 by omega]; decide
        · rw [if_neg q, show t = (11 - (m + 1)) + 1 by omega, nI_dn]
      have n0 : ¬ nI t < 0 := nI_pos (by omega)
      have c7t := c5 (t + 1) (by omega) (by omega)
      have hi : ∀ v, (∀ k, 12 - (m + 1) ≤ k → k ≤ 12 → k ≠ t → σ'.1 32 k = nI (sxN H n 12 k)) → v = nI (sxN H n 12 t) → SC σ (sI σ' 32 t v) ∧ ((sI σ' 32 t v).1 28 5 = nI n ∧ (sI σ' 32 t v).1 28 6 = nI c ∧ (sI σ' 32 t v).1 28 7 = nI l) ∧ (∀ k, 12 - (m + 1) ≤ k → k ≤ 12 → (sI σ' 32 t v).1 32 k = nI (sxN H n 12 k)) ∧ ((sI σ' 32 t v).1 28 8 = 0 ∧ (sI σ' 32 t v).1 28 9 = 0) ∧ nI t + (-1) = (if m + 1 = 12 then -1 else nI (11 - (m + 1))) := fun v hk hv => by
        refine ⟨c1.wr rfl, ⟨?_, ?_, ?_⟩, fun k k1 k2 => ?_, ⟨?_, ?_⟩, hx⟩
        · simp (disch := omega) only [sI_ne, c2]
        · simp (disch := omega) only [sI_ne, c3]
        · simp (disch := omega) only [sI_ne, c4]
        · by_cases q : k = t
          · rw [q, sI_eq, hv]
          · rw [sI_nk q]; exact hk k k1 k2 q
        · simp (disch := omega) only [sI_ne, c6]
        · simp (disch := omega) only [sI_ne, c7]
      have hk : ∀ k, 12 - (m + 1) ≤ k → k ≤ 12 → k ≠ t → σ'.1 32 k = nI (sxN H n 12 k) := fun k k1 k2 k3 => c5 k (by omega) k2
      by_cases q : n ≤ t
      · refine ⟨(sI σ' 32 t 0, nI t + (-1)), ?_, hi 0 hk (by rw [sxN_z 12 t q, nI_0])⟩
        simp (disch := omega) only [f_X6_make_42, f_X6_make_83, n0, c2, nI_leI, q, hR.r28_4, wI_nI hS.l32, if_true, if_false, Option.bind_some]
      · have e9 : σ'.1 29 t = nI (H t) := (c1.at rfl).trans (eH t (by omega))
        refine ⟨(sI σ' 32 t (nI (sxN H n 12 (t + 1) + H t)), nI t + (-1)), ?_, hi _ hk (by rw [sx_step hn (by omega)])⟩
        simp (disch := omega) only [f_X6_make_42, f_X6_make_83, n0, c2, nI_leI, q, hR.r28_4, hR.r28_0, rI_nI hS.l32, rI_nI hS.l29, wI_nI hS.l32, c7t, e9, nI_1, nI_add, if_true, if_false, Option.bind_some]
    · rintro K ⟨σ', x⟩ ⟨c1, ⟨c2, c3, c4⟩, c5, ⟨c6, c7⟩, hx⟩
      dsimp only at c1 c2 c3 c4 c5 c6 c7 hx ⊢
      rw [if_pos rfl] at hx
      subst hx
      have hR : RF lw σ'.2.1 := by rw [c1.2]; exact hR0
      have e0 : rI L σ' 30 0 = some (nI F) := by rw [show rI L σ' 30 0 = some (σ'.1 30 0) from rI_nI (i := 0) hS.l30 (by omega) (by omega), c1.at rfl, eF]
      have h0 : hmN H 0 12 = 0 := hmN_up (H := H) (T := 0) (n := 0) (by omega) 12
      obtain ⟨σ2, B, g1, g2, g3, g4, -, g6⟩ := x6_choose (L := L) hS hR0 hH hn hc hF hA hl eA eH n 0 100 0 0 σ' (by omega) (by omega) (by omega) (OKN_0 _ _ _ _ _) (Nat.two_pow_pos n) (OKN_0 _ _ _ _ _) ⟨c1, ⟨c2, c3, c4⟩, fun k hk => c5 k (by omega) hk, by rw [c6, nI_0], by rw [c7, h0, nI_0]⟩
      have ea : nI (F + 0 * A - c * pcN 0 0) = nI F := by
        rw [show pcN 0 0 = 0 from rfl, Nat.zero_mul, Nat.mul_zero]; rfl
      rw [ea, show hmN H 0 0 = 0 from rfl, show rnN 0 0 = 0 from rfl, nI_0] at g1
      have m1 : (-1 : Int32) < 0 := by decide
      refine ⟨σ2, ?_, B, g2, g3, g4, fun T a b => g6 T a (fun k hk => absurd hk (by omega)) b⟩
      simp only [f_X6_make_42, f_X6_choose, m1, hR.r28_1, e0, g1, if_true, Option.bind_some]
    · refine ⟨(((((((SC.rf σ).wr rfl).wr rfl).wr rfl).wr rfl).wr rfl).wr rfl), ⟨?_, ?_, ?_⟩, fun k k1 k2 => ?_, ⟨?_, ?_⟩, rfl⟩
      · simp (disch := omega) only [sI_eq, sI_ne, sI_nk]
      · simp (disch := omega) only [sI_eq, sI_ne, sI_nk]
      · simp (disch := omega) only [sI_eq, sI_ne, sI_nk]
      · obtain rfl : k = 12 := by omega
        rw [sxN_z 12 12 hn, nI_0]
        exact sI_eq _ _ _ _
      · simp (disch := omega) only [sI_eq, sI_ne, sI_nk]
      · simp (disch := omega) only [sI_eq, sI_ne, sI_nk]
  obtain ⟨σ2, m1, B, m2, m3⟩ := main
  refine ⟨σ2, B, ?_, m2, m3⟩
  have w12 : ∀ σ, wI L σ 32 12 0 = some (sI σ 32 12 0) := fun σ => wI_nI (i := 12) hS.l32 (by omega) (by omega)
  have l12 : ¬ (12 : Int32) < nI n := fun u => by have := (nI_ltI (a := 12) (b := n) (by omega) (by omega)).mp u; omega
  simp only [f_X6_make, l12, Option.bind_some, Option.elim_some, Option.elim_none, wi, x12_in, b3_z, ckb, ck0, ck1, putI, putR, putJ, not_true_eq_false, not_false_eq_true, if_true, if_false, and_self, and_true, true_and, one_ne0, zero_eq0, ite_self, sI_eq, sI_ne, sI_nk, sI_21, sI_22, sJ_21, sJ_1]
  simp only [sI_21, hR0.r28_4, Option.bind_some, w12, m1]
/-- the cost as a number -/
theorem cst_n (h : RD nb nm td lw w L σ) (z d : Int32) {p : Nat} (hp : p ≤ 100) : ∀ n, n ≤ nm → ∃ c, c ≤ 10000 * n ∧ cst σ z d (nI p) n = nI c
  | 0, _ => ⟨0, by omega, nI_0.symm⟩
  | n + 1, hn => by
    obtain ⟨c, c1, c2⟩ := cst_n h z d hp n (by omega)
    have hm := h.2.1.2.1
    rw [cst_succ, c2]
    by_cases q : inS σ n z d
    · rw [if_pos q]
      obtain ⟨r, mv, cc, hm'⟩ := h.2.2.2.2.2.2 n (by omega)
      obtain ⟨a, g, ha, hg, e1, e2⟩ := hm'.2.2.2.2.2.2.2
      have b1 : a * g ≤ 48 * 999 := Nat.mul_le_mul ha hg
      have b2 : a * g / 5 ≤ 9591 := by omega
      have b3 : a * g / 5 * p ≤ 9591 * 100 := Nat.mul_le_mul b2 hp
      refine ⟨c + a * g / 5 * p / 100, by omega, ?_⟩
      rw [e1, e2, pk_mul, show (5 : Int32) = nI 5 from rfl, pk_div (by omega) (by omega) (by omega), pk_mul, show (100 : Int32) = nI 100 from rfl, pk_div (by omega) (by omega) (by omega), nI_add]
    · rw [if_neg q]
      exact ⟨c, by omega, rfl⟩
/-- what a plan is about -/
def PLN (σ : Sto) (nm td j n c l F A : Nat) (H : Nat → Nat) : Prop := (1 ≤ n ∧ n ≤ 12 ∧ c ≤ 400000 ∧ l ≤ 12 ∧ F ≤ 1000000 ∧ A ≤ 9999 ∧ ∀ k, H k ≤ 999) ∧ cst σ (σ.1 49 j) (nI td) (σ.1 64 1) nm = nI c ∧ nI l = (if any1 (vtC σ (σ.1 49 j) (nI td)) nm = 0 then σ.1 64 3 else 1) ∧ (σ.1 30 0 = nI F ∧ σ.1 64 0 = nI F) ∧ (σ.1 30 2 = nI A ∧ σ.1 64 2 = nI A) ∧ (σ.1 30 1 = σ.1 64 1 ∧ σ.1 30 3 = σ.1 64 3) ∧ ∀ k, k < 12 → σ.1 29 k = nI (H k) ∧ σ.1 63 k = nI (H k)
theorem pln_ex (h : INVP nb nm nl nB nN td nt nw lw w L σ) (j : Nat) {n : Nat} (h1 : 1 ≤ n) (h2 : n ≤ 12) : ∃ c l F A H, PLN σ nm td j n c l F A H := by
  have hd := h.rd
  obtain ⟨hS, hR, ⟨⟨hnb, hnm, hnl, hnB, hnN, htd, hnt, hnw⟩, ⟨eb, eb'⟩, ⟨em, em'⟩, ⟨el, el'⟩, ⟨eB, eB'⟩, ⟨eN, eN'⟩, ⟨et, et'⟩, ⟨ep, ep'⟩, ew, ew'⟩, hBR, hME, hLI, hBA, hTA, hNO, hHA, hRU, hWA, hSH, hLA⟩ := id h
  obtain ⟨-, F, -, f1, f2, f3⟩ := hRU 0 (by omega)
  obtain ⟨-, p, -, p1, p2, p3⟩ := hRU 1 (by omega)
  obtain ⟨-, A, -, a1, a2, a3⟩ := hRU 2 (by omega)
  obtain ⟨-, l, -, l1, l2, l3⟩ := hRU 3 (by omega)
  have f1 : F ≤ 1000000 := f1
  have p1 : p ≤ 100 := p1
  have a1 : A ≤ 9999 := a1
  have l1 : l ≤ 12 := l1
  obtain ⟨c, c1, c2⟩ := cst_n hd (σ.1 49 j) (nI td) p1 nm (Nat.le_refl _)
  have hh : ∀ k, ∃ v, v ≤ 999 ∧ (k < 12 → σ.1 29 k = nI v ∧ σ.1 63 k = nI v) := fun k => by
    by_cases q : k < 12
    · obtain ⟨v, v1, v2⟩ := hHA k q
      exact ⟨v, v1, fun _ => v2⟩
    · exact ⟨0, by omega, fun u => absurd u q⟩
  refine ⟨c, if any1 (vtC σ (σ.1 49 j) (nI td)) nm = 0 then l else 1, F, A, fun k => (hh k).choose, ⟨h1, h2, by omega, by split <;> omega, f1, a1, fun k => (hh k).choose_spec.1⟩, by rw [p3]; exact c2, ?_, ⟨f2, f3⟩, ⟨a2, a3⟩, ⟨p2.trans p3.symm, l2.trans l3.symm⟩, fun k hk => (hh k).choose_spec.2 hk⟩
  split
  · exact l3.symm
  · rfl
end
