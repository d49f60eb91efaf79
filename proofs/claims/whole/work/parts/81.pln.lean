/-! plan: the class chooses -/
section
variable {nb nm nl nB nN td nt nw lw : Nat} {w : Nat → Nat} {L : Lay} {σ : Sto}
def CH (n c l : Nat) (H : Nat → Nat) (B : Nat) (σ σ' : Sto) : Prop := SC σ σ' ∧ (σ'.1 28 5 = nI n ∧ σ'.1 28 6 = nI c ∧ σ'.1 28 7 = nI l) ∧ (∀ k, k ≤ 12 → σ'.1 32 k = nI (sxN H n 12 k)) ∧ σ'.1 28 8 = nI B ∧ σ'.1 28 9 = nI (hmN H B 12)
theorem d13 : ∀ p, p < 13 → ∀ q, q < 13 → ((0 < nI p - nI q ↔ q < p) ∧ (nI p - nI q = 0 ↔ p = q)) := by decide +kernel
theorem one12 : ∀ k, k < 12 → ((1 : Int32) <<< (nI k &&& 31)) = nI (2 ^ k) := by decide +kernel
theorem x6_keep {n c l : Nat} {H : Nat → Nat} (hH : ∀ k, H k ≤ 999) {B T : Nat} {σ' : Sto} (h : CH n c l H B σ σ') (hB : B < 4096) (hT : T < 4096) : ∃ σ2, f_X6_keepBetter L σ' 28 (nI T) (nI (hmN H T 12)) = some σ2 ∧ ((btr H T B ∧ CH n c l H T σ σ2) ∨ (¬ btr H T B ∧ CH n c l H B σ σ2)) := by
  obtain ⟨c1, ⟨c2, c3, c4⟩, c5, c6, c7⟩ := id h
  obtain ⟨d1, d2⟩ := d13 (pcN B 12) (by have := pcN_le B 12; omega) (pcN T 12) (by have := pcN_le T 12; omega)
  have hb := hmN_le hH B 12
  have ht := hmN_le hH T 12
  have w : f_X6_keepBetter_57 L σ' 28 (nI T) (nI (hmN H T 12)) = some (sI (sI σ' 28 8 (nI T)) 28 9 (nI (hmN H T 12))) := rfl
  have wc : CH n c l H T σ (sI (sI σ' 28 8 (nI T)) 28 9 (nI (hmN H T 12))) := by
    refine ⟨(c1.wr rfl).wr rfl, ⟨?_, ?_, ?_⟩, fun k hk => ?_, ?_, sI_eq _ _ _ _⟩
    · simp (disch := omega) only [sI_nk, c2]
    · simp (disch := omega) only [sI_nk, c3]
    · simp (disch := omega) only [sI_nk, c4]
    · simp (disch := omega) only [sI_ne, c5 k hk]
    · simp (disch := omega) only [sI_eq, sI_nk]
  have e : f_X6_keepBetter L σ' 28 (nI T) (nI (hmN H T 12)) = f_X6_keepBetter_34 L σ' 28 (nI T) (nI (hmN H T 12)) (nI (pcN B 12) - nI (pcN T 12)) (if pcN T 12 < pcN B 12 ∨ (pcN T 12 = pcN B 12 ∧ T < B) then 1 else 0) := by
    unfold f_X6_keepBetter f_X6_keepBetter_29 f_X6_keepBetter_33
    rw [c6, bc12 L σ' hB, Option.bind_some, bc12 L σ' hT, Option.bind_some]
    by_cases q1 : pcN T 12 < pcN B 12
    · rw [if_pos (d1.mpr q1), if_pos (Or.inl q1)]
    · rw [if_neg (fun u => q1 (d1.mp u))]
      by_cases q2 : pcN B 12 = pcN T 12
      · rw [if_pos (d2.mpr q2)]
        by_cases q3 : B ≤ T
        · rw [if_pos ((nI_leI (by omega) (by omega)).mpr q3), if_neg (fun u => u.elim q1 (fun v => by omega))]
        · rw [if_neg (fun u => q3 ((nI_leI (by omega) (by omega)).mp u)), if_pos (Or.inr ⟨q2.symm, by omega⟩)]
      · rw [if_neg (fun u => q2 (d2.mp u)), if_neg (fun u => u.elim q1 (fun v => q2 v.1.symm))]
  rw [e]
  unfold f_X6_keepBetter_34
  rw [c7]
  by_cases q1 : hmN H B 12 < hmN H T 12
  · rw [if_pos ((nI_ltI (by omega) (by omega)).mpr q1), w]
    exact ⟨_, rfl, Or.inl ⟨Or.inl q1, wc⟩⟩
  · rw [if_neg (fun u => q1 ((nI_ltI (by omega) (by omega)).mp u))]
    by_cases q2 : hmN H T 12 = hmN H B 12
    · rw [if_pos (congrArg nI q2)]
      by_cases q3 : pcN T 12 < pcN B 12 ∨ (pcN T 12 = pcN B 12 ∧ T < B)
      · rw [if_pos q3, if_neg (by decide), w]
        exact ⟨_, rfl, Or.inl ⟨Or.inr ⟨q2, q3⟩, wc⟩⟩
      · rw [if_neg q3, if_pos rfl]
        exact ⟨_, rfl, Or.inr ⟨fun u => u.elim q1 (fun v => q3 v.2), h⟩⟩
    · rw [if_neg (fun u => q2 ((nI_eq (by omega) (by omega)).mp u))]
      exact ⟨_, rfl, Or.inr ⟨fun u => u.elim q1 (fun v => q2 v.1), h⟩⟩
theorem p12 {n : Nat} (h : n ≤ 12) : 2 ^ n ≤ 4096 := show 2 ^ n ≤ 2 ^ 12 from Nat.pow_le_pow_right (by omega) h
theorem x6_choose (hS : SF L) (hR0 : RF lw σ.2.1) {n c l F A : Nat} {H : Nat → Nat} (hH : ∀ k, H k ≤ 999) (hn : n ≤ 12) (hc : c ≤ 400000) (hF : F ≤ 1000000) (hA : A ≤ 9999) (hl : l ≤ 12) (eA : σ.1 30 2 = nI A) (eH : ∀ k, k < 12 → σ.1 29 k = nI (H k)) : ∀ d i K T B σ', i + d = n → d < K → T < 2 ^ i → OKN F A c l T i → B < 2 ^ n → OKN F A c l B n → CH n c l H B σ σ' → ∃ σ2 B2, fg_ch K L σ' 28 (nI i) (nI T) (nI (hmN H T i)) (nI (F + i * A - c * pcN T i)) (nI (rnN T i)) = some σ2 ∧ CH n c l H B2 σ σ2 ∧ B2 < 2 ^ n ∧ OKN F A c l B2 n ∧ ¬ btr H B B2 ∧ ∀ T', T' < 2 ^ n → (∀ k, k < i → T'.testBit k = T.testBit k) → OKN F A c l T' n → ¬ btr H T' B2
  | 0, i, K, T, B, σ', hi, hK, hT, oT, hB, oB, hC => by
    obtain ⟨K, rfl⟩ := Nat.exists_eq_add_one_of_ne_zero (show K ≠ 0 by omega)
    obtain rfl : i = n := by omega
    have h4 := p12 hn
    obtain ⟨σ2, k1, k2⟩ := x6_keep (L := L) hH hC (show B < 4096 by omega) (show T < 4096 by omega)
    have e12 : hmN H T 12 = hmN H T i := by
      have := hmN_up (H := H) hT (12 - i)
      rw [show i + (12 - i) = 12 by omega] at this
      exact this
    rw [e12] at k1
    have e : fg_ch (K + 1) L σ' 28 (nI i) (nI T) (nI (hmN H T i)) (nI (F + i * A - c * pcN T i)) (nI (rnN T i)) = some σ2 := by
      show fb_X6_choose (fg_ch K) L σ' 28 (nI i) (nI T) (nI (hmN H T i)) (nI (F + i * A - c * pcN T i)) (nI (rnN T i)) = some σ2
      unfold fb_X6_choose f_X6_choose_14
      rw [hC.2.1.1, if_pos ((nI_leI (by omega) (by omega)).mpr (Nat.le_refl i)), k1, Option.bind_some]
    rcases k2 with ⟨k2, k3⟩ | ⟨k2, k3⟩
    · refine ⟨σ2, T, e, k3, hT, oT, fun u => btr_ir (btr_tr u k2), fun T' hT' ha _ => ?_⟩
      rw [ext_n hT hT' ha]
      exact btr_ir
    · refine ⟨σ2, B, e, k3, hB, oB, btr_ir, fun T' hT' ha _ => ?_⟩
      rw [ext_n hT hT' ha]
      exact k2
  | d + 1, i, K, T, B, σ', hi, hK, hT, oT, hB, oB, hC => by
    obtain ⟨K, rfl⟩ := Nat.exists_eq_add_one_of_ne_zero (show K ≠ 0 by omega)
    have ihd := x6_choose hS hR0 hH hn hc hF hA hl eA eH d (i + 1) K
    have h4 := p12 hn
    have hp : c * pcN T i ≤ F + i * A := OKN_f i oT
    have hpl := pcN_le T i
    have hrl := rnN_le T i
    have hhl := hmN_le hH T i
    have hbl := hmN_le hH B 12
    have hsl := sxN_le hH (n := n) 12 i
    have hiA : i * A ≤ 12 * 9999 := Nat.mul_le_mul (by omega) hA
    have sA : (i + 1) * A = i * A + A := Nat.succ_mul i A
    have bi : T.testBit i = false := Nat.testBit_lt_two_pow hT
    have hT1 : T < 2 ^ (i + 1) := Nat.lt_trans hT (Nat.pow_lt_pow_right (by omega) (by omega))
    have o1 : OKN F A c l T (i + 1) := fun k hk q => by
      rcases Nat.lt_or_ge k i with z | z
      · exact oT k z q
      · obtain rfl : k = i := by omega
        rw [bi] at q
        cases q
    have z1 : hmN H T (i + 1) = hmN H T i := by
      show hmN H T i + (if T.testBit i = true then H i else 0) = _
      rw [bi, if_neg (by decide)]; rfl
    have z2 : pcN T (i + 1) = pcN T i := by
      show pcN T i + (if T.testBit i = true then 1 else 0) = _
      rw [bi, if_neg (by decide)]; rfl
    have z3 : rnN T (i + 1) = 0 := by
      show (if T.testBit i = true then rnN T i + 1 else 0) = _
      rw [bi, if_neg (by decide)]
    have z4 : F + (i + 1) * A - c * pcN T (i + 1) = (F + i * A - c * pcN T i) + A := by rw [z2, sA]; omega
    have skip : ∀ σ1 B1, B1 < 2 ^ n → OKN F A c l B1 n → CH n c l H B1 σ σ1 → ∃ σ2 B2, f_X6_choose_106 (fg_ch K) L σ1 28 (nI i) (nI T) (nI (hmN H T i)) (nI (F + i * A - c * pcN T i) + nI A) = some σ2 ∧ CH n c l H B2 σ σ2 ∧ B2 < 2 ^ n ∧ OKN F A c l B2 n ∧ ¬ btr H B1 B2 ∧ ∀ T', T' < 2 ^ n → (∀ k, k < i + 1 → T'.testBit k = T.testBit k) → OKN F A c l T' n → ¬ btr H T' B2 := fun σ1 B1 a1 a2 a3 => by
      obtain ⟨σ2, B2, g1, g2⟩ := ihd T B1 σ1 (by omega) (by omega) hT1 o1 a1 a2 a3
      rw [z1, z3, z4, nI_0] at g1
      refine ⟨σ2, B2, ?_, g2⟩
      unfold f_X6_choose_106
      rw [nI_add, nI_1, g1]
      rfl
    obtain ⟨c1, ⟨c2, c3, c4⟩, c5, c6, c7⟩ := id hC
    have hR : RF lw σ'.2.1 := by rw [c1.2]; exact hR0
    have eA' : rI L σ' 30 2 = some (nI A) := by rw [show rI L σ' 30 2 = some (σ'.1 30 2) from rI_nI (i := 2) hS.l30 (by omega) (by omega), c1.at rfl, eA]
    have eH' : rI L σ' 29 (nI i) = some (nI (H i)) := by rw [rI_nI hS.l29 (by omega) (by omega), c1.at rfl, eH i (by omega)]
    have eS' : rI L σ' 32 (nI i) = some (nI (sxN H n 12 i)) := by rw [rI_nI hS.l32 (by omega) (by omega), c5 i (by omega)]
    have i1 : ¬ nI n ≤ nI i := fun u => by have := (nI_leI (by omega) (by omega)).mp u; omega
    have i2 : nI i < 12 := (nI_ltI (a := i) (b := 12) (by omega) (by omega)).mpr (by omega)
    have agr : ∀ T' : Nat, (∀ k, k < i → T'.testBit k = T.testBit k) → T'.testBit i = false → ∀ k, k < i + 1 → T'.testBit k = T.testBit k := fun T' ha hb k hk => by
      rcases Nat.lt_or_ge k i with z | z
      · exact ha k z
      · obtain rfl : k = i := by omega
        rw [hb, bi]
    show ∃ σ2 B2, fb_X6_choose (fg_ch K) L σ' 28 (nI i) (nI T) (nI (hmN H T i)) (nI (F + i * A - c * pcN T i)) (nI (rnN T i)) = some σ2 ∧ _
    unfold fb_X6_choose
    rw [c2, if_neg i1, if_pos i2, hR.r28_4, Option.bind_some, eS', Option.bind_some, c7, nI_add]
    by_cases q1 : hmN H B 12 ≤ hmN H T i + sxN H n 12 i
    · rw [if_pos ((nI_leI (by omega) (by omega)).mpr q1), hR.r28_1, Option.bind_some, eA', Option.bind_some, hR.r28_0, Option.bind_some, eH', Option.bind_some]
      have only : (∀ T' : Nat, T' < 2 ^ n → (∀ k, k < i → T'.testBit k = T.testBit k) → OKN F A c l T' n → T'.testBit i = true → ∃ T2, T2 < 2 ^ n ∧ (∀ k, k < i → T2.testBit k = T.testBit k) ∧ OKN F A c l T2 n ∧ T2.testBit i = false ∧ btr H T2 T') → ∃ σ2 B2, f_X6_choose_106 (fg_ch K) L σ' 28 (nI i) (nI T) (nI (hmN H T i)) (nI (F + i * A - c * pcN T i) + nI A) = some σ2 ∧ CH n c l H B2 σ σ2 ∧ B2 < 2 ^ n ∧ OKN F A c l B2 n ∧ ¬ btr H B B2 ∧ ∀ T', T' < 2 ^ n → (∀ k, k < i → T'.testBit k = T.testBit k) → OKN F A c l T' n → ¬ btr H T' B2 := fun hyp => by
        obtain ⟨σ2, B2, g1, g2, g3, g4, g5, g6⟩ := skip σ' B hB oB hC
        refine ⟨σ2, B2, g1, g2, g3, g4, g5, fun T' a1 a2 a3 => ?_⟩
        cases hb : T'.testBit i with
        | false => exact g6 T' a1 (agr T' a2 hb) a3
        | true =>
          obtain ⟨T2, b1, b2, b3, b4, b5⟩ := hyp T' a1 a2 a3 hb
          exact fun u => g6 T2 b1 (agr T2 b2 b4) b3 (btr_tr b5 u)
      by_cases q2 : H i = 0
      · rw [if_pos (by rw [q2]; decide)]
        refine only (fun T' a1 a2 a3 a4 => ⟨T' ^^^ 2 ^ i, ?_, fun k hk => ?_, OKN_s (fun k hk => ?_) a3, ?_, Or.inr ⟨tx_hm q2 12, Or.inl ?_⟩⟩)
        · exact Nat.xor_lt_two_pow a1 (Nat.pow_lt_pow_right (by omega) (by omega))
        · rw [tx_bit, if_neg (by omega)]; exact a2 k hk
        · rw [tx_bit] at hk
          by_cases z : k = i
          · rw [z]; exact a4
          · rw [if_neg z] at hk; exact hk
        · rw [tx_bit, if_pos rfl, a4]; rfl
        · have := tx_pc a4 12
          rw [if_pos (by omega)] at this
          omega
      · have q2' : ¬ nI (H i) ≤ 0 := fun u => by
          have h9 := hH i
          have := (nI_leI (a := H i) (b := 0) (by omega) (by omega)).mp u
          omega
        rw [if_neg q2', c4]
        by_cases q3 : l ≤ rnN T i
        · rw [if_pos ((nI_leI (by omega) (by omega)).mpr q3)]
          refine only (fun T' a1 a2 a3 a4 => ?_)
          have := (a3 i (by omega) a4).2
          rw [rnN_c i a2] at this
          omega
        · rw [if_neg (fun u => q3 ((nI_leI (by omega) (by omega)).mp u)), c3]
          by_cases q4 : F + i * A - c * pcN T i < c
          · rw [if_pos ((nI_ltI (by omega) (by omega)).mpr q4)]
            refine only (fun T' a1 a2 a3 a4 => ?_)
            have := (a3 i (by omega) a4).1
            rw [pcN_c i a2, Nat.mul_add, Nat.mul_one] at this
            omega
          · rw [if_neg (fun u => q4 ((nI_ltI (by omega) (by omega)).mp u)), Option.bind_some, eH', Option.bind_some]
            have ab := add_bit hT
            have lo : ∀ k, k < i → (T + 2 ^ i).testBit k = T.testBit k := fun k hk => by rw [ab, if_neg (by omega)]
            have y1 : hmN H (T + 2 ^ i) (i + 1) = hmN H T i + H i := by
              show hmN H (T + 2 ^ i) i + (if (T + 2 ^ i).testBit i = true then H i else 0) = _
              rw [hmN_c i lo, ab, if_pos rfl, if_pos rfl]
            have y2 : pcN (T + 2 ^ i) (i + 1) = pcN T i + 1 := by
              show pcN (T + 2 ^ i) i + (if (T + 2 ^ i).testBit i = true then 1 else 0) = _
              rw [pcN_c i lo, ab, if_pos rfl, if_pos rfl]
            have y3 : rnN (T + 2 ^ i) (i + 1) = rnN T i + 1 := by
              show (if (T + 2 ^ i).testBit i = true then rnN (T + 2 ^ i) i + 1 else 0) = _
              rw [rnN_c i lo, ab, if_pos rfl, if_pos rfl]
            have cm : c * (pcN T i + 1) = c * pcN T i + c := by rw [Nat.mul_add, Nat.mul_one]
            have y4 : F + (i + 1) * A - c * pcN (T + 2 ^ i) (i + 1) = (F + i * A - c * pcN T i) + A - c := by rw [y2, sA, cm]; omega
            have e2 : 2 ^ (i + 1) = 2 * 2 ^ i := by rw [Nat.pow_succ, Nat.mul_comm]
            have hT2 : T + 2 ^ i < 2 ^ (i + 1) := by omega
            have oT2 : OKN F A c l (T + 2 ^ i) (i + 1) := fun k hk q => by
              rcases Nat.lt_or_ge k i with z | z
              · rw [pcN_c k (fun t ht => lo t (by omega)), rnN_c k (fun t ht => lo t (by omega))]
                exact oT k z (by rw [← lo k z]; exact q)
              · obtain rfl : k = i := by omega
                rw [pcN_c k lo, rnN_c k lo]
                exact ⟨by omega, by omega⟩
            obtain ⟨σ1, B1, g1, g2, g3, g4, g5, g6⟩ := ihd (T + 2 ^ i) B σ' (by omega) (by omega) hT2 oT2 hB oB hC
            rw [y1, y3, y4] at g1
            have hor : nI T ||| ((1 : Int32) <<< (nI i &&& 31)) = nI (T + 2 ^ i) := by
              rw [one12 i (by omega), or32 (by have := p12 (n := i) (by omega); omega) (by have := p12 (n := i) (by omega); omega)]
              congr 1
              have := Nat.two_pow_add_eq_or_of_lt hT 1
              rw [Nat.mul_one] at this
              rw [Nat.or_comm, ← this, Nat.add_comm]
            have hsb : nI (F + i * A - c * pcN T i) + nI A - nI c = nI (F + i * A - c * pcN T i + A - c) := by
              rw [nI_add]
              exact pk_sub (by omega)
            rw [hor, hsb, nI_add (hmN H T i) (H i), show (nI i + 1) = nI (i + 1) from by rw [nI_1], show (nI (rnN T i) + 1) = nI (rnN T i + 1) from by rw [nI_1], g1, Option.bind_some]
            obtain ⟨σ2, B2, k1, k2, k3, k4, k5, k6⟩ := skip σ1 B1 g3 g4 g2
            refine ⟨σ2, B2, k1, k2, k3, k4, btr_nt g5 k5, fun T' a1 a2 a3 => ?_⟩
            cases hb : T'.testBit i with
            | false => exact k6 T' a1 (agr T' a2 hb) a3
            | true =>
              refine btr_nt (g6 T' a1 (fun k hk => ?_) a3) k5
              rcases Nat.lt_or_ge k i with z | z
              · rw [lo k z]; exact a2 k z
              · obtain rfl : k = i := by omega
                rw [hb, ab, if_pos rfl]
    · rw [if_neg (fun u => q1 ((nI_leI (by omega) (by omega)).mp u))]
      refine ⟨σ', B, rfl, hC, hB, oB, btr_ir, fun T' a1 a2 a3 u => ?_⟩
      have b1 := sxN_b (H := H) (T := T') (d + 1) i hi
      have b2 := sxN_d (H := H) (n := n) (d + 1) (12 - (d + 1)) i (by omega)
      rw [show d + 1 + (12 - (d + 1)) = 12 by omega] at b2
      have b3 : hmN H T' 12 = hmN H T' n := by
        have := hmN_up (H := H) a1 (12 - n)
        rw [show n + (12 - n) = 12 by omega] at this
        exact this
      rw [hmN_c i a2] at b1
      unfold btr at u
      omega
end
