/-! plan: the reference's days -/
theorem bitv {T k : Nat} (hT : T < 2 ^ 31) (hk : k < 32) : ((nI T >>> (nI k &&& 31)) &&& 1) = nI (if T.testBit k = true then 1 else 0) := by
  have hq : T / 2 ^ k ≤ T := Nat.div_le_self _ _
  rw [shr32 hT hk, pk_andN (by omega) 1 (by decide), Nat.pow_one, Nat.testBit_eq_decide_div_mod_eq]
  by_cases q : T / 2 ^ k % 2 = 1
  · rw [q, if_pos (by decide)]
  · rw [if_neg (by simpa using q), show T / 2 ^ k % 2 = 0 by omega]
theorem bitc {T k : Nat} (hT : T < 2 ^ 31) (hk : k < 32) : (((nI T >>> (nI k &&& 31)) &&& 1) = 1) ↔ T.testBit k = true := by
  rw [bitv hT hk]
  by_cases q : T.testBit k = true
  · rw [if_pos q]
    exact ⟨fun _ => q, fun _ => rfl⟩
  · rw [if_neg q]
    exact ⟨fun u => absurd u (by decide), fun u => absurd u q⟩
theorem one13 : ∀ k, k < 13 → ((1 : Int32) <<< (nI k &&& 31)) = nI (2 ^ k) := by decide +kernel
theorem sub_neg {f c : Nat} (hf : f < 2 ^ 30) (hc : c < 2 ^ 30) (h : f < c) : ¬ 0 ≤ nI f - nI c := fun u => by
  have := Int32.le_iff_toInt_le.mp u
  rw [pk_sub_toInt hf hc, Int32.toInt_zero] at this
  omega
section
variable {nb nm nl nB nN td nt nw lw : Nat} {w : Nat → Nat} {L : Lay} {σ : Sto}
theorem x12_harmOf (hS : SF L) (hR : RF lw σ.2.1) {H : Nat → Nat} (eH : ∀ k, k < 12 → σ.1 63 k = nI (H k)) {T : Nat} (hT : T < 4096) : f_X12_harmOf L σ 37 (nI T) = some (nI (hmN H T 12)) := by
  unfold f_X12_harmOf
  refine loop (F := fun f q => f_X12_harmOf_4 f L σ 37 (nI T) q.1 q.2) (s := fun m => (nI (hmN H T m), nI m)) 12 _ ?_ ?_ (FU_lt (by omega))
  · intro m K hm
    show f_X12_harmOf_4 (K + 1) L σ 37 (nI T) (nI (hmN H T m)) (nI m) = f_X12_harmOf_4 K L σ 37 (nI T) (nI (hmN H T m + (if T.testBit m = true then H m else 0))) (nI (m + 1))
    by_cases q : T.testBit m = true
    · have q' := (bitc (T := T) (k := m) (by omega) (by omega)).mpr q
      rw [if_pos q]
      simp (disch := omega) only [f_X12_harmOf_4, f_X12_harmOf_30, nle_r, show ¬ 12 ≤ m by omega, q', hR.r37_35, rI_nI hS.l63, eH m hm, nI_add, nI_1, if_true, if_false, Option.bind_some]
    · have q' : ¬ _ := fun u => q ((bitc (T := T) (k := m) (by omega) (by omega)).mp u)
      rw [if_neg q]
      simp (disch := omega) only [f_X12_harmOf_4, f_X12_harmOf_30, nle_r, show ¬ 12 ≤ m by omega, q', Int32.add_zero, Nat.add_zero, nI_1, if_true, if_false, Option.bind_some]
  · intro K
    show f_X12_harmOf_4 (K + 1) L σ 37 (nI T) (nI (hmN H T 12)) (nI 12) = _
    simp (disch := omega) only [f_X12_harmOf_4, nle_r, Nat.le_refl, if_true]
theorem x12_many (L : Lay) (σ : Sto) {T : Nat} (hT : T < 4096) : f_X12_many L σ (nI T) = some (nI (pcN T 12)) := by
  unfold f_X12_many
  refine loop (F := fun f q => f_X12_many_4 f L σ (nI T) q.1 q.2) (s := fun m => (nI (pcN T m), nI m)) 12 _ ?_ ?_ (FU_lt (by omega))
  · intro m K hm
    show f_X12_many_4 (K + 1) L σ (nI T) (nI (pcN T m)) (nI m) = f_X12_many_4 K L σ (nI T) (nI (pcN T m + (if T.testBit m = true then 1 else 0))) (nI (m + 1))
    simp (disch := omega) only [f_X12_many_4, nle_r, show ¬ 12 ≤ m by omega, bitv (T := T) (k := m) (by omega) (by omega), nI_add, nI_1, if_false]
  · intro K
    show f_X12_many_4 (K + 1) L σ (nI T) (nI (pcN T 12)) (nI 12) = _
    simp (disch := omega) only [f_X12_many_4, nle_r, Nat.le_refl, if_true]
theorem x12_canBe (L : Lay) (σ : Sto) {T n l : Nat} (hT : T < 4096) (hn : n ≤ 12) (hl : l ≤ 12) : OK (f_X12_canBe L σ 37 (nI T) (nI n) (nI l)) (fun r => (r = 1 ∧ ∀ i, i < n → T.testBit i = true → rnN T i + 1 ≤ l) ∨ (r = 0 ∧ ¬ ∀ i, i < n → T.testBit i = true → rnN T i + 1 ≤ l)) := by
  unfold f_X12_canBe
  refine loopI (F := fun f (q : Int32 × Int32) => f_X12_canBe_6 f L σ (nI T) (nI n) (nI l) q.1 q.2) (I := fun m q => (∀ i, i < m → T.testBit i = true → rnN T i + 1 ≤ l) ∧ q = (nI (rnN T m), nI m)) (n := n) (s := (0, 0)) _ ?_ ?_ (FU_lt (by omega)) ?_
  · rintro m K q hm ⟨c, rfl⟩
    dsimp only
    have hr := rnN_le T m
    by_cases q : T.testBit m = true
    · have q' := (bitc (T := T) (k := m) (by omega) (by omega)).mpr q
      have er : rnN T (m + 1) = rnN T m + 1 := if_pos q
      by_cases q2 : rnN T m + 1 ≤ l
      · left
        refine ⟨(nI (rnN T (m + 1)), nI (m + 1)), ?_, fun i hi b => ?_, rfl⟩
        · rw [er]
          simp (disch := omega) only [f_X12_canBe_6, f_X12_canBe_30, nI_leI, show ¬ n ≤ m by omega, q', nI_1, q2, if_true, if_false]
        · rcases Nat.lt_or_ge i m with z | z
          · exact c i z b
          · obtain rfl : i = m := by omega
            exact q2
      · right
        refine ⟨0, ?_, Or.inr ⟨rfl, fun u => q2 (u m hm q)⟩⟩
        simp (disch := omega) only [f_X12_canBe_6, f_X12_canBe_30, nI_leI, show ¬ n ≤ m by omega, q', nI_1, q2, ck0, if_true, if_false, Option.bind_some]
    · left
      have q' : ¬ _ := fun u => q ((bitc (T := T) (k := m) (by omega) (by omega)).mp u)
      have er : rnN T (m + 1) = 0 := if_neg q
      have l0 : (0 : Int32) ≤ nI l := nI_pos' (by omega)
      refine ⟨(nI (rnN T (m + 1)), nI (m + 1)), ?_, fun i hi b => ?_, rfl⟩
      · rw [er, nI_0]
        simp (disch := omega) only [f_X12_canBe_6, f_X12_canBe_30, nI_leI, show ¬ n ≤ m by omega, q', nI_1, l0, if_true, if_false]
      · rcases Nat.lt_or_ge i m with z | z
        · exact c i z b
        · obtain rfl : i = m := by omega
          exact absurd b q
  · rintro K q ⟨c, rfl⟩
    exact ⟨1, by simp (disch := omega) only [f_X12_canBe_6, nI_leI, Nat.le_refl, ck1, if_true, Option.bind_some], Or.inl ⟨rfl, c⟩⟩
  · exact ⟨fun i hi => absurd hi (by omega), rfl⟩
theorem x12_fund (hS : SF L) (hR : RF lw σ.2.1) {F A c T n : Nat} (eF : σ.1 64 0 = nI F) (eA : σ.1 64 2 = nI A) (hF : F ≤ 1000000) (hA : A ≤ 9999) (hc : c ≤ 400000) (hT : T < 4096) (hn : n ≤ 12) : OK (f_X12_fundBehind L σ 37 (nI T) (nI n) (nI c)) (fun r => (r = nI (F + n * A - c * pcN T n) ∧ ∀ i, i < n → T.testBit i = true → c * (pcN T i + 1) ≤ F + i * A) ∨ (r = -1 ∧ ¬ ∀ i, i < n → T.testBit i = true → c * (pcN T i + 1) ≤ F + i * A)) := by
  have e0 : rI L σ 64 0 = some (nI F) := by rw [show rI L σ 64 0 = some (σ.1 64 0) from rI_nI (i := 0) hS.l64 (by omega) (by omega), eF]
  have e2 : rI L σ 64 2 = some (nI A) := by rw [show rI L σ 64 2 = some (σ.1 64 2) from rI_nI (i := 2) hS.l64 (by omega) (by omega), eA]
  unfold f_X12_fundBehind
  rw [hR.r37_36, Option.bind_some, e0, Option.bind_some]
  refine loopI (F := fun f (q : Int32 × Int32) => f_X12_fundBehind_11 f L σ 37 (nI T) (nI n) (nI c) q.1 q.2) (I := fun m q => ((∀ i, i < m → T.testBit i = true → c * (pcN T i + 1) ≤ F + i * A) ∧ c * pcN T m ≤ F + m * A) ∧ q = (nI (F + m * A - c * pcN T m), nI m)) (n := n) (s := (nI F, 0)) _ ?_ ?_ (FU_lt (by omega)) ?_
  · rintro m K q hm ⟨⟨c1, c2⟩, rfl⟩
    dsimp only
    have hmA : m * A ≤ 12 * 9999 := Nat.mul_le_mul (by omega) hA
    have sA : (m + 1) * A = m * A + A := Nat.succ_mul m A
    have cm : c * (pcN T m + 1) = c * pcN T m + c := by rw [Nat.mul_add, Nat.mul_one]
    by_cases q : T.testBit m = true
    · have q' := (bitc (T := T) (k := m) (by omega) (by omega)).mpr q
      have er : pcN T (m + 1) = pcN T m + 1 := by
        show pcN T m + (if T.testBit m = true then 1 else 0) = _
        rw [if_pos q]
      by_cases q2 : c * (pcN T m + 1) ≤ F + m * A
      · left
        have hs : nI (F + m * A - c * pcN T m) - nI c = nI (F + m * A - c * pcN T m - c) := pk_sub (by omega)
        have hp := nI_pos' (n := F + m * A - c * pcN T m - c) (by omega)
        refine ⟨(nI (F + (m + 1) * A - c * pcN T (m + 1)), nI (m + 1)), ?_, ⟨fun i hi b => ?_, ?_⟩, rfl⟩
        · rw [er, show F + (m + 1) * A - c * (pcN T m + 1) = F + m * A - c * pcN T m - c + A by rw [sA, cm]; omega]
          simp (disch := omega) only [f_X12_fundBehind_11, f_X12_fundBehind_34, nI_leI, show ¬ n ≤ m by omega, q', hs, hp, hR.r37_36, e2, nI_add, nI_1, if_true, if_false, Option.bind_some]
        · rcases Nat.lt_or_ge i m with z | z
          · exact c1 i z b
          · obtain rfl : i = m := by omega
            exact q2
        · rw [er]; omega
      · right
        have hs := sub_neg (f := F + m * A - c * pcN T m) (c := c) (by omega) (by omega) (by omega)
        refine ⟨-1, ?_, Or.inr ⟨rfl, fun u => q2 (u m hm q)⟩⟩
        simp (disch := omega) only [f_X12_fundBehind_11, f_X12_fundBehind_34, nI_leI, show ¬ n ≤ m by omega, q', hs, if_true, if_false]
    · left
      have q' : ¬ _ := fun u => q ((bitc (T := T) (k := m) (by omega) (by omega)).mp u)
      have er : pcN T (m + 1) = pcN T m := by
        show pcN T m + (if T.testBit m = true then 1 else 0) = _
        rw [if_neg q]; rfl
      have hp := nI_pos' (n := F + m * A - c * pcN T m) (by omega)
      have hs : nI (F + m * A - c * pcN T m) - 0 = nI (F + m * A - c * pcN T m) := Int32.sub_zero _
      refine ⟨(nI (F + (m + 1) * A - c * pcN T (m + 1)), nI (m + 1)), ?_, ⟨fun i hi b => ?_, ?_⟩, rfl⟩
      · rw [er, show F + (m + 1) * A - c * pcN T m = F + m * A - c * pcN T m + A by rw [sA]; omega]
        simp (disch := omega) only [f_X12_fundBehind_11, f_X12_fundBehind_34, nI_leI, show ¬ n ≤ m by omega, q', hs, hp, hR.r37_36, e2, nI_add, nI_1, if_true, if_false, Option.bind_some]
      · rcases Nat.lt_or_ge i m with z | z
        · exact c1 i z b
        · obtain rfl : i = m := by omega
          exact absurd b q
      · rw [er]; omega
  · rintro K q ⟨⟨c1, c2⟩, rfl⟩
    exact ⟨_, by simp (disch := omega) only [f_X12_fundBehind_11, nI_leI, Nat.le_refl, if_true], Or.inl ⟨rfl, c1⟩⟩
  · refine ⟨⟨fun i hi => absurd hi (by omega), ?_⟩, ?_⟩
    · show c * 0 ≤ _; omega
    · show (nI F, (0 : Int32)) = (nI (F + 0 * A - c * 0), nI 0)
      rw [Nat.zero_mul, Nat.mul_zero, nI_0]; rfl
theorem x12_best (hS : SF L) (hR : RF lw σ.2.1) {H : Nat → Nat} (hH : ∀ k, H k ≤ 999) (eH : ∀ k, k < 12 → σ.1 63 k = nI (H k)) {F A c n l : Nat} (eF : σ.1 64 0 = nI F) (eA : σ.1 64 2 = nI A) (hF : F ≤ 1000000) (hA : A ≤ 9999) (hc : c ≤ 400000) (hl : l ≤ 12) (hn : n ≤ 12) : OK (f_X12_bestDays_24 L σ 37 (nI n) (nI c) (nI l)) (fun r => ∃ B, r = nI B ∧ BST n c l F A H B) := by
  have h4 := p12 hn
  have h1 := Nat.two_pow_pos n
  unfold f_X12_bestDays_24
  refine loopI (F := fun f (q : Int32 × Int32) => f_X12_bestDays_32 f L σ 37 (nI n) (nI c) (nI l) q.1 q.2) (I := fun m q => ∃ B, q = (nI B, nI (m + 1)) ∧ B < m + 1 ∧ OKN F A c l B n ∧ ∀ T, T < m + 1 → OKN F A c l T n → ¬ btr H T B) (n := 2 ^ n - 1) (s := (0, 1)) _ ?_ ?_ (FU_lt (by omega)) ?_
  · rintro m K q hm ⟨B, rfl, b1, b2, b3⟩
    left
    dsimp only
    obtain ⟨T, hT⟩ : ∃ T, T = m + 1 := ⟨_, rfl⟩
    rw [← hT] at b1 b3 ⊢
    have g1 := x12_harmOf (L := L) (σ := σ) hS hR eH (T := T) (by omega)
    have g2 := x12_harmOf (L := L) (σ := σ) hS hR eH (T := B) (by omega)
    have g3 := x12_many L σ (T := T) (by omega)
    have g4 := x12_many L σ (T := B) (by omega)
    have hb := hmN_le hH B 12
    have ht := hmN_le hH T 12
    have pb := pcN_le B 12
    have pt := pcN_le T 12
    obtain ⟨r1, y1, y2⟩ := x12_canBe L σ (T := T) (n := n) (l := l) (by omega) hn hl
    obtain ⟨r2, z1, z2⟩ := x12_fund (L := L) (σ := σ) (T := T) (n := n) hS hR eF eA hF hA hc (by omega) hn
    have i1 : ¬ nI (2 ^ n) ≤ nI T := fun u => by have := (nI_leI (by omega) (by omega)).mp u; omega
    have e88 : ∃ C, f_X12_bestDays_88 (f_X12_bestDays_32 K) L σ 37 (nI n) (nI c) (nI l) (nI B) (nI T) 1 = f_X12_bestDays_32 K L σ 37 (nI n) (nI c) (nI l) (nI C) (nI (T + 1)) ∧ ((OKN F A c l T n ∧ C = T) ∨ (¬ OKN F A c l T n ∧ C = B)) := by
      rcases y2 with ⟨rfl, y3⟩ | ⟨rfl, y3⟩
      · rcases z2 with ⟨rfl, z3⟩ | ⟨rfl, z3⟩
        · have hnA : n * A ≤ 12 * 9999 := Nat.mul_le_mul hn hA
          have p0 : ¬ nI (F + n * A - c * pcN T n) < 0 := nI_pos (by omega)
          refine ⟨T, ?_, Or.inl ⟨fun i hi b => ⟨z3 i hi b, y3 i hi b⟩, rfl⟩⟩
          simp only [f_X12_bestDays_88, f_X12_bestDays_122, y1, z1, p0, nI_1, one_ne0, if_false, Option.bind_some]
        · have p0 : (-1 : Int32) < 0 := by decide
          refine ⟨B, ?_, Or.inr ⟨fun u => z3 (fun i hi b => (u i hi b).1), rfl⟩⟩
          simp only [f_X12_bestDays_88, f_X12_bestDays_122, y1, z1, p0, nI_1, one_ne0, if_true, if_false, Option.bind_some]
      · refine ⟨B, ?_, Or.inr ⟨fun u => y3 (fun i hi b => (u i hi b).2), rfl⟩⟩
        simp only [f_X12_bestDays_88, f_X12_bestDays_122, y1, nI_1, one_ne0, if_true, if_false, Option.bind_some]
    have keep : ∀ C, ((OKN F A c l T n ∧ C = T) ∨ (¬ OKN F A c l T n ∧ C = B)) → btr H T B → C < T + 1 ∧ OKN F A c l C n ∧ ∀ T', T' < T + 1 → OKN F A c l T' n → ¬ btr H T' C := fun C hC hb => by
      rcases hC with ⟨o, rfl⟩ | ⟨o, rfl⟩
      · refine ⟨by omega, o, fun T' h1 h2 u => ?_⟩
        rcases Nat.lt_or_ge T' C with z | z
        · exact b3 T' z h2 (btr_tr u hb)
        · obtain rfl : T' = C := by omega
          exact btr_ir u
      · refine ⟨by omega, b2, fun T' h1 h2 => ?_⟩
        rcases Nat.lt_or_ge T' T with z | z
        · exact b3 T' z h2
        · obtain rfl : T' = T := by omega
          exact absurd h2 o
    have same : ¬ btr H T B → B < T + 1 ∧ OKN F A c l B n ∧ ∀ T', T' < T + 1 → OKN F A c l T' n → ¬ btr H T' B := fun hb => by
      refine ⟨by omega, b2, fun T' h1 h2 => ?_⟩
      rcases Nat.lt_or_ge T' T with z | z
      · exact b3 T' z h2
      · obtain rfl : T' = T := by omega
        exact hb
    obtain ⟨C, w1, w2⟩ := e88
    have e0 : f_X12_bestDays_88 (f_X12_bestDays_32 K) L σ 37 (nI n) (nI c) (nI l) (nI B) (nI T) 0 = f_X12_bestDays_32 K L σ 37 (nI n) (nI c) (nI l) (nI B) (nI (T + 1)) := by
      simp only [f_X12_bestDays_88, f_X12_bestDays_122, nI_1, if_true]
    rw [f_X12_bestDays_32]
    dsimp only
    rw [one13 n (by omega), if_neg i1, g1, Option.bind_some, g2, Option.bind_some]
    unfold f_X12_bestDays_83 f_X12_bestDays_87
    by_cases q1 : hmN H B 12 < hmN H T 12
    · rw [if_pos ((nI_ltI (by omega) (by omega)).mpr q1), w1]
      exact ⟨(nI C, nI (T + 1)), rfl, C, rfl, keep C w2 (Or.inl q1)⟩
    · rw [if_neg (fun u => q1 ((nI_ltI (by omega) (by omega)).mp u)), Option.bind_some, Option.bind_some]
      by_cases q2 : hmN H T 12 = hmN H B 12
      · rw [if_pos (congrArg nI q2), g3, Option.bind_some, g4, Option.bind_some]
        by_cases q3 : pcN B 12 ≤ pcN T 12
        · rw [if_pos ((nI_leI (by omega) (by omega)).mpr q3), e0]
          exact ⟨(nI B, nI (T + 1)), rfl, B, rfl, same (by unfold btr; omega)⟩
        · rw [if_neg (fun u => q3 ((nI_leI (by omega) (by omega)).mp u)), w1]
          exact ⟨(nI C, nI (T + 1)), rfl, C, rfl, keep C w2 (Or.inr ⟨q2, Or.inl (by omega)⟩)⟩
      · rw [if_neg (fun u => q2 ((nI_eq (by omega) (by omega)).mp u)), e0]
        exact ⟨(nI B, nI (T + 1)), rfl, B, rfl, same (by unfold btr; omega)⟩
  · rintro K q ⟨B, rfl, b1, b2, b3⟩
    have e : 2 ^ n - 1 + 1 = 2 ^ n := by omega
    rw [e] at b1 b3 ⊢
    refine ⟨nI B, ?_, B, rfl, b1, b2, b3⟩
    dsimp only
    rw [f_X12_bestDays_32]
    dsimp only
    rw [one13 n (by omega), if_pos ((nI_leI (by omega) (by omega)).mpr (Nat.le_refl _))]
  · refine ⟨0, rfl, by omega, OKN_0 _ _ _ _ _, fun T hT _ => ?_⟩
    obtain rfl : T = 0 := by omega
    exact btr_ir
end
