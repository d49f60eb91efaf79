/-! notice -/
theorem sm32 : ∀ k, k < 32 → ((nI k &&& 31).toBitVec.smod 32).toNat = k := by decide +kernel
theorem shr32 {n k : Nat} (hn : n < 2 ^ 31) (hk : k < 32) : nI n >>> (nI k &&& 31) = nI (n / 2 ^ k) := pk_shrN hn _ k (sm32 k hk)
theorem one20 : ∀ f, f ≤ 20 → ((1 : Int32) <<< (nI f &&& 31)) - 1 = nI (2 ^ f - 1) := by decide +kernel
theorem lsh {T k : Nat} (hT : T < 2 ^ 62) (hk : k < 64) : lN T >>> ((nI k).toInt64 &&& 63) = lN (T / 2 ^ k) := by
  rw [wb_c k hk]
  refine pf_shr ?_ hT
  rw [wb_tb, wb_sm k hk, BitVec.toNat_ofNat, Nat.mod_eq_of_lt (by omega)]
theorem bit_and1 {n : Nat} (hn : n < 2 ^ 31) : ((nI n &&& 1) = 1) ↔ n % 2 = 1 := by
  rw [pk_andN (by omega) 1 (by decide), show (1 : Int32) = nI 1 from rfl, nI_eq (by omega) (by omega), Nat.pow_one]
theorem T_bit {a b m : Nat} (ha : a < 2 ^ 20) : ((2 ^ 20 * b + a) / 2 ^ m % 2 = 1) ↔ (if m < 20 then a / 2 ^ m % 2 = 1 else b / 2 ^ (m - 20) % 2 = 1) := by
  have h := Nat.testBit_two_pow_mul_add b ha m
  by_cases q : m < 20
  · rw [if_pos q] at h ⊢
    rw [Nat.testBit_eq_decide_div_mod_eq, Nat.testBit_eq_decide_div_mod_eq] at h
    exact decide_eq_decide.mp h
  · rw [if_neg q] at h ⊢
    rw [Nat.testBit_eq_decide_div_mod_eq, Nat.testBit_eq_decide_div_mod_eq] at h
    exact decide_eq_decide.mp h
theorem list_or {a b : Nat} (ha : a < 2 ^ 20) (hb : b < 2 ^ 20) : (nI a).toInt64 ||| ((nI b).toInt64 <<< ((20 : Int32).toInt64 &&& 63)) = lN (2 ^ 20 * b + a) := by
  have e : lN b <<< ((20 : Int32).toInt64 &&& 63) = lN (b * 2 ^ 20) := wb_shl b (k := 20) (by omega)
  rw [nI_l (by omega), nI_l (by omega), e, wb_or (by omega) (by omega), Nat.mul_comm b, Nat.or_comm, ← Nat.two_pow_add_eq_or_of_lt ha]
theorem p20 {g : Nat} (h : g ≤ 20) : 2 ^ g ≤ 2 ^ 20 := Nat.pow_le_pow_right (by omega) h
/-- what the reference asks of a list -/
theorem list_c {nm : Nat} (hnm : nm ≤ 40) {f g : Nat} (hf : f = if nm < 20 then nm else 20) (hg : g = nm - 20) (x y : Int32) : ((0 ≤ x ∧ x ≤ nI (2 ^ f - 1)) ∧ (0 ≤ y ∧ y ≤ nI (2 ^ g - 1))) ↔ ∃ a b, x = nI a ∧ y = nI b ∧ a < 2 ^ 20 ∧ b < 2 ^ 20 ∧ 2 ^ 20 * b + a < 2 ^ nm := by
  have hf20 : f ≤ 20 := by rw [hf]; split <;> omega
  have hg20 : g ≤ 20 := by omega
  have q1 := p20 hf20
  have q2 := p20 hg20
  have q3 := Nat.two_pow_pos f
  have q4 := Nat.two_pow_pos g
  have key : ∀ a b : Nat, a < 2 ^ 20 → ((a < 2 ^ f ∧ b < 2 ^ g) ↔ 2 ^ 20 * b + a < 2 ^ nm) := fun a b ha => by
    by_cases q : nm < 20
    · rw [if_pos q] at hf
      obtain rfl : g = 0 := by omega
      subst hf
      rw [Nat.pow_zero]
      constructor
      · rintro ⟨h1, h2⟩
        obtain rfl : b = 0 := by omega
        omega
      · intro h1
        have hlt : 2 ^ f < 2 ^ 20 := Nat.pow_lt_pow_right (by omega) q
        have hb : b = 0 := by
          rcases Nat.eq_zero_or_pos b with z | z
          · exact z
          · have : 2 ^ 20 * 1 ≤ 2 ^ 20 * b := Nat.mul_le_mul_left _ z
            omega
        subst hb
        omega
    · rw [if_neg q] at hf
      subst hf
      have e : 2 ^ nm = 2 ^ 20 * 2 ^ g := by rw [← Nat.pow_add]; congr 1; omega
      rw [e]
      constructor
      · rintro ⟨h1, h2⟩
        have : 2 ^ 20 * (b + 1) ≤ 2 ^ 20 * 2 ^ g := Nat.mul_le_mul_left _ h2
        omega
      · intro h1
        refine ⟨ha, ?_⟩
        rcases Nat.lt_or_ge b (2 ^ g) with z | z
        · exact z
        · have : 2 ^ 20 * 2 ^ g ≤ 2 ^ 20 * b := Nat.mul_le_mul_left _ z
          omega
  constructor
  · rintro ⟨h1, h2⟩
    obtain ⟨a, ha, rfl⟩ := of_le h1 (by omega)
    obtain ⟨b, hb, rfl⟩ := of_le h2 (by omega)
    exact ⟨a, b, rfl, rfl, by omega, by omega, (key a b (by omega)).mp ⟨by omega, by omega⟩⟩
  · rintro ⟨a, b, rfl, rfl, ha, hb, h⟩
    obtain ⟨h1, h2⟩ := (key a b ha).mpr h
    exact ⟨⟨nI_pos' (by omega), nI_le (by omega) (by omega)⟩, nI_pos' (by omega), nI_le (by omega) (by omega)⟩
theorem x11_half (L : Lay) (σ : Sto) {x : Int32} (h : ∃ a, x = nI a ∧ a < 2 ^ 20) : f_X11_isHalfList L σ x = some 1 := by
  obtain ⟨a, rfl, ha⟩ := h
  unfold f_X11_isHalfList
  have e : nI a >>> ((20 : Int32) &&& 31) = nI (a / 2 ^ 20) := shr32 (k := 20) (by omega) (by omega)
  rw [if_neg (nI_pos (by omega)), e, Nat.div_eq_of_lt ha, nI_0, if_pos rfl, ck1]
  rfl
theorem x11_halfn (L : Lay) (σ : Sto) {x : Int32} (h : ¬ ∃ a, x = nI a ∧ a < 2 ^ 20) : f_X11_isHalfList L σ x = some 0 := by
  unfold f_X11_isHalfList
  by_cases q : x < 0
  · rw [if_pos q, ck0]; rfl
  · obtain ⟨a, ha, rfl⟩ := nI_of q
    have h2 : 2 ^ 20 ≤ a := by
      rcases Nat.lt_or_ge a (2 ^ 20) with z | z
      · exact absurd ⟨a, rfl, z⟩ h
      · exact z
    have e : nI a >>> ((20 : Int32) &&& 31) = nI (a / 2 ^ 20) := shr32 (k := 20) ha (by omega)
    rw [if_neg q, e, if_neg (nI_ne0 (Nat.div_pos h2 (by omega)) (by omega)), ck0]
    rfl
theorem RD.al {nb nm td lw : Nat} {w : Nat → Nat} {L L' : Lay} {σ σ' : Sto} (h : RD nb nm td lw w L σ) (hl : LE L L') (e : ∀ a k, a < L.2.2.1 → σ'.1 a k = σ.1 a k) (er : ∀ a k, a < L.2.2.1 → σ'.2.1 a k = σ.2.1 a k) : RD nb nm td lw w L' σ' := by
  obtain ⟨⟨hS, hR⟩, ⟨hnb, hnm, htd⟩, ⟨eb, eb'⟩, ⟨em, em'⟩, ⟨et, et'⟩, hBR, hME⟩ := id h
  have h80 := hS.nx
  refine ⟨⟨hS.fr hl, hR.fr (fun a k ha _ _ _ => er a k (by omega))⟩, ⟨hnb, hnm, htd⟩, ⟨(e _ _ (by omega)).trans eb, (e _ _ (by omega)).trans eb'⟩, ⟨(e _ _ (by omega)).trans em, (e _ _ (by omega)).trans em'⟩, ⟨(e _ _ (by omega)).trans et, (e _ _ (by omega)).trans et'⟩, fun i hi => by rw [e _ _ (by omega), e _ _ (by omega)]; exact hBR i hi, hME.fr hl (fun _ _ => rfl) (Nat.le_refl _) (Nat.le_refl _) (fun i hi a k p => e a k ?_) (fun i hi => er _ _ (by omega)) (fun a k _ ha => er a k ha)⟩
  simp [pMEM1] at p
  omega
section
variable {nb nm nl nB nN td nt nw lw : Nat} {w : Nat → Nat} {L : Lay} {σ : Sto}
/-- wrong ones of a list -/
def wrg (σ : Sto) (T : Nat) (z d : Int32) (n : Nat) : Int32 := itr (fun i a => a + b3 (¬ b3 (T / 2 ^ i % 2 = 1) = b3 (inS σ i z d))) n 0
theorem wrg_succ (σ : Sto) (T : Nat) (z d : Int32) (n : Nat) : wrg σ T z d (n + 1) = wrg σ T z d n + b3 (¬ b3 (T / 2 ^ n % 2 = 1) = b3 (inS σ n z d)) := rfl
theorem wrg_eq {σ σ' : Sto} (h : ∀ a k, 43 ≤ a → a ≤ 46 → σ'.1 a k = σ.1 a k) (T : Nat) (z d : Int32) (n : Nat) : wrg σ' T z d n = wrg σ T z d n := itr_congr n 0 (fun i _ x => by
  have e := inS_eq h i z d
  have e2 : b3 (inS σ' i z d) = b3 (inS σ i z d) := b3_c (by rw [e])
  rw [e2])
theorem x10_wrongIn (h : RD nb nm td lw w L σ) {T : Nat} (hT : T < 2 ^ 40) (z : Int32) : f_X10_wrongIn L σ 1 (lN T) z = some (wrg σ T z (nI td) nm) := by
  have ht : td ≤ 400 := h.2.1.2.2
  have ea := fun i (hi : i < nm) => x10_isAmong h hi ht z
  obtain ⟨⟨hS, hR⟩, ⟨hnb, hnm, htd⟩, ⟨eb, eb'⟩, ⟨em, em'⟩, ⟨et, et'⟩, hBR, hME⟩ := id h
  unfold f_X10_wrongIn
  refine loop (F := fun k q => f_X10_wrongIn_6 k L σ 1 (lN T) z q.1 q.2) (s := fun m => (wrg σ T z (nI td) m, nI m)) nm _ ?_ ?_ (FU_lt (by omega))
  · intro m K hm
    show f_X10_wrongIn_6 (K + 1) L σ 1 (lN T) z (wrg σ T z (nI td) m) (nI m) = f_X10_wrongIn_6 K L σ 1 (lN T) z (wrg σ T z (nI td) (m + 1)) (nI (m + 1))
    have hq : T / 2 ^ m ≤ T := Nat.div_le_self _ _
    have c : (lg_cmp ((lN T >>> ((nI m).toInt64 &&& 63)) &&& 1) 1 = 0) = (T / 2 ^ m % 2 = 1) := by
      rw [lsh (by omega) (by omega), wb_a1 (by omega), lg_cmp_eq, show (1 : Int64) = lN 1 from rfl, pk_lEQ (by omega) (by omega)]
    rw [wrg_succ]
    simp (disch := omega) only [f_X10_wrongIn_6, f_X10_wrongIn_31, f_X10_wrongIn_56, f_X11_oneIf, em, et, nI_leI, show ¬ nm ≤ m by omega, c, ea m hm, nI_1, if_false, if_true, Option.bind_some, one_ne0, zero_eq0]
    by_cases q : T / 2 ^ m % 2 = 1
    · rw [if_pos q, b3_t q]
      by_cases y : (1 : Int32) = b3 (inS σ m z (nI td))
      · rw [if_pos y, b3_f (p := ¬ (1 : Int32) = b3 (inS σ m z (nI td))) (fun u => u y)]
      · rw [if_neg y, b3_t y]
    · rw [if_neg q, b3_f q]
      by_cases y : (0 : Int32) = b3 (inS σ m z (nI td))
      · rw [if_pos y, b3_f (p := ¬ (0 : Int32) = b3 (inS σ m z (nI td))) (fun u => u y)]
      · rw [if_neg y, b3_t y]
  · intro K
    show f_X10_wrongIn_6 (K + 1) L σ 1 (lN T) z (wrg σ T z (nI td) nm) (nI nm) = _
    simp (disch := omega) only [f_X10_wrongIn_6, em, nI_leI, Nat.le_refl, if_true]
theorem x12_isListed (L : Lay) (σ : Sto) {a b m : Nat} (ha : a < 2 ^ 20) (hb : b < 2 ^ 20) (hm : m < 40) : f_X12_isListed L σ (nI m) (nI a) (nI b) = some (b3 ((2 ^ 20 * b + a) / 2 ^ m % 2 = 1)) := by
  rw [b3_c (T_bit ha)]
  unfold f_X12_isListed f_X12_isListed_18
  rw [ck0, ck1, Option.bind_some, Option.bind_some]
  by_cases q : m < 20
  · rw [if_neg (show ¬ (20 : Int32) ≤ nI m from nI_ge (b := 20) q (by omega)), shr32 (by omega) (by omega), b3_c (q := a / 2 ^ m % 2 = 1) (by rw [if_pos q])]
    have hq : a / 2 ^ m ≤ a := Nat.div_le_self _ _
    by_cases y : a / 2 ^ m % 2 = 1
    · rw [if_pos ((bit_and1 (by omega)).mpr y), b3_t y]
    · rw [if_neg (fun u => y ((bit_and1 (by omega)).mp u)), b3_f y]
  · rw [if_pos (show (20 : Int32) ≤ nI m from nI_le (a := 20) (by omega) (by omega)), show nI m - 20 = nI (m - 20) from pk_sub (b := 20) (by omega), shr32 (by omega) (by omega), b3_c (q := b / 2 ^ (m - 20) % 2 = 1) (by rw [if_neg q])]
    have hq : b / 2 ^ (m - 20) ≤ b := Nat.div_le_self _ _
    by_cases y : b / 2 ^ (m - 20) % 2 = 1
    · rw [if_pos ((bit_and1 (by omega)).mpr y), b3_t y]
    · rw [if_neg (fun u => y ((bit_and1 (by omega)).mp u)), b3_f y]
theorem sb_b3 (T m : Nat) : nI (sb T m) + b3 (T / 2 ^ m % 2 = 1) = nI (sb T (m + 1)) := by
  show _ = nI (sb T m + T / 2 ^ m % 2)
  by_cases q : T / 2 ^ m % 2 = 1
  · rw [b3_t q, q, nI_1]
  · rw [b3_f q, show T / 2 ^ m % 2 = 0 by omega, Int32.add_zero, Nat.add_zero]
theorem x12_notice_lp (h : RD nb nm td lw w L σ) {a b j nN : Nat} (ha : a < 2 ^ 20) (hb : b < 2 ^ 20) (hj : j < 12) (hN : nN < 12) (eN' : σ.1 37 29 = nI nN) (f : Int32) : f_X12_notice_56 FU L σ 37 (nI j) f (nI a) (nI b) 0 0 0 = some (nI nN, sI (sI (sI (sI (sI (sI σ 58 nN (nI j)) 59 nN (nI td)) 60 nN f) 61 nN (wrg σ (2 ^ 20 * b + a) (σ.1 49 j) (nI td) nm)) 62 nN (nI (sb (2 ^ 20 * b + a) nm))) 37 29 (nI (nN + 1))) := by
  have ea := fun i (hi : i < nm) => x12_isIn h hi hj (nI td)
  obtain ⟨⟨hS, hR⟩, ⟨hnb, hnm, htd⟩, ⟨eb, eb'⟩, ⟨em, em'⟩, ⟨et, et'⟩, hBR, hME⟩ := id h
  refine loop (F := fun k q => f_X12_notice_56 k L σ 37 (nI j) f (nI a) (nI b) q.1 q.2.1 q.2.2) (s := fun m => (wrg σ (2 ^ 20 * b + a) (σ.1 49 j) (nI td) m, nI (sb (2 ^ 20 * b + a) m), nI m)) nm _ ?_ ?_ (FU_lt (by omega))
  · intro m K hm
    show f_X12_notice_56 (K + 1) L σ 37 (nI j) f (nI a) (nI b) (wrg σ (2 ^ 20 * b + a) (σ.1 49 j) (nI td) m) (nI (sb (2 ^ 20 * b + a) m)) (nI m) = f_X12_notice_56 K L σ 37 (nI j) f (nI a) (nI b) (wrg σ (2 ^ 20 * b + a) (σ.1 49 j) (nI td) (m + 1)) (nI (sb (2 ^ 20 * b + a) (m + 1))) (nI (m + 1))
    rw [wrg_succ, ← sb_b3]
    simp (disch := omega) only [f_X12_notice_56, f_X12_notice_87, f_X12_notice_113, em', et', nI_leI, show ¬ nm ≤ m by omega, x12_isListed L σ ha hb (show m < 40 by omega), ea m hm, nI_1, if_false, Option.bind_some]
    by_cases q : (2 ^ 20 * b + a) / 2 ^ m % 2 = 1
    · rw [b3_t q, if_neg (by decide), nI_1 (sb _ _)]
      by_cases y : (1 : Int32) = b3 (inS σ m (σ.1 49 j) (nI td))
      · rw [if_pos y, b3_f (p := ¬ (1 : Int32) = b3 (inS σ m (σ.1 49 j) (nI td))) (fun u => u y)]
      · rw [if_neg y, b3_t y]
    · rw [b3_f q, if_pos rfl]
      by_cases y : (0 : Int32) = b3 (inS σ m (σ.1 49 j) (nI td))
      · rw [if_pos y, b3_f (p := ¬ (0 : Int32) = b3 (inS σ m (σ.1 49 j) (nI td))) (fun u => u y)]
      · rw [if_neg y, b3_t y]
  · intro K
    show f_X12_notice_56 (K + 1) L σ 37 (nI j) f (nI a) (nI b) (wrg σ (2 ^ 20 * b + a) (σ.1 49 j) (nI td) nm) (nI (sb (2 ^ 20 * b + a) nm)) (nI nm) = _
    simp (disch := omega) only [f_X12_notice_56, em', et', nI_leI, Nat.le_refl, hR.r37_30, hR.r37_31, hR.r37_32, hR.r37_33, hR.r37_34, eN', wI_nI hS.l58, wI_nI hS.l59, wI_nI hS.l60, wI_nI hS.l61, wI_nI hS.l62, nI_1, nI_pred, Option.bind_some, Option.elim_some, Option.elim_none, wi, x12_in, b3_z, ckb, ck0, ck1, putI, putR, putJ, not_true_eq_false, not_false_eq_true, if_true, if_false, and_self, and_true, true_and, one_ne0, zero_eq0, ite_self, sI_eq, sI_ne, sI_nk, sI_21, sI_22, sJ_21, sJ_1]
/-- a new notice's cell -/
def ntS (σ : Sto) (N nN td : Nat) (x f wr ct : Int32) : Sto := sI (sR (sI (sI (sI (sI (sI (zS σ N) N 0 x) N 1 (nI td)) N 2 f) N 3 wr) N 4 ct) 27 nN (some N)) 0 11 (nI (nN + 1))
theorem ntS_lo {N nN td : Nat} {x f wr ct : Int32} (hN : 80 ≤ N) {a k : Nat} (ha : a < N) (hk : ¬ (a = 0 ∧ k = 11)) : (ntS σ N nN td x f wr ct).1 a k = σ.1 a k := by
  unfold ntS
  rw [sI_at, if_neg hk, sR_1, sI_ne (by omega), sI_ne (by omega), sI_ne (by omega), sI_ne (by omega), sI_ne (by omega), zS_ne (by omega)]
theorem ntS_rl {N nN td : Nat} {x f wr ct : Int32} (hN : 80 ≤ N) {a k : Nat} (ha : a < N) (hk : ¬ (a = 27 ∧ k = nN)) : (ntS σ N nN td x f wr ct).2.1 a k = σ.2.1 a k := by
  unfold ntS
  rw [sI_21, sR_at, if_neg hk, sI_21, sI_21, sI_21, sI_21, sI_21, zS_rn (by omega)]
theorem x11_notice (h : INVP nb nm nl nB nN td nt nw lw w L σ) {j a b : Nat} {f : Int32} (hj : j < nB) (hf : nI td ≤ f ∧ f ≤ 400) (ha : a < 2 ^ 20) (hb : b < 2 ^ 20) (hT : 2 ^ 20 * b + a < 2 ^ nm) (hN : nN < 12) : f_X11_notice L σ 0 (nI j) f (nI a) (nI b) = some (nI nN, pL L 4 0 5, ntS σ L.2.2.1 nN td (nI j) f (wrg σ (2 ^ 20 * b + a) (σ.1 49 j) (nI td) nm) (nI (sb (2 ^ 20 * b + a) nm))) := by
  have hd := h.rd
  obtain ⟨hS, hR, ⟨⟨hnb, hnm, hnl, hnB, hnN, htd, hnt, hnw⟩, ⟨eb, eb'⟩, ⟨em, em'⟩, ⟨el, el'⟩, ⟨eB, eB'⟩, ⟨eN, eN'⟩, ⟨et, et'⟩, ⟨ep, ep'⟩, ew, ew'⟩, hBR, hME, hLI, hBA, hTA, hNO, hHA, hRU, hWA, hSH, hLA⟩ := id h
  have hN80 := hS.nx
  obtain ⟨r, o, ⟨b1, b2, -⟩, -, -, ⟨b14, -⟩, -⟩ := hBA j hj
  have hT40 : 2 ^ 20 * b + a < 2 ^ 40 := Nat.lt_of_lt_of_le hT (Nat.pow_le_pow_right (by omega) hnm)
  have c1 : (lg_cmp (lN (2 ^ 20 * b + a) >>> ((nI nm).toInt64 &&& 63)) 0 = 0) = True := by
    rw [lsh (by omega) (by omega), Nat.div_eq_of_lt hT]
    exact eq_true rfl
  have hl : LE L (pL L 4 0 5) := LE.push _ _ _ _
  have l27 : (pL L 4 0 5).2.1 27 = 12 := by rw [pL_ne (by omega), hS.l27]
  obtain ⟨σ9, e9⟩ : ∃ s, s = sI (sI (sI (zS σ L.2.2.1) L.2.2.1 0 (nI j)) L.2.2.1 1 (nI td)) L.2.2.1 2 f := ⟨_, rfl⟩
  have g9 : ∀ a k, a < L.2.2.1 → σ9.1 a k = σ.1 a k := fun a k ha => by rw [e9, sI_ne (by omega), sI_ne (by omega), sI_ne (by omega), zS_ne (by omega)]
  have r9 : ∀ a k, a < L.2.2.1 → σ9.2.1 a k = σ.2.1 a k := fun a k ha => by rw [e9, sI_21, sI_21, sI_21, zS_rn (by omega)]
  have hd9 : RD nb nm td lw w (pL L 4 0 5) σ9 := hd.al hl g9 r9
  have w9 := x10_wrongIn hd9 hT40 (σ.1 49 j)
  rw [wrg_eq (fun a k _ _ => g9 a k (by omega))] at w9
  have ec : sb (2 ^ 20 * b + a) 40 = sb (2 ^ 20 * b + a) nm := by
    have := sb_hi hT (40 - nm)
    rw [show nm + (40 - nm) = 40 by omega] at this
    exact this
  have bc := fun σ' => lbits (pL L 4 0 5) σ' hT40
  rw [ec] at bc
  have r0 : σ9.2.1 0 0 = some 1 := by rw [r9 _ _ (by omega)]; exact hR.r0_0
  have r10 : σ9.2.1 0 10 = some 27 := by rw [r9 _ _ (by omega)]; exact hR.r0_10
  have v11 : σ9.1 0 11 = nI nN := by rw [g9 _ _ (by omega)]; exact eN
  have vb : σ9.1 (r + 80) 1 = σ.1 49 j := by rw [g9 _ _ (by omega)]; exact b14
  unfold ntS
  simp (disch := omega) only [f_X11_notice, f_X4_init, bAt_in hS hR eB hnB hj, b1, hR.r0_0, et, hf, x11_half L σ ⟨a, rfl, ha⟩, x11_half L σ ⟨b, rfl, hb⟩, list_or ha hb, em, c1, eN, nlt_l, hN, al, show nf 4 = 5 from rfl, zS_rn, zS_ne, ← e9, r0, r10, hR.r0_10, vb, b14, w9, bc, v11, wR_nI l27, sR_1, nI_1, nI_pred, Option.bind_some, Option.elim_some, Option.elim_none, wi, x12_in, b3_z, ckb, ck0, ck1, putI, putR, putJ, not_true_eq_false, not_false_eq_true, if_true, if_false, and_self, and_true, true_and, one_ne0, zero_eq0, ite_self, sI_eq, sI_ne, sI_nk, sI_21, sI_22, sJ_21, sJ_1]
theorem op_notice (h : INVP nb nm nl nB nN td nt nw lw w L σ) (x y z u : Int32) : OPa L (f_X11_notice L σ 0 x y z u) (fun L1 σ1 => f_X12_notice L1 σ1 37 x y z u) := by
  have hN := h.hN
  have h0 := h
  have hd := h.rd
  obtain ⟨hS, hR, ⟨⟨hnb, hnm, hnl, hnB, hnN, htd, hnt, hnw⟩, ⟨eb, eb'⟩, ⟨em, em'⟩, ⟨el, el'⟩, ⟨eB, eB'⟩, ⟨eN, eN'⟩, ⟨et, et'⟩, ⟨ep, ep'⟩, ew, ew'⟩, hBR, hME, hLI, hBA, hTA, hNO, hHA, hRU, hWA, hSH, hLA⟩ := id h
  rcases ixc x nB (by omega) with hx | ⟨j, hj, rfl⟩
  · refine opa_of (v := -1000000001) ?_ ?_ h.iv
    · unfold f_X11_notice
      rw [bAt_out eB hnB hx]
      rfl
    · simp only [f_X12_notice, isBa_out eB' hnB hx, Option.bind_some, Option.elim_some, Option.elim_none, wi, x12_in, b3_z, ckb, ck0, ck1, putI, putR, putJ, not_true_eq_false, not_false_eq_true, if_true, if_false, and_self, and_true, true_and, one_ne0, zero_eq0, ite_self, sI_eq, sI_ne, sI_nk, sI_21, sI_22, sJ_21, sJ_1]
  · obtain ⟨r, o, ⟨b1, b2, -⟩, -, -, ⟨b14, -⟩, -⟩ := hBA j hj
    by_cases hf : nI td ≤ y ∧ y ≤ 400
    · obtain ⟨p, hp⟩ : ∃ p, p = if nm < 20 then nm else 20 := ⟨_, rfl⟩
      obtain ⟨q, hq⟩ : ∃ q, q = nm - 20 := ⟨_, rfl⟩
      have hlist : ∀ (L' : Lay) (σ' : Sto), σ'.1 37 4 = nI nm → f_X12_isList L' σ' 37 z u = some (b3 ((0 ≤ z ∧ z ≤ nI (2 ^ p - 1)) ∧ (0 ≤ u ∧ u ≤ nI (2 ^ q - 1)))) := fun L' σ' e' => by
        have hp20 : p ≤ 20 := by rw [hp]; split <;> omega
        unfold f_X12_isList f_X12_isList_18 f_X12_isList_39
        rw [e']
        have fin : ((f_X12_in L' σ' z 0 ((1 : Int32) <<< (nI p &&& 31) - 1)).bind fun r1 => (if r1 = 0 then (ckN 1 0).bind fun _ => some (0 : Int32) else (f_X12_in L' σ' u 0 ((1 : Int32) <<< (nI q &&& 31) - 1)).bind fun r2 => (if r2 = 0 then (ckN 1 0).bind fun _ => some 0 else (ckN 1 1).bind fun _ => some 1))) = some (b3 ((0 ≤ z ∧ z ≤ nI (2 ^ p - 1)) ∧ (0 ≤ u ∧ u ≤ nI (2 ^ q - 1)))) := by
          rw [one20 p hp20, one20 q (by omega), x12_in, x12_in, wi, wi, ck0, ck1]
          simp only [Option.bind_some]
          by_cases k1 : 0 ≤ z ∧ z ≤ nI (2 ^ p - 1)
          · rw [b3_t k1, if_neg (by decide)]
            by_cases k2 : 0 ≤ u ∧ u ≤ nI (2 ^ q - 1)
            · rw [b3_t k2, if_neg (by decide), b3_t ⟨k1, k2⟩]
            · rw [b3_f k2, if_pos rfl, b3_f (fun v => k2 v.2)]
          · rw [b3_f k1, if_pos rfl, b3_f (fun v => k1 v.1)]
        by_cases k : nm < 20
        · rw [if_neg (show ¬ (20 : Int32) ≤ nI nm from nI_ge (b := 20) k (by omega)), if_neg (show ¬ (20 : Int32) ≤ nI nm from nI_ge (b := 20) k (by omega))]
          rw [hp, if_pos k, hq, show nm - 20 = 0 by omega] at fin ⊢
          exact fin
        · rw [if_pos (show (20 : Int32) ≤ nI nm from nI_le (a := 20) (by omega) (by omega)), if_pos (show (20 : Int32) ≤ nI nm from nI_le (a := 20) (by omega) (by omega)), show nI nm - 20 = nI (nm - 20) from pk_sub (b := 20) (by omega)]
          rw [hp, if_neg k, hq] at fin ⊢
          exact fin
      by_cases hC : (0 ≤ z ∧ z ≤ nI (2 ^ p - 1)) ∧ (0 ≤ u ∧ u ≤ nI (2 ^ q - 1))
      · have hls := fun L' σ' e' => (hlist L' σ' e').trans (congrArg some (b3_t hC))
        obtain ⟨a, b, rfl, rfl, ha, hb, hT⟩ := (list_c hnm hp hq z u).mp hC
        by_cases hNN : nN < 12
        · have hN80 := hS.nx
          obtain ⟨r', hr⟩ : ∃ r', L.2.2.1 = r' + 80 := ⟨L.2.2.1 - 80, by omega⟩
          have A := x11_notice h0 hj hf ha hb hT hNN
          obtain ⟨L1, eL⟩ : ∃ L1, L1 = pL L 4 0 5 := ⟨_, rfl⟩
          have hl : LE L L1 := by rw [eL]; exact LE.push _ _ _ _
          have n1 : L1.2.2.1 = r' + 81 := by rw [eL, pL_n, hr]
          have n2 : L1.2.2.2 = L.2.2.2 + 5 := by rw [eL, pL_w]
          rw [← eL] at A
          obtain ⟨wv, hwv⟩ : ∃ v, v = wrg σ (2 ^ 20 * b + a) (σ.1 49 j) (nI td) nm := ⟨_, rfl⟩
          obtain ⟨cv', hcv⟩ : ∃ v, v = nI (sb (2 ^ 20 * b + a) nm) := ⟨_, rfl⟩
          rw [← hwv, ← hcv] at A
          obtain ⟨σ1, e1⟩ : ∃ s, s = ntS σ L.2.2.1 nN td (nI j) y wv cv' := ⟨_, rfl⟩
          rw [← e1] at A
          have g1 : ∀ a k, a < r' + 80 → ¬ (a = 0 ∧ k = 11) → σ1.1 a k = σ.1 a k := fun a k ha hk => by rw [e1]; exact ntS_lo hN80 (by omega) hk
          have r1 : ∀ a k, a < r' + 80 → ¬ (a = 27 ∧ k = nN) → σ1.2.1 a k = σ.2.1 a k := fun a k ha hk => by rw [e1]; exact ntS_rl hN80 (by omega) hk
          have hR1 : RF lw σ1.2.1 := hR.fr (fun a k a1 a2 a3 a4 => r1 a k (by omega) (by omega))
          -- members as they were
          have hd1 : RD nb nm td lw w L1 σ1 := by
            refine ⟨⟨hS.fr hl, hR1⟩, ⟨hnb, hnm, htd⟩, ⟨(g1 _ _ (by omega) (by omega)).trans eb, (g1 _ _ (by omega) (by omega)).trans eb'⟩, ⟨(g1 _ _ (by omega) (by omega)).trans em, (g1 _ _ (by omega) (by omega)).trans em'⟩, ⟨(g1 _ _ (by omega) (by omega)).trans et, (g1 _ _ (by omega) (by omega)).trans et'⟩, fun i hi => by rw [g1 _ _ (by omega) (by omega), g1 _ _ (by omega) (by omega)]; exact hBR i hi, hME.fr hl (fun _ _ => rfl) (Nat.le_refl _) (Nat.le_refl _) (fun i hi a k p => g1 a k ?_ ?_) (fun i hi => r1 _ _ (by omega) (by omega)) (fun a k _ ha => r1 a k (by omega) (by omega))⟩
            · simp [pMEM1] at p; omega
            · simp [pMEM1] at p; omega
          have B := x12_notice_lp hd1 (a := a) (b := b) (nN := nN) ha hb (show j < 12 by omega) hNN ((g1 _ _ (by omega) (by omega)).trans eN') y
          rw [wrg_eq (fun a k _ _ => g1 a k (by omega) (by omega)), g1 49 j (by omega) (by omega), ← hwv, ← hcv] at B
          have B' : f_X12_notice L1 σ1 37 (nI j) y (nI a) (nI b) = some (nI nN, sI (sI (sI (sI (sI (sI σ1 58 nN (nI j)) 59 nN (nI td)) 60 nN y) 61 nN wv) 62 nN cv') 37 29 (nI (nN + 1))) := by
            have k1 : σ1.1 37 16 = nI nB := (g1 _ _ (by omega) (by omega)).trans eB'
            have k2 : σ1.1 37 1 = nI td := (g1 _ _ (by omega) (by omega)).trans et'
            have k3 : σ1.1 37 29 = nI nN := (g1 _ _ (by omega) (by omega)).trans eN'
            simp (disch := omega) only [f_X12_notice, isBa_in k1 hnB hj, k2, hf, hls L1 σ1 ((g1 _ _ (by omega) (by omega)).trans em'), k3, neq_l, show ¬ nN = 12 by omega, B, Option.bind_some, Option.elim_some, Option.elim_none, wi, x12_in, b3_z, ckb, ck0, ck1, putI, putR, putJ, not_true_eq_false, not_false_eq_true, if_true, if_false, and_self, and_true, true_and, one_ne0, zero_eq0, ite_self, sI_eq, sI_ne, sI_nk, sI_21, sI_22, sJ_21, sJ_1]
          refine ⟨_, _, _, _, A, B', ?_, by omega, by omega⟩
          obtain ⟨σ2, e2⟩ : ∃ s, s = sI (sI (sI (sI (sI (sI σ1 58 nN (nI j)) 59 nN (nI td)) 60 nN y) 61 nN wv) 62 nN cv') 37 29 (nI (nN + 1)) := ⟨_, rfl⟩
          rw [← e2]
          have g2 : ∀ a k, ¬ (58 ≤ a ∧ a ≤ 62 ∧ k = nN) → ¬ (a = 37 ∧ k = 29) → σ2.1 a k = σ1.1 a k := fun a k q1 q2 => by
            rw [e2, sI_at, if_neg (by omega), sI_at, if_neg (by omega), sI_at, if_neg (by omega), sI_at, if_neg (by omega), sI_at, if_neg (by omega), sI_at, if_neg (by omega)]
          have er2 : σ2.2.1 = σ1.2.1 := by rw [e2]; rfl
          have g : ∀ a k, a < r' + 80 → ¬ (a = 0 ∧ k = 11) → ¬ (58 ≤ a ∧ a ≤ 62 ∧ k = nN) → ¬ (a = 37 ∧ k = 29) → σ2.1 a k = σ.1 a k := fun a k q0 q1 q2 q3 => (g2 a k q2 q3).trans (g1 a k q0 q1)
          have ag : ∀ P : Nat → Nat → Bool, (∀ a k, r' + 80 ≤ a → P a k = false) → P 0 11 = false → (∀ a, 58 ≤ a → a ≤ 62 → P a nN = false) → P 37 29 = false → AG P σ σ2 := fun P p0 p1 p2 p5 a k p => by
            refine g a k ?_ ?_ ?_ ?_
            · rcases Nat.lt_or_ge a (r' + 80) with q | q
              · exact q
              · rw [p0 a k q] at p; cases p
            · rintro ⟨rfl, rfl⟩; rw [p1] at p; cases p
            · rintro ⟨q1, q2, rfl⟩; rw [p2 a q1 q2] at p; cases p
            · rintro ⟨rfl, rfl⟩; rw [p5] at p; cases p
          have lo : ∀ P : Nat → Nat → Bool, (∀ a k, 80 ≤ a → P a k = false) → (∀ a k, 58 ≤ a → a ≤ 62 → P a k = false) → P 0 11 = false → P 37 29 = false → AG P σ σ2 := fun P p0 p2 p1 p5 => ag P (fun a k q => p0 a k (by omega)) p1 (fun a q1 q2 => p2 a _ q1 q2) p5
          have hw : ∀ q, q + 80 < L.2.2.1 → (fun q => if q + 80 < L.2.2.1 then w q else 52 + nN) q = w q := fun q hq => if_pos hq
          refine ⟨nb, nm, nl, nB, nN + 1, td, nt, nw, lw, fun q => if q + 80 < L.2.2.1 then w q else 52 + nN, hS.fr hl, by rw [er2]; exact hR1, ?_, hBR.fr (lo _ (fun _ _ q => lo_BR q) (fun a k q1 q2 => pf_of (fun z => by simp [pBRA] at z; omega)) rfl rfl), ?_, hLI.fr (lo _ (fun _ _ q => lo_LI q) (fun a k q1 q2 => pf_of (fun z => by simp [pLIN] at z; omega)) rfl rfl), ?_, hTA.fr (lo _ (fun _ _ q => lo_TA q) (fun a k q1 q2 => pf_of (fun z => by simp [pTAP] at z; omega)) rfl rfl), ?_, hHA.fr (lo _ (fun _ _ q => lo_HA q) (fun a k q1 q2 => pf_of (fun z => by simp [pHAR] at z; omega)) rfl rfl), hRU.fr (lo _ (fun _ _ q => lo_RU q) (fun a k q1 q2 => pf_of (fun z => by simp [pRUL] at z; omega)) rfl rfl), hWA.fr (lo _ (fun _ _ q => lo_WA q) (fun a k q1 q2 => pf_of (fun z => by simp [pWAI] at z; omega)) rfl rfl), hSH.fr (lo _ (fun _ _ q => lo_SH q) (fun a k q1 q2 => pf_of (fun z => by simp [pSHE] at z; omega)) rfl rfl), hLA.fr hR.lw (lo _ (fun _ _ q => lo_LA q) (fun a k q1 q2 => pf_of (fun z => by simp [pLAW] at z; omega)) rfl rfl)⟩
          · have v03 : σ2.1 0 11 = nI (nN + 1) := by rw [g2 _ _ (by omega) (by omega), e1]; exact sI_eq _ _ _ _
            have v37 : σ2.1 37 29 = nI (nN + 1) := by rw [e2]; exact sI_eq _ _ _ _
            refine ⟨⟨hnb, hnm, hnl, hnB, by omega, htd, hnt, hnw⟩, ⟨?_, ?_⟩, ⟨?_, ?_⟩, ⟨?_, ?_⟩, ⟨?_, ?_⟩, ⟨v03, v37⟩, ⟨?_, ?_⟩, ⟨?_, ?_⟩, ?_, ?_⟩
            · rw [g _ _ (by omega) (by omega) (by omega) (by omega)]; exact eb
            · rw [g _ _ (by omega) (by omega) (by omega) (by omega)]; exact eb'
            · rw [g _ _ (by omega) (by omega) (by omega) (by omega)]; exact em
            · rw [g _ _ (by omega) (by omega) (by omega) (by omega)]; exact em'
            · rw [g _ _ (by omega) (by omega) (by omega) (by omega)]; exact el
            · rw [g _ _ (by omega) (by omega) (by omega) (by omega)]; exact el'
            · rw [g _ _ (by omega) (by omega) (by omega) (by omega)]; exact eB
            · rw [g _ _ (by omega) (by omega) (by omega) (by omega)]; exact eB'
            · rw [g _ _ (by omega) (by omega) (by omega) (by omega)]; exact et
            · rw [g _ _ (by omega) (by omega) (by omega) (by omega)]; exact et'
            · rw [g _ _ (by omega) (by omega) (by omega) (by omega)]; exact ep
            · rw [g _ _ (by omega) (by omega) (by omega) (by omega)]; exact ep'
            · rw [g _ _ (by omega) (by omega) (by omega) (by omega)]; exact ew
            · rw [g _ _ (by omega) (by omega) (by omega) (by omega)]; exact ew'
          · refine hME.fr hl hw (by omega) (by omega) (fun i hi => ag _ ?_ rfl ?_ rfl) (fun i hi => ?_) ?_
            · intro a k q'; exact pf_of (fun z => by simp [pMEM1] at z; omega)
            · intro a q1 q2; exact pf_of (fun z => by simp [pMEM1] at z; omega)
            · rw [er2]; exact r1 _ _ (by omega) (by omega)
            · intro a k q1 q2; rw [er2]; exact r1 _ _ (by omega) (by omega)
          · refine hBA.fr hnm hl hw (by omega) (by omega) (fun i hi => ag _ ?_ rfl ?_ rfl) (fun i hi => ?_) ?_
            · intro a k q'; exact pf_of (fun z => by simp [pBAL1] at z; omega)
            · intro a q1 q2; exact pf_of (fun z => by simp [pBAL1] at z; omega)
            · rw [er2]; exact r1 _ _ (by omega) (by omega)
            · intro a k q1 q2; rw [er2]; exact r1 _ _ (by omega) (by omega)
          · intro i hi
            by_cases q : i = nN
            · subst q
              obtain ⟨fd, hfd1, hfd2, efd⟩ := of_btw (a := td) (b := 400) hf (by omega)
              refine ⟨r', j, td, fd, ?_⟩
              have c0 : ∀ k, σ2.1 (r' + 80) k = σ1.1 (r' + 80) k := fun k => g2 _ _ (by omega) (by omega)
              have s0 : σ1.1 (r' + 80) 0 = nI j := by rw [e1, hr]; unfold ntS; rw [sI_ne (by omega), sR_1, sI_nk (by omega), sI_nk (by omega), sI_nk (by omega), sI_nk (by omega), sI_eq]
              have s1 : σ1.1 (r' + 80) 1 = nI td := by rw [e1, hr]; unfold ntS; rw [sI_ne (by omega), sR_1, sI_nk (by omega), sI_nk (by omega), sI_nk (by omega), sI_eq]
              have s2 : σ1.1 (r' + 80) 2 = y := by rw [e1, hr]; unfold ntS; rw [sI_ne (by omega), sR_1, sI_nk (by omega), sI_nk (by omega), sI_eq]
              have s3 : σ1.1 (r' + 80) 3 = wv := by rw [e1, hr]; unfold ntS; rw [sI_ne (by omega), sR_1, sI_nk (by omega), sI_eq]
              have s4 : σ1.1 (r' + 80) 4 = cv' := by rw [e1, hr]; unfold ntS; rw [sI_ne (by omega), sR_1, sI_eq]
              have t58 : σ2.1 58 i = nI j := by rw [e2]; simp (disch := omega) only [sI_eq, sI_ne]
              have t59 : σ2.1 59 i = nI td := by rw [e2]; simp (disch := omega) only [sI_eq, sI_ne]
              have t60 : σ2.1 60 i = y := by rw [e2]; simp (disch := omega) only [sI_eq, sI_ne]
              have t61 : σ2.1 61 i = wv := by rw [e2]; simp (disch := omega) only [sI_eq, sI_ne]
              have t62 : σ2.1 62 i = cv' := by rw [e2]; simp (disch := omega) only [sI_eq, sI_ne]
              have q27 : σ1.2.1 27 i = some (r' + 80) := by rw [e1, hr]; unfold ntS; rw [sI_21, sR_eq]
              refine ⟨⟨by rw [er2]; exact q27, by omega, if_neg (by omega)⟩, ⟨hj, by omega, hfd1, hfd2⟩, ?_⟩
              rw [c0, c0, c0, c0, c0, s0, s1, s2, s3, s4, t58, t59, t60, t61, t62]
              exact ⟨⟨rfl, rfl⟩, ⟨rfl, rfl⟩, ⟨efd, efd⟩, rfl, rfl⟩
            · obtain ⟨rr, bb, gg, ff, hn'⟩ := hNO i (by omega)
              refine ⟨rr, bb, gg, ff, hn'.fr hl hw (by omega) (by omega) (ag _ ?_ rfl ?_ rfl) ?_⟩
              · intro a k q'; exact pf_of (fun z => by simp [pNOT1] at z; omega)
              · intro a q1 q2; exact pf_of (fun z => by simp [pNOT1] at z; omega)
              · rw [er2]; exact r1 _ _ (by omega) (by omega)
        · have hT40 : 2 ^ 20 * b + a < 2 ^ 40 := Nat.lt_of_lt_of_le hT (Nat.pow_le_pow_right (by omega) hnm)
          have c1 : (lg_cmp (lN (2 ^ 20 * b + a) >>> ((nI nm).toInt64 &&& 63)) 0 = 0) = True := by
            rw [lsh (by omega) (by omega), Nat.div_eq_of_lt hT]
            exact eq_true rfl
          refine opa_of (v := -1000000003) ?_ ?_ h.iv
          · simp (disch := omega) only [f_X11_notice, bAt_in hS hR eB hnB hj, b1, hR.r0_0, et, hf, x11_half L σ ⟨a, rfl, ha⟩, x11_half L σ ⟨b, rfl, hb⟩, list_or ha hb, em, c1, eN, nlt_l, hNN, Option.bind_some, Option.elim_some, Option.elim_none, wi, x12_in, b3_z, ckb, ck0, ck1, putI, putR, putJ, not_true_eq_false, not_false_eq_true, if_true, if_false, and_self, and_true, true_and, one_ne0, zero_eq0, ite_self, sI_eq, sI_ne, sI_nk, sI_21, sI_22, sJ_21, sJ_1]
          · simp (disch := omega) only [f_X12_notice, isBa_in eB' hnB hj, et', hf, hls L σ em', eN', neq_l, show nN = 12 by omega, Option.bind_some, Option.elim_some, Option.elim_none, wi, x12_in, b3_z, ckb, ck0, ck1, putI, putR, putJ, not_true_eq_false, not_false_eq_true, if_true, if_false, and_self, and_true, true_and, one_ne0, zero_eq0, ite_self, sI_eq, sI_ne, sI_nk, sI_21, sI_22, sJ_21, sJ_1]
      · refine opa_of (v := -1000000001) ?_ ?_ h.iv
        · by_cases k1 : ∃ a, z = nI a ∧ a < 2 ^ 20
          · by_cases k2 : ∃ b, u = nI b ∧ b < 2 ^ 20
            · have e1 := x11_half L σ k1
              have e2 := x11_half L σ k2
              obtain ⟨a, rfl, ha⟩ := k1
              obtain ⟨b, rfl, hb⟩ := k2
              have hT : 2 ^ nm ≤ 2 ^ 20 * b + a := by
                rcases Nat.lt_or_ge (2 ^ 20 * b + a) (2 ^ nm) with v | v
                · exact absurd ((list_c hnm hp hq _ _).mpr ⟨a, b, rfl, rfl, ha, hb, v⟩) hC
                · exact v
              have hT40 : 2 ^ 20 * b + a < 2 ^ 40 := by omega
              have hdl : (2 ^ 20 * b + a) / 2 ^ nm ≤ 2 ^ 20 * b + a := Nat.div_le_self _ _
              have hdp : 0 < (2 ^ 20 * b + a) / 2 ^ nm := Nat.div_pos hT (Nat.two_pow_pos nm)
              have c1 : (lg_cmp (lN (2 ^ 20 * b + a) >>> ((nI nm).toInt64 &&& 63)) 0 = 0) = False := by
                rw [lsh (by omega) (by omega), lg_cmp_eq]
                refine eq_false (fun v => ?_)
                have := (pk_lEQ (a := (2 ^ 20 * b + a) / 2 ^ nm) (b := 0) (by omega) (by omega)).mp v
                omega
              simp (disch := omega) only [f_X11_notice, bAt_in hS hR eB hnB hj, b1, hR.r0_0, et, hf, e1, e2, list_or ha hb, em, c1, Option.bind_some, Option.elim_some, Option.elim_none, wi, x12_in, b3_z, ckb, ck0, ck1, putI, putR, putJ, not_true_eq_false, not_false_eq_true, if_true, if_false, and_self, and_true, true_and, one_ne0, zero_eq0, ite_self, sI_eq, sI_ne, sI_nk, sI_21, sI_22, sJ_21, sJ_1]
            · unfold f_X11_notice
              rw [bAt_in hS hR eB hnB hj, b1, Option.bind_some, Option.elim_some, hR.r0_0, Option.bind_some, et, wi, b3_t hf, Option.bind_some, if_neg (by decide), x11_half L σ k1, Option.bind_some, if_neg (by decide), x11_halfn L σ k2, Option.bind_some, if_pos rfl]
          · unfold f_X11_notice
            rw [bAt_in hS hR eB hnB hj, b1, Option.bind_some, Option.elim_some, hR.r0_0, Option.bind_some, et, wi, b3_t hf, Option.bind_some, if_neg (by decide), x11_halfn L σ k1, Option.bind_some, if_pos rfl]
        · simp only [f_X12_notice, isBa_in eB' hnB hj, et', hf, hlist L σ em', b3_f hC, Option.bind_some, Option.elim_some, Option.elim_none, wi, x12_in, b3_z, ckb, ck0, ck1, putI, putR, putJ, not_true_eq_false, not_false_eq_true, if_true, if_false, and_self, and_true, true_and, one_ne0, zero_eq0, ite_self, sI_eq, sI_ne, sI_nk, sI_21, sI_22, sJ_21, sJ_1]
    · refine opa_of (v := -1000000001) ?_ ?_ h.iv
      · unfold f_X11_notice
        rw [bAt_in hS hR eB hnB hj, b1, Option.bind_some, Option.elim_some, hR.r0_0, Option.bind_some, et, wi, b3_f hf, Option.bind_some, if_pos rfl]
      · simp only [f_X12_notice, isBa_in eB' hnB hj, et', hf, Option.bind_some, Option.elim_some, Option.elim_none, wi, x12_in, b3_z, ckb, ck0, ck1, putI, putR, putJ, not_true_eq_false, not_false_eq_true, if_true, if_false, and_self, and_true, true_and, one_ne0, zero_eq0, ite_self, sI_eq, sI_ne, sI_nk, sI_21, sI_22, sJ_21, sJ_1]
end
