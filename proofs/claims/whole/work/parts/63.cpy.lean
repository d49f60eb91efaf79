/-! copy, lay, roll, feed -/
theorem sub_toInt {a b : Nat} (ha : a < 2 ^ 31) (hb : b < 2 ^ 31) : (nI a - nI b).toInt = (a : Int) - b := by
  rw [Int32.toInt_sub, nI_toInt ha, nI_toInt hb]
  rw [Int.bmod_def, show ((2 ^ 32 : Nat) : Int) = 4294967296 from rfl]
  split <;> omega
theorem wS_cf {σ : Sto} {a off n : Nat} {f g : Nat → Int32} (h : ∀ k, k < n → f k = g k) : wS σ a off n f = wS σ a off n g := by
  refine Prod.ext (funext fun a' => funext fun k' => ?_) rfl
  show (wS σ a off n f).1 a' k' = (wS σ a off n g).1 a' k'
  rw [wS_at, wS_at]
  by_cases u : a' = a ∧ off ≤ k' ∧ k' < off + n
  · rw [if_pos u, if_pos u, h _ (by omega)]
  · rw [if_neg u, if_neg u]
/-- room for many from p on, in n places -/
theorem places_c {n : Nat} (hn : n ≤ 40) (p m : Int32) : (¬ p < 0 ∧ ¬ m < 0 ∧ ¬ (nI n - p) < m) ↔ ∃ i k : Nat, p = nI i ∧ m = nI k ∧ i + k ≤ n := by
  constructor
  · rintro ⟨h1, h2, h3⟩
    obtain ⟨i, hi, rfl⟩ := nI_of h1
    obtain ⟨k, hk, rfl⟩ := nI_of h2
    rw [Int32.lt_iff_toInt_lt, sub_toInt (by omega) hi, nI_toInt hk] at h3
    exact ⟨i, k, rfl, rfl, by omega⟩
  · rintro ⟨i, k, rfl, rfl, h⟩
    refine ⟨nI_pos (by omega), nI_pos (by omega), ?_⟩
    rw [Int32.lt_iff_toInt_lt, sub_toInt (by omega) (by omega), nI_toInt (by omega)]
    omega
section
variable {nb nm nl nB nN td nt nw lw : Nat} {w : Nat → Nat} {L : Lay} {σ : Sto}
theorem x8_hasPlaces {X n : Nat} (hn : n ≤ 40) (e : σ.1 X 1 = nI n) (p m : Int32) : f_X8_hasPlaces L σ X p m = some (b3 (¬ p < 0 ∧ ¬ m < 0 ∧ ¬ (nI n - p) < m)) := by
  unfold f_X8_hasPlaces
  rw [e, ck0, ck1, Option.bind_some, Option.bind_some]
  by_cases h1 : p < 0
  · rw [if_pos h1, b3_f (fun z => z.1 h1)]
  · rw [if_neg h1]
    by_cases h2 : m < 0
    · rw [if_pos h2, b3_f (fun z => z.2.1 h2)]
    · rw [if_neg h2]
      by_cases h3 : nI n < p
      · rw [if_pos h3, b3_f]
        intro z
        obtain ⟨i, k, rfl, rfl, h⟩ := (places_c hn p m).mp z
        exact absurd ((nI_ltI (by omega) (by omega)).mp h3) (by omega)
      · rw [if_neg h3]
        by_cases h4 : nI n - p < m
        · rw [if_pos h4, b3_f (fun z => z.2.2 h4)]
        · rw [if_neg h4, b3_t ⟨h1, h2, h4⟩]
theorem x12_cp1 (hS : SF L) {σ : Sto} (hR : RF lw σ.2.1) {s i n s2 q : Nat} (hs : s < 2) (hi : i + n ≤ 40) (hv : ∀ k, k < 40 → nSh (σ.1 69 (40 * s + k)) = σ.1 69 (40 * s + k)) : f_X12_copy_88 FU L σ 37 (nI s) (nI i) (nI s2) (nI q) (nI n) 0 = f_X12_copy_125 FU L (wS σ 79 0 n (fun k => σ.1 69 (40 * s + i + k))) 37 (nI s2) (nI q) (nI n) 0 := by
  refine loop (F := fun k z => f_X12_copy_88 k L z.1 37 (nI s) (nI i) (nI s2) (nI q) (nI n) z.2) (s := fun m => (wS σ 79 0 m (fun k => σ.1 69 (40 * s + i + k)), nI m)) n _ ?_ ?_ (FU_lt (by omega)) |> (fun z => by rw [wS_0] at z; exact z)
  · intro m K hm
    show f_X12_copy_88 (K + 1) L (wS σ 79 0 m (fun k => σ.1 69 (40 * s + i + k))) 37 (nI s) (nI i) (nI s2) (nI q) (nI n) (nI m) = f_X12_copy_88 K L (wS σ 79 0 (m + 1) (fun k => σ.1 69 (40 * s + i + k))) 37 (nI s) (nI i) (nI s2) (nI q) (nI n) (nI (m + 1))
    have e := wS_step σ 79 0 m (fun k => σ.1 69 (40 * s + i + k))
    rw [Nat.zero_add] at e
    have v := hv (i + m) (by omega)
    rw [← Nat.add_assoc] at v
    simp (disch := omega) only [f_X12_copy_88, nI_leI, show ¬ n ≤ m by omega, wS_21, hR.r37_42, hR.r37_62, mul_lit, nI_add, rI_nI hS.l69, wS_ne, v, wI_nI hS.l79, e, nI_1, if_false, Option.bind_some]
  · intro K
    show f_X12_copy_88 (K + 1) L (wS σ 79 0 n (fun k => σ.1 69 (40 * s + i + k))) 37 (nI s) (nI i) (nI s2) (nI q) (nI n) (nI n) = _
    simp (disch := omega) only [f_X12_copy_88, nI_leI, Nat.le_refl, if_true]
theorem x12_cp2 (hS : SF L) {σ : Sto} (hR : RF lw σ.2.1) {n s q : Nat} (hs : s < 2) (hi : q + n ≤ 40) (hv : ∀ k, k < n → nSh (σ.1 79 k) = σ.1 79 k) : f_X12_copy_125 FU L σ 37 (nI s) (nI q) (nI n) 0 = some (nI n, wS σ 69 (40 * s + q) n (fun k => σ.1 79 k)) := by
  refine loop (F := fun k z => f_X12_copy_125 k L z.1 37 (nI s) (nI q) (nI n) z.2) (s := fun m => (wS σ 69 (40 * s + q) m (fun k => σ.1 79 k), nI m)) n _ ?_ ?_ (FU_lt (by omega)) |> (fun z => by rw [wS_0] at z; exact z)
  · intro m K hm
    show f_X12_copy_125 (K + 1) L (wS σ 69 (40 * s + q) m (fun k => σ.1 79 k)) 37 (nI s) (nI q) (nI n) (nI m) = f_X12_copy_125 K L (wS σ 69 (40 * s + q) (m + 1) (fun k => σ.1 79 k)) 37 (nI s) (nI q) (nI n) (nI (m + 1))
    have e := wS_step σ 69 (40 * s + q) m (fun k => σ.1 79 k)
    simp (disch := omega) only [f_X12_copy_125, nI_leI, show ¬ n ≤ m by omega, wS_21, hR.r37_42, hR.r37_62, mul_lit, nI_add, rI_nI hS.l79, wS_ne, hv m hm, wI_nI hS.l69, e, nI_1, if_false, Option.bind_some]
  · intro K
    show f_X12_copy_125 (K + 1) L (wS σ 69 (40 * s + q) n (fun k => σ.1 79 k)) 37 (nI s) (nI q) (nI n) (nI n) = _
    simp (disch := omega) only [f_X12_copy_125, nI_leI, Nat.le_refl, if_true]
theorem cp_class {s s' X Y X' Y' n n' i j c : Nat} (c1 : f_X11_sheetAt L σ 0 (nI s) = some (some X)) (c2 : σ.2.1 X 0 = some Y) (c3 : L.2.1 Y = 40) (c1' : f_X11_sheetAt L σ 0 (nI s') = some (some X')) (c2' : σ.2.1 X' 0 = some Y') (c3' : L.2.1 Y' = 40) (d1 : σ.1 X 1 = nI n) (d1' : σ.1 X' 1 = nI n') (hn : n ≤ 40) (hn' : n' ≤ 40) (hic : i + c ≤ n) (hjc : j + c ≤ n') (d3 : ∀ k, k < 40 → fits .short (.int (σ.1 Y k)) = true) : ∃ σ1, f_X11_copy L σ 0 (nI s) (nI i) (nI s') (nI j) (nI c) = some (nI c, σ1) ∧ (∀ a k, σ1.1 a k = if a = Y' ∧ j ≤ k ∧ k < j + c then σ.1 Y (i + (k - j)) else σ.1 a k) ∧ σ1.2 = σ.2 := by
  have e1 := x8_hasPlaces (L := L) (σ := σ) (X := X) hn d1 (nI i) (nI c)
  have e2 := x8_hasPlaces (L := L) (σ := σ) (X := X') hn' d1' (nI j) (nI c)
  rw [b3_t ((places_c hn _ _).mpr ⟨i, c, rfl, rfl, hic⟩)] at e1
  rw [b3_t ((places_c hn' _ _).mpr ⟨j, c, rfl, rfl, hjc⟩)] at e2
  have hok : okC L σ Y (nI i) Y' (nI j) (nI c) = true := by
    unfold okC
    rw [nI_clamp (by omega), nI_clamp (by omega), nI_clamp (by omega), c3, c3', decide_eq_true (nI_pos (show i < 2 ^ 31 by omega)), decide_eq_true (nI_pos (show j < 2 ^ 31 by omega)), decide_eq_true (nI_pos (show c < 2 ^ 31 by omega)), decide_eq_true (show i + c ≤ 40 by omega), decide_eq_true (show j + c ≤ 40 by omega)]
    simp only [Bool.true_and, List.all_eq_true, List.mem_range]
    intro a ha
    exact d3 (i + a) (by omega)
  refine ⟨cpS σ Y (nI i) Y' (nI j) (nI c), ?_, fun a k => ?_, rfl⟩
  · unfold f_X11_copy f_X8_isMissing
    rw [c1, c1', Option.bind_some, Option.bind_some, Option.elim_some, Option.elim_some, Option.bind_some, d1, if_neg (nI_nneg (by omega) (by decide)), ck0, Option.bind_some, Option.bind_some, if_pos rfl, Option.bind_some, d1', if_neg (nI_nneg (by omega) (by decide)), Option.bind_some, Option.bind_some, if_pos rfl, Option.bind_some, e1, Option.bind_some, if_neg (by decide), Option.bind_some, e2, Option.bind_some, if_neg (by decide)]
    simp only [Option.bind_some, c2, c2', hok, if_true]
  · show (if a = Y' then va_cpy (σ.1 Y) (σ.1 Y') (nI i).toNatClampNeg (nI j).toNatClampNeg (nI c).toNatClampNeg k else σ.1 a k) = _
    rw [nI_clamp (by omega), nI_clamp (by omega), nI_clamp (by omega)]
    by_cases ea : a = Y'
    · subst ea
      rw [if_pos rfl]
      by_cases ek : j ≤ k ∧ k < j + c
      · rw [pk_cpy_in ek.1 ek.2, if_pos ⟨rfl, ek⟩]
      · rw [pk_cpy_out (by omega), if_neg (fun u => ek u.2)]
    · rw [if_neg ea, if_neg (fun u => ea u.1)]
theorem cp_ref (hS : SF L) {σ : Sto} (hR : RF lw σ.2.1) {s s' n n' i j c : Nat} (hs : s < 2) (hs' : s' < 2) (z : σ.1 68 s = nI n) (z' : σ.1 68 s' = nI n') (hn : n ≤ 40) (hn' : n' ≤ 40) (hic : i + c ≤ n) (hjc : j + c ≤ n') (hv : ∀ k, k < 40 → nSh (σ.1 69 (40 * s + k)) = σ.1 69 (40 * s + k)) : f_X12_copy L σ 37 (nI s) (nI i) (nI s') (nI j) (nI c) = some (nI c, wS (wS σ 79 0 c (fun k => σ.1 69 (40 * s + i + k))) 69 (40 * s' + j) c (fun k => σ.1 69 (40 * s + i + k))) := by
  have hx : 0 ≤ nI s ∧ nI s ≤ 1 := ⟨nI_pos' (by omega), nI_le (b := 1) (by omega) (by omega)⟩
  have hy : 0 ≤ nI s' ∧ nI s' ≤ 1 := ⟨nI_pos' (by omega), nI_le (b := 1) (by omega) (by omega)⟩
  have f1 := x12_cp1 (lw := lw) (σ := σ) (n := c) (i := i) (s2 := s') (q := j) hS hR hs (by omega) hv
  have w1 : ∀ k, k < c → (wS σ 79 0 c (fun k => σ.1 69 (40 * s + i + k))).1 79 k = σ.1 69 (40 * s + i + k) := fun k hk => by
    have := wS_in (σ := σ) (a := 79) (off := 0) (f := fun k => σ.1 69 (40 * s + i + k)) hk
    rw [Nat.zero_add] at this
    exact this
  have f2 := x12_cp2 (lw := lw) (σ := wS σ 79 0 c (fun k => σ.1 69 (40 * s + i + k))) (n := c) (q := j) hS hR hs' (by omega) (fun k hk => by
    rw [w1 k hk, Nat.add_assoc]
    exact hv _ (by omega))
  rw [wS_cf w1] at f2
  obtain ⟨k3, k4, k5⟩ := (places_c hn (nI i) (nI c)).mpr ⟨i, c, rfl, rfl, hic⟩
  obtain ⟨k6, -, k7⟩ := (places_c hn' (nI j) (nI c)).mpr ⟨j, c, rfl, rfl, hjc⟩
  have r1 : rI L σ 68 (nI s) = some (nI n) := by rw [rI_nI hS.l68 hs (by omega), z]
  have r2 : rI L σ 68 (nI s') = some (nI n') := by rw [rI_nI hS.l68 hs' (by omega), z']
  unfold f_X12_copy
  rw [isS_in σ hx, isS_in σ hy, Option.bind_some, if_neg (by decide), Option.bind_some, if_neg (by decide), hR.r37_41, Option.bind_some, r1, Option.bind_some, if_neg (nI_nneg (by omega) (by decide)), Option.bind_some, r2, Option.bind_some, if_neg (nI_nneg (by omega) (by decide)), if_neg k4, if_neg k3, if_neg k6, Option.bind_some, r1, Option.bind_some, if_neg k5, Option.bind_some, r2, Option.bind_some, if_pos (Int32.not_lt.mp k7), f1, f2]
theorem op_copy (h : INVP nb nm nl nB nN td nt nw lw w L σ) (x p y q m : Int32) : OPs L (f_X11_copy L σ 0 x p y q m) (fun σ1 => f_X12_copy L σ1 37 x p y q m) := by
  have h0 := h
  obtain ⟨hS, hR, ⟨⟨hnb, hnm, hnl, hnB, hnN, htd, hnt, hnw⟩, ⟨eb, eb'⟩, ⟨em, em'⟩, ⟨el, el'⟩, ⟨eB, eB'⟩, ⟨eN, eN'⟩, ⟨et, et'⟩, ⟨ep, ep'⟩, ew, ew'⟩, hBR, hME, hLI, hBA, hTA, hNO, hHA, hRU, hWA, hSH, hLA⟩ := id h
  by_cases hx : 0 ≤ x ∧ x ≤ 1
  · obtain ⟨s, X, Y, hs, eX, eY, rfl, c1, c2, c3⟩ := sh_in (σ := σ) hS hR hx
    by_cases hy : 0 ≤ y ∧ y ≤ 1
    · obtain ⟨s', X', Y', hs', eX', eY', rfl, c1', c2', c3'⟩ := sh_in (σ := σ) hS hR hy
      have hs1 := hSH.get hs
      rw [← eX, ← eY] at hs1
      obtain ⟨⟨d1, d2⟩, d3⟩ := hs1
      have hs1' := hSH.get hs'
      rw [← eX', ← eY'] at hs1'
      obtain ⟨⟨d1', d2'⟩, d3'⟩ := hs1'
      rcases d2 with z | ⟨n, hn, z⟩
      · refine ops_of (v := -1000000011) (σ1 := σ) (σ2 := σ) ?_ ?_ h.iv
        · simp only [f_X11_copy, f_X8_isMissing, c1, c1', d1, z, m1m1, Option.bind_some, Option.elim_some, Option.elim_none, wi, x12_in, b3_z, ckb, ck0, ck1, putI, putR, putJ, not_true_eq_false, not_false_eq_true, if_true, if_false, and_self, and_true, true_and, one_ne0, zero_eq0, ite_self, sI_eq, sI_ne, sI_nk, sI_21, sI_22, sJ_21, sJ_1]
        · unfold f_X12_copy
          rw [isS_in σ hx, isS_in σ hy, Option.bind_some, if_neg (by decide), Option.bind_some, if_neg (by decide), hR.r37_41, Option.bind_some, rI_nI hS.l68 hs (by omega), z, Option.bind_some, if_pos rfl]
      · rcases d2' with z' | ⟨n', hn', z'⟩
        · refine ops_of (v := -1000000011) (σ1 := σ) (σ2 := σ) ?_ ?_ h.iv
          · simp (disch := omega) only [f_X11_copy, f_X8_isMissing, c1, c1', d1, d1', z, z', m1m1, nIm1, Option.bind_some, Option.elim_some, Option.elim_none, wi, x12_in, b3_z, ckb, ck0, ck1, putI, putR, putJ, not_true_eq_false, not_false_eq_true, if_true, if_false, and_self, and_true, true_and, one_ne0, zero_eq0, ite_self, sI_eq, sI_ne, sI_nk, sI_21, sI_22, sJ_21, sJ_1]
          · unfold f_X12_copy
            rw [isS_in σ hx, isS_in σ hy, Option.bind_some, if_neg (by decide), Option.bind_some, if_neg (by decide), hR.r37_41, Option.bind_some, rI_nI hS.l68 hs (by omega), z, Option.bind_some, if_neg (nI_nneg (by omega) (by decide)), Option.bind_some, rI_nI hS.l68 hs' (by omega), z', Option.bind_some, if_pos rfl]
        · have e1 := x8_hasPlaces (L := L) (σ := σ) (X := X) hn (d1.trans z) p m
          have e2 := x8_hasPlaces (L := L) (σ := σ) (X := X') hn' (d1'.trans z') q m
          have r1 : rI L σ 68 (nI s) = some (nI n) := by rw [rI_nI hS.l68 hs (by omega), z]
          have r2 : rI L σ 68 (nI s') = some (nI n') := by rw [rI_nI hS.l68 hs' (by omega), z']
          by_cases k1 : ¬ p < 0 ∧ ¬ m < 0 ∧ ¬ (nI n - p) < m
          · by_cases k2 : ¬ q < 0 ∧ ¬ m < 0 ∧ ¬ (nI n' - q) < m
            · obtain ⟨i, c, rfl, rfl, hic⟩ := (places_c hn p m).mp k1
              obtain ⟨j, c', rfl, ec, hjc⟩ := (places_c hn' q (nI c)).mp k2
              obtain rfl : c = c' := (nI_eq (by omega) (by omega)).mp ec
              obtain ⟨σ1, hst, hcp, hcr⟩ := cp_class (L := L) (σ := σ) (i := i) (j := j) (c := c) c1 c2 c3 c1' c2' c3' (d1.trans z) (d1'.trans z') hn hn' hic hjc (fun k hk => (d3 k hk).2.1)
              have hR1 : RF lw σ1.2.1 := by rw [hcr]; exact hR
              have lowe : ∀ a k, ¬ (33 ≤ a ∧ a ≤ 36) → σ1.1 a k = σ.1 a k := fun a k ha => by rw [hcp, if_neg (fun u => ha (by omega))]
              have v69 : ∀ s, s < 2 → ∀ k, k < 40 → nSh (σ.1 69 (40 * s + k)) = σ.1 69 (40 * s + k) := fun s hs k hk => by
                obtain ⟨t1, -, t3⟩ := (hSH.get hs).2 k hk
                rw [← t1]; exact t3
              have hrf := cp_ref (lw := lw) (L := L) (σ := σ1) (i := i) (j := j) (c := c) hS hR1 hs hs' ((lowe _ _ (by omega)).trans z) ((lowe _ _ (by omega)).trans z') hn hn' hic hjc (fun k hk => by rw [lowe _ _ (by omega)]; exact v69 s hs k hk)
              have g1 : (fun k => σ1.1 69 (40 * s + i + k)) = (fun k => σ.1 69 (40 * s + i + k)) := funext (fun k => lowe _ _ (by omega))
              rw [g1] at hrf
              refine ops_of (v := nI c) hst hrf (h0.she (fun a k z1 z2 z3 z4 => ?_) (by rw [wS_21, wS_21, hcr]) (SHE.of (fun t ht => ?_)))
              · rw [wS_ne z3, wS_ne z4, lowe _ _ z1]
              · obtain ⟨t1, t2⟩ := hSH.get ht
                have u1 : ∀ a k, ¬ a = 69 → ¬ a = 79 → ¬ (a = Y') → (wS (wS σ1 79 0 c (fun k => σ.1 69 (40 * s + i + k))) 69 (40 * s' + j) c (fun k => σ.1 69 (40 * s + i + k))).1 a k = σ.1 a k := fun a k a1 a2 a3 => by rw [wS_ne a1, wS_ne a2, hcp, if_neg (fun u => a3 u.1)]
                refine ⟨⟨?_, ?_⟩, fun k hk => ?_⟩
                · rw [u1 _ _ (by omega) (by omega) (by omega), u1 _ _ (by omega) (by omega) (by omega)]; exact t1.1
                · rw [u1 _ _ (by omega) (by omega) (by omega)]; exact t1.2
                · rw [wS_ne (a' := 34 + 2 * t) (by omega), wS_ne (by omega), hcp, wS_at]
                  by_cases e : t = s' ∧ j ≤ k ∧ k < j + c
                  · obtain ⟨e1, e2, e3⟩ := e
                    subst e1
                    rw [if_pos ⟨by omega, e2, e3⟩, if_pos ⟨rfl, by omega, by omega⟩]
                    obtain ⟨w1, w2, w3⟩ := d3 (i + (k - j)) (by omega)
                    have : 40 * s + i + (40 * t + k - (40 * t + j)) = 40 * s + (i + (k - j)) := by omega
                    rw [this]
                    exact ⟨w1, w2, w3⟩
                  · rw [if_neg (fun u => e ⟨by omega, u.2⟩), if_neg (fun u => e ⟨by omega, by omega, by omega⟩), wS_ne (by omega), lowe _ _ (by omega)]
                    exact t2 k hk
            · refine ops_of (v := -1000000013) (σ1 := σ) (σ2 := σ) ?_ ?_ h.iv
              · simp (disch := omega) only [f_X11_copy, f_X8_isMissing, c1, c1', d1, d1', z, z', nIm1, e1, e2, b3_t k1, b3_f k2, Option.bind_some, Option.elim_some, Option.elim_none, wi, x12_in, b3_z, ckb, ck0, ck1, putI, putR, putJ, not_true_eq_false, not_false_eq_true, if_true, if_false, and_self, and_true, true_and, one_ne0, zero_eq0, ite_self, sI_eq, sI_ne, sI_nk, sI_21, sI_22, sJ_21, sJ_1]
              · unfold f_X12_copy
                rw [isS_in σ hx, isS_in σ hy, Option.bind_some, if_neg (by decide), Option.bind_some, if_neg (by decide), hR.r37_41, Option.bind_some, r1, Option.bind_some, if_neg (nI_nneg (by omega) (by decide)), Option.bind_some, r2, Option.bind_some, if_neg (nI_nneg (by omega) (by decide)), if_neg k1.2.1, if_neg k1.1]
                by_cases k6 : q < 0
                · rw [if_pos k6]
                · rw [if_neg k6, Option.bind_some, r1, Option.bind_some, if_neg k1.2.2, Option.bind_some, r2, Option.bind_some, if_neg (fun u => k2 ⟨k6, k1.2.1, Int32.not_lt.mpr u⟩)]
          · refine ops_of (v := -1000000013) (σ1 := σ) (σ2 := σ) ?_ ?_ h.iv
            · simp (disch := omega) only [f_X11_copy, f_X8_isMissing, c1, c1', d1, d1', z, z', nIm1, e1, b3_f k1, Option.bind_some, Option.elim_some, Option.elim_none, wi, x12_in, b3_z, ckb, ck0, ck1, putI, putR, putJ, not_true_eq_false, not_false_eq_true, if_true, if_false, and_self, and_true, true_and, one_ne0, zero_eq0, ite_self, sI_eq, sI_ne, sI_nk, sI_21, sI_22, sJ_21, sJ_1]
            · unfold f_X12_copy
              rw [isS_in σ hx, isS_in σ hy, Option.bind_some, if_neg (by decide), Option.bind_some, if_neg (by decide), hR.r37_41, Option.bind_some, r1, Option.bind_some, if_neg (nI_nneg (by omega) (by decide)), Option.bind_some, r2, Option.bind_some, if_neg (nI_nneg (by omega) (by decide))]
              by_cases k3 : m < 0
              · rw [if_pos k3]
              · rw [if_neg k3]
                by_cases k4 : p < 0
                · rw [if_pos k4]
                · rw [if_neg k4]
                  by_cases k5 : q < 0
                  · rw [if_pos k5]
                  · rw [if_neg k5, Option.bind_some, r1, Option.bind_some, if_pos (Classical.not_not.mp (fun u => k1 ⟨k4, k3, u⟩))]
    · refine ops_of (v := -1000000001) (σ1 := σ) (σ2 := σ) ?_ ?_ h.iv
      · simp only [f_X11_copy, c1, sh_out hy, Option.bind_some, Option.elim_some, Option.elim_none, wi, x12_in, b3_z, ckb, ck0, ck1, putI, putR, putJ, not_true_eq_false, not_false_eq_true, if_true, if_false, and_self, and_true, true_and, one_ne0, zero_eq0, ite_self, sI_eq, sI_ne, sI_nk, sI_21, sI_22, sJ_21, sJ_1]
      · unfold f_X12_copy
        rw [isS_in σ hx, isS_out σ hy, Option.bind_some, if_neg (by decide), Option.bind_some, if_pos rfl]
  · refine ops_of (v := -1000000001) (σ1 := σ) (σ2 := σ) ?_ ?_ h.iv
    · by_cases hy : 0 ≤ y ∧ y ≤ 1
      · obtain ⟨s', X', Y', hs', eX', eY', rfl, c1', c2', c3'⟩ := sh_in (σ := σ) hS hR hy
        simp only [f_X11_copy, sh_out hx, c1', Option.bind_some, Option.elim_some, Option.elim_none, wi, x12_in, b3_z, ckb, ck0, ck1, putI, putR, putJ, not_true_eq_false, not_false_eq_true, if_true, if_false, and_self, and_true, true_and, one_ne0, zero_eq0, ite_self, sI_eq, sI_ne, sI_nk, sI_21, sI_22, sJ_21, sJ_1]
      · simp only [f_X11_copy, sh_out hx, sh_out hy, Option.bind_some, Option.elim_some, Option.elim_none, wi, x12_in, b3_z, ckb, ck0, ck1, putI, putR, putJ, not_true_eq_false, not_false_eq_true, if_true, if_false, and_self, and_true, true_and, one_ne0, zero_eq0, ite_self, sI_eq, sI_ne, sI_nk, sI_21, sI_22, sJ_21, sJ_1]
    · unfold f_X12_copy
      rw [isS_out σ hx, Option.bind_some, if_pos rfl]
/-- harm from a sheet's place -/
def hrm (v : Int32) : Int32 := if 0 ≤ v ∧ v ≤ 999 then v else 0
theorem hrm_ok (v : Int32) : ∃ n, n ≤ 999 ∧ hrm v = nI n := by
  unfold hrm
  by_cases h : 0 ≤ v ∧ v ≤ 999
  · rw [if_pos h]; exact of_le (n := 999) h (by omega)
  · rw [if_neg h]; exact ⟨0, by omega, rfl⟩
theorem x6_lay (hS : SF L) {σ : Sto} (hR : RF lw σ.2.1) {X Y n : Nat} (c2 : σ.2.1 X 0 = some Y) (c3 : L.2.1 Y = 40) (hY : Y ≠ 29) (hn : n ≤ 12) : f_X6_takeHarms_12 FU L σ 28 (some X) (nI n) 0 = some (nI n, wS σ 29 0 n (fun k => hrm (σ.1 Y k))) := by
  refine loop (F := fun k z => f_X6_takeHarms_12 k L z.1 28 (some X) (nI n) z.2) (s := fun m => (wS σ 29 0 m (fun k => hrm (σ.1 Y k)), nI m)) n _ ?_ ?_ (FU_lt (by omega)) |> (fun z => by rw [wS_0] at z; exact z)
  · intro m K hm
    show f_X6_takeHarms_12 (K + 1) L (wS σ 29 0 m (fun k => hrm (σ.1 Y k))) 28 (some X) (nI n) (nI m) = f_X6_takeHarms_12 K L (wS σ 29 0 (m + 1) (fun k => hrm (σ.1 Y k))) 28 (some X) (nI n) (nI (m + 1))
    have e := wS_step σ 29 0 m (fun k => hrm (σ.1 Y k))
    rw [Nat.zero_add] at e
    rw [← e]
    simp (disch := omega) only [f_X6_takeHarms_12, f_X6_takeHarms_48, nI_leI, show ¬ n ≤ m by omega, wS_21, c2, hR.r28_0, rI_nI c3, wS_ne hY, wI_nI hS.l29, nI_1, Option.bind_some, Option.elim_some, Option.elim_none, wi, x12_in, b3_z, ckb, ck0, ck1, putI, putR, putJ, not_true_eq_false, not_false_eq_true, if_true, if_false, and_self, and_true, true_and, one_ne0, zero_eq0, ite_self, sI_eq, sI_ne, sI_nk, sI_21, sI_22, sJ_21, sJ_1]
    unfold hrm
    by_cases q : 0 ≤ σ.1 Y m ∧ σ.1 Y m ≤ 999
    · rw [if_neg (not_not_intro q), if_pos q]
    · rw [if_pos q, if_neg q]
  · intro K
    show f_X6_takeHarms_12 (K + 1) L (wS σ 29 0 n (fun k => hrm (σ.1 Y k))) 28 (some X) (nI n) (nI n) = _
    simp (disch := omega) only [f_X6_takeHarms_12, nI_leI, Nat.le_refl, if_true]
theorem x12_lay_lp (hS : SF L) {σ : Sto} (hR : RF lw σ.2.1) {s n : Nat} (hs : s < 2) (hn : n ≤ 12) : f_X12_lay_48 FU L σ 37 (nI s) (nI n) 0 = some (nI n, wS σ 63 0 n (fun k => hrm (σ.1 69 (40 * s + k)))) := by
  refine loop (F := fun k z => f_X12_lay_48 k L z.1 37 (nI s) (nI n) z.2) (s := fun m => (wS σ 63 0 m (fun k => hrm (σ.1 69 (40 * s + k))), nI m)) n _ ?_ ?_ (FU_lt (by omega)) |> (fun z => by rw [wS_0] at z; exact z)
  · intro m K hm
    show f_X12_lay_48 (K + 1) L (wS σ 63 0 m (fun k => hrm (σ.1 69 (40 * s + k)))) 37 (nI s) (nI n) (nI m) = f_X12_lay_48 K L (wS σ 63 0 (m + 1) (fun k => hrm (σ.1 69 (40 * s + k)))) 37 (nI s) (nI n) (nI (m + 1))
    have e := wS_step σ 63 0 m (fun k => hrm (σ.1 69 (40 * s + k)))
    rw [Nat.zero_add] at e
    rw [← e]
    simp (disch := omega) only [f_X12_lay_48, f_X12_lay_89, nI_leI, show ¬ n ≤ m by omega, wS_21, hR.r37_42, hR.r37_35, mul_lit, nI_add, rI_nI hS.l69, wS_ne, wI_nI hS.l63, nI_1, Option.bind_some, Option.elim_some, Option.elim_none, wi, x12_in, b3_z, ckb, ck0, ck1, putI, putR, putJ, not_true_eq_false, not_false_eq_true, if_true, if_false, and_self, and_true, true_and, one_ne0, zero_eq0, ite_self, sI_eq, sI_ne, sI_nk, sI_21, sI_22, sJ_21, sJ_1]
    unfold hrm
    by_cases q : 0 ≤ σ.1 69 (40 * s + m) ∧ σ.1 69 (40 * s + m) ≤ 999
    · rw [if_neg (not_not_intro q), if_pos q]
    · rw [if_pos q, if_neg q]
  · intro K
    show f_X12_lay_48 (K + 1) L (wS σ 63 0 n (fun k => hrm (σ.1 69 (40 * s + k)))) 37 (nI s) (nI n) (nI n) = _
    simp (disch := omega) only [f_X12_lay_48, nI_leI, Nat.le_refl, if_true]
theorem op_lay (h : INVP nb nm nl nB nN td nt nw lw w L σ) (x : Int32) : OPs L (f_X11_lay L σ 0 x) (fun σ1 => f_X12_lay L σ1 37 x) := by
  have hN := h.hN
  obtain ⟨hS, hR, ⟨⟨hnb, hnm, hnl, hnB, hnN, htd, hnt, hnw⟩, ⟨eb, eb'⟩, ⟨em, em'⟩, ⟨el, el'⟩, ⟨eB, eB'⟩, ⟨eN, eN'⟩, ⟨et, et'⟩, ⟨ep, ep'⟩, ew, ew'⟩, hBR, hME, hLI, hBA, hTA, hNO, hHA, hRU, hWA, hSH, hLA⟩ := id h
  by_cases hx : 0 ≤ x ∧ x ≤ 1
  · obtain ⟨s, X, Y, hs, eX, eY, rfl, c1, c2, c3⟩ := sh_in (σ := σ) hS hR hx
    have hs1 := hSH.get hs
    rw [← eX, ← eY] at hs1
    obtain ⟨⟨d1, d2⟩, d3⟩ := hs1
    rcases d2 with z | ⟨n, hn, z⟩
    · refine ops_of (v := -1000000011) (σ1 := σ) (σ2 := σ) ?_ ?_ h.iv
      · simp only [f_X11_lay, f_X8_isMissing, c1, d1, z, m1m1, Option.bind_some, Option.elim_some, Option.elim_none, wi, x12_in, b3_z, ckb, ck0, ck1, putI, putR, putJ, not_true_eq_false, not_false_eq_true, if_true, if_false, and_self, and_true, true_and, one_ne0, zero_eq0, ite_self, sI_eq, sI_ne, sI_nk, sI_21, sI_22, sJ_21, sJ_1]
      · simp (disch := omega) only [f_X12_lay, isS_in _ hx, hR.r37_41, rI_nI hS.l68, z, m1m1, Option.bind_some, Option.elim_some, Option.elim_none, wi, x12_in, b3_z, ckb, ck0, ck1, putI, putR, putJ, not_true_eq_false, not_false_eq_true, if_true, if_false, and_self, and_true, true_and, one_ne0, zero_eq0, ite_self, sI_eq, sI_ne, sI_nk, sI_21, sI_22, sJ_21, sJ_1]
    · obtain ⟨k, hk, hk2, hk3⟩ : ∃ k, k ≤ 12 ∧ (if nI n < 12 then nI n else 12) = nI k ∧ k ≤ n := by
        by_cases q : n < 12
        · exact ⟨n, by omega, if_pos (nI_lt (b := 12) q (by omega)), by omega⟩
        · exact ⟨12, by omega, if_neg (nI_nlt (b := 12) (by omega) (by omega)), by omega⟩
      have hf : (fun j => hrm ((wS σ 29 0 k (fun k => hrm (σ.1 Y k))).1 69 (40 * s + j))) = (fun j => hrm (σ.1 69 (40 * s + j))) := funext (fun j => by rw [wS_ne (by omega)])
      refine ops_of (v := nI k) (σ1 := wS σ 29 0 k (fun k => hrm (σ.1 Y k))) (σ2 := wS (wS σ 29 0 k (fun k => hrm (σ.1 Y k))) 63 0 k (fun j => hrm (σ.1 69 (40 * s + j)))) ?_ ?_ ?_
      · simp (disch := omega) only [f_X11_lay, f_X8_isMissing, f_X6_takeHarms, c1, d1, z, nIm1, hR.r0_12, hk2, x6_lay hS hR c2 c3 (show Y ≠ 29 by omega) hk, Option.bind_some, Option.elim_some, Option.elim_none, wi, x12_in, b3_z, ckb, ck0, ck1, putI, putR, putJ, not_true_eq_false, not_false_eq_true, if_true, if_false, and_self, and_true, true_and, one_ne0, zero_eq0, ite_self, sI_eq, sI_ne, sI_nk, sI_21, sI_22, sJ_21, sJ_1]
      · have hR' : RF lw (wS σ 29 0 k (fun k => hrm (σ.1 Y k))).2.1 := hR
        have z' : (wS σ 29 0 k (fun k => hrm (σ.1 Y k))).1 68 s = nI n := by rw [wS_ne (by omega)]; exact z
        have f1 := x12_lay_lp (lw := lw) hS hR' hs hk
        rw [hf] at f1
        simp (disch := omega) only [f_X12_lay, f_X12_lay_45, isS_in _ hx, hR'.r37_41, rI_nI hS.l68, z', nIm1, Option.bind_some, Option.elim_some, Option.elim_none, wi, x12_in, b3_z, ckb, ck0, ck1, putI, putR, putJ, not_true_eq_false, not_false_eq_true, if_true, if_false, and_self, and_true, true_and, one_ne0, zero_eq0, ite_self, sI_eq, sI_ne, sI_nk, sI_21, sI_22, sJ_21, sJ_1]
        by_cases q : n < 12
        · rw [if_neg (show ¬ (12 : Int32) ≤ nI n from nI_ge (b := 12) q (by omega))]
          rw [if_pos (show nI n < (12 : Int32) from nI_lt (b := 12) q (by omega))] at hk2
          rw [hk2]
          exact f1
        · rw [if_pos (show (12 : Int32) ≤ nI n from nI_le (a := 12) (by omega) (by omega))]
          rw [if_neg (show ¬ nI n < (12 : Int32) from nI_nlt (b := 12) (by omega) (by omega))] at hk2
          rw [hk2]
          exact f1
      · refine ⟨nb, nm, nl, nB, nN, td, nt, nw, lw, w, hS, hR, hN.fr (((AG.rf _ _).ws (fun _ => rfl)).ws (fun _ => rfl)), hBR.fr (((AG.rf _ _).ws (fun _ => rfl)).ws (fun _ => rfl)), hME.f (by omega) (by omega) (fun i _ => (((AG.rf _ _).ws (fun _ => rfl)).ws (fun _ => rfl))) rfl, hLI.fr (((AG.rf _ _).ws (fun _ => rfl)).ws (fun _ => rfl)), hBA.f hnm (by omega) (by omega) (fun j _ => (((AG.rf _ _).ws (fun _ => rfl)).ws (fun _ => rfl))) rfl, hTA.fr (((AG.rf _ _).ws (fun _ => rfl)).ws (fun _ => rfl)), hNO.f (by omega) (by omega) (fun j _ => (((AG.rf _ _).ws (fun _ => rfl)).ws (fun _ => rfl))) rfl, ?_, hRU.fr (((AG.rf _ _).ws (fun _ => rfl)).ws (fun _ => rfl)), hWA.fr (((AG.rf _ _).ws (fun _ => rfl)).ws (fun _ => rfl)), hSH.fr (((AG.rf _ _).ws (fun _ => rfl)).ws (fun _ => rfl)), hLA.fr hR.lw (((AG.rf _ _).ws (fun _ => rfl)).ws (fun _ => rfl))⟩
        intro i hi
        by_cases q : i < k
        · have w1 := wS_in (σ := wS σ 29 0 k (fun k => hrm (σ.1 Y k))) (a := 63) (off := 0) (f := fun j => hrm (σ.1 69 (40 * s + j))) q
          have w2 := wS_in (σ := σ) (a := 29) (off := 0) (f := fun k => hrm (σ.1 Y k)) q
          rw [Nat.zero_add] at w1 w2
          obtain ⟨v, v1, v2⟩ := hrm_ok (σ.1 Y i)
          refine ⟨v, v1, ?_, ?_⟩
          · rw [wS_ne (by omega), w2, v2]
          · rw [w1, ← (d3 i (by omega)).1, v2]
        · rw [wS_ne (a' := 29) (by omega), wS_out (by omega), wS_out (by omega), wS_ne (by omega)]
          exact hHA i hi
  · refine ops_of (v := -1000000001) (σ1 := σ) (σ2 := σ) ?_ ?_ h.iv
    · simp only [f_X11_lay, sh_out hx, Option.bind_some, Option.elim_some, Option.elim_none, wi, x12_in, b3_z, ckb, ck0, ck1, putI, putR, putJ, not_true_eq_false, not_false_eq_true, if_true, if_false, and_self, and_true, true_and, one_ne0, zero_eq0, ite_self, sI_eq, sI_ne, sI_nk, sI_21, sI_22, sJ_21, sJ_1]
    · simp only [f_X12_lay, isS_out _ hx, Option.bind_some, Option.elim_some, Option.elim_none, wi, x12_in, b3_z, ckb, ck0, ck1, putI, putR, putJ, not_true_eq_false, not_false_eq_true, if_true, if_false, and_self, and_true, true_and, one_ne0, zero_eq0, ite_self, sI_eq, sI_ne, sI_nk, sI_21, sI_22, sJ_21, sJ_1]
end
