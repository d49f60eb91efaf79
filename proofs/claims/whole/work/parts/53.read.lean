/-! Of which branch a member is on a day -/
def mvb (σ : Sto) (i : Nat) (d : Int32) : Nat → Int32
  | 0 => -1000000005
  | k + 1 => if σ.1 46 (7 * i + k) ≤ d then σ.1 45 (7 * i + k) else mvb σ i d k
def ofS (σ : Sto) (i : Nat) (d : Int32) : Int32 := if σ.1 43 i = -1 ∨ d < σ.1 43 i then mvb σ i d (σ.1 44 i).toNatClampNeg else -1000000005
theorem mvb_none {σ : Sto} {i : Nat} {d : Int32} : ∀ n, (∀ k, k < n → d < σ.1 46 (7 * i + k)) → mvb σ i d n = -1000000005
  | 0, _ => rfl
  | n + 1, h => by
    unfold mvb
    rw [if_neg (Int32.not_le.mpr (h n (Nat.lt_succ_self n)))]
    exact mvb_none n (fun k hk => h k (Nat.lt_succ_of_lt hk))
section
variable {L : Lay} {σ : Sto} {lw : Nat}
theorem x12_ofOn_lp (hS : SF L) (hR : RF lw σ.2.1) {i n : Nat} {d : Int32} (hi : i < 40) (hmv : σ.1 44 i = nI n) (hn : n ≤ 7) : f_X12_ofOn_29 FU L σ 37 (nI i) d (-1000000005) 0 = some (mvb σ i d n) := by
  refine loop (F := fun k q => f_X12_ofOn_29 k L σ 37 (nI i) d q.1 q.2) (s := fun k => (mvb σ i d k, nI k)) n _ ?_ ?_ (FU_lt (by omega))
  · intro k K hk
    show f_X12_ofOn_29 (K + 1) L σ 37 (nI i) d (mvb σ i d k) (nI k) = f_X12_ofOn_29 K L σ 37 (nI i) d (mvb σ i d (k + 1)) (nI (k + 1))
    simp (disch := omega) only [f_X12_ofOn_29, f_X12_ofOn_72, hR.r37_10, hR.r37_12, hR.r37_11, Option.bind_some, rI_nI hS.l44, rI_nI hS.l45, rI_nI hS.l46, hmv, nI_leI, mul_lit, nI_add, nI_1, mvb]
    rw [if_neg (by omega)]
    by_cases h : d < σ.1 46 (7 * i + k)
    · rw [if_pos h, if_neg (Int32.not_le.mpr h)]
    · rw [if_neg h, if_pos (Int32.not_lt.mp h)]
  · intro K
    show f_X12_ofOn_29 (K + 1) L σ 37 (nI i) d (mvb σ i d n) (nI n) = _
    simp (disch := omega) only [f_X12_ofOn_29, hR.r37_10, hR.r37_12, hR.r37_11, Option.bind_some, rI_nI hS.l44, rI_nI hS.l45, rI_nI hS.l46, hmv, nI_leI]
    rw [if_pos (Nat.le_refl n)]
theorem x12_ofOn (hS : SF L) (hR : RF lw σ.2.1) {i n : Nat} {d : Int32} (hi : i < 40) (hmv : σ.1 44 i = nI n) (hn : n ≤ 7) : f_X12_ofOn L σ 37 (nI i) d = some (ofS σ i d) := by
  simp (disch := omega) only [f_X12_ofOn, f_X12_ofOn_23, hR.r37_9, Option.bind_some, rI_nI hS.l43, x12_ofOn_lp hS hR hi hmv hn, ofS, hmv, nI_clamp]
  by_cases h : σ.1 43 i = -1
  · rw [if_pos h, if_pos (Or.inl h)]
  · rw [if_neg h]
    by_cases h2 : d < σ.1 43 i
    · rw [if_pos h2, if_pos (Or.inr h2)]
    · rw [if_neg h2, if_neg (fun e => e.elim h h2)]
variable {nb td i r mv c : Nat} {w : Nat → Nat}
theorem x2_branchOn_lp (hm : MEM1 nb td w L σ i r mv c) {d : Int32} (hc : nI c ≤ d) : f_X2_branchOn_26 FU L σ (r + 80) d (σ.1 (r + 80) 5) 0 = some (mvb σ i d (mv + 1)) := by
  obtain ⟨⟨m1, m2, m3, m4, m5⟩, ⟨m6, m7, m8, m9⟩, ⟨m10, m11, m12, m13, m14, m15⟩, m16, ⟨m17, m18, m19, m20, m21⟩, m22, m23, m24⟩ := hm
  have e0 : mvb σ i d 1 = σ.1 (r + 80) 5 := by
    unfold mvb
    rw [Nat.add_zero, m21, if_pos hc, m20]
  rw [← e0]
  refine loop (F := fun k q => f_X2_branchOn_26 k L σ (r + 80) d q.1 q.2) (s := fun k => (mvb σ i d (k + 1), nI k)) mv _ ?_ ?_ (FU_lt (by omega))
  · intro k K hk
    show f_X2_branchOn_26 (K + 1) L σ (r + 80) d (mvb σ i d (k + 1)) (nI k) = f_X2_branchOn_26 K L σ (r + 80) d (mvb σ i d (k + 1 + 1)) (nI (k + 1))
    obtain ⟨q1, q2, -⟩ := m22 k hk
    simp (disch := omega) only [f_X2_branchOn_26, f_X2_branchOn_51, m6, m7, Option.bind_some, rI_nI m8, rI_nI m9, m18, nI_leI, nI_1, q1, q2]
    rw [if_neg (by omega)]
    rw [show mvb σ i d (k + 1 + 1) = if σ.1 46 (7 * i + (k + 1)) ≤ d then σ.1 45 (7 * i + (k + 1)) else mvb σ i d (k + 1) from rfl]
    rw [show 7 * i + (k + 1) = 7 * i + k + 1 from rfl]
    by_cases h : d < σ.1 46 (7 * i + k + 1)
    · rw [if_pos h, if_neg (Int32.not_le.mpr h)]
    · rw [if_neg h, if_pos (Int32.not_lt.mp h)]
  · intro K
    show f_X2_branchOn_26 (K + 1) L σ (r + 80) d (mvb σ i d (mv + 1)) (nI mv) = _
    simp (disch := omega) only [f_X2_branchOn_26, m18, nI_leI]
    rw [if_pos (Nat.le_refl mv)]
theorem x2_branchOn (hm : MEM1 nb td w L σ i r mv c) (htd : td ≤ 400) {d : Nat} (hd : d ≤ 400) : f_X2_branchOn L σ (r + 80) (nI d) = some (ofS σ i (nI d)) := by
  have hm' := hm
  obtain ⟨⟨m1, m2, m3, m4, m5⟩, ⟨m6, m7, m8, m9⟩, ⟨m10, m11, m12, m13, m14, m15⟩, m16, ⟨m17, m18, m19, m20, m21⟩, m22, m23, m24⟩ := hm'
  unfold f_X2_branchOn ofS
  rw [m13, m19, nI_clamp (by omega)]
  by_cases h1 : nI d < nI c
  · rw [if_pos h1]
    have hN : mvb σ i (nI d) (mv + 1) = -1000000005 := by
      refine mvb_none _ (fun k hk => ?_)
      cases k with
      | zero => rw [Nat.add_zero, m21]; exact h1
      | succ k =>
        obtain ⟨-, -, e, q1, q2, q3⟩ := m22 k (by omega)
        rw [show 7 * i + (k + 1) = 7 * i + k + 1 from rfl, q3]
        exact Int32.lt_of_lt_of_le h1 (nI_le q1 (by omega))
    rw [hN, ite_self]
  · rw [if_neg h1, x2_branchOn_lp hm (Int32.not_lt.mp h1)]
    rcases m16 with ⟨q1, q2⟩ | ⟨e, q1, q2, q3⟩
    · rw [q2, if_pos (by rw [show (401 : Int32) = nI 401 from rfl]; exact nI_lt (by omega) (by omega)), if_pos (Or.inl q1)]
    · rw [q3, q2]
      by_cases h2 : nI d < nI e
      · rw [if_pos h2, if_pos (Or.inr h2)]
      · rw [if_neg h2, if_neg (fun z => z.elim (nI_nneg (by omega) (by decide)) h2)]
end
