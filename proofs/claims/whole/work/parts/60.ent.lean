/-! Who is of what: readers over members -/
def RD (nb nm td lw : Nat) (w : Nat → Nat) (L : Lay) (σ : Sto) : Prop := (SF L ∧ RF lw σ.2.1) ∧ (nb ≤ 6 ∧ nm ≤ 40 ∧ td ≤ 400) ∧ (σ.1 1 1 = nI nb ∧ σ.1 37 2 = nI nb) ∧ (σ.1 1 3 = nI nm ∧ σ.1 37 4 = nI nm) ∧ (σ.1 1 4 = nI td ∧ σ.1 37 1 = nI td) ∧ BRA nb σ ∧ MEM nb nm td w L σ
theorem INVP.rd {nb nm nl nB nN td nt nw lw : Nat} {w : Nat → Nat} {L : Lay} {σ : Sto} (h : INVP nb nm nl nB nN td nt nw lw w L σ) : RD nb nm td lw w L σ := by
  obtain ⟨hS, hR, ⟨⟨hnb, hnm, hnl, hnB, hnN, htd, hnt, hnw⟩, ⟨eb, eb'⟩, ⟨em, em'⟩, ⟨el, el'⟩, ⟨eB, eB'⟩, ⟨eN, eN'⟩, ⟨et, et'⟩, ⟨ep, ep'⟩, ew, ew'⟩, hBR, hME, hLI, hBA, hTA, hNO, hHA, hRU, hWA, hSH, hLA⟩ := id h
  exact ⟨⟨hS, hR⟩, ⟨hnb, hnm, htd⟩, ⟨eb, eb'⟩, ⟨em, em'⟩, ⟨et, et'⟩, hBR, hME⟩
def pRD (w : Nat → Nat) (N a k : Nat) : Bool := pNUM a k || pBRA a k || (Nat.ble 39 a && Nat.ble a 46) || ((Nat.ble 80 a && Nat.blt a N) && Nat.blt (w (a - 80)) 40)
theorem RD.fr {nb nm td lw : Nat} {w : Nat → Nat} {L : Lay} {σ σ' : Sto} (h : RD nb nm td lw w L σ) (e : AG (pRD w L.2.2.1) σ σ') (er : σ'.2.1 = σ.2.1) : RD nb nm td lw w L σ' := by
  obtain ⟨⟨hS, hR⟩, ⟨hnb, hnm, htd⟩, ⟨eb, eb'⟩, ⟨em, em'⟩, ⟨et, et'⟩, hBR, hME⟩ := id h
  refine ⟨⟨hS, by rw [er]; exact hR⟩, ⟨hnb, hnm, htd⟩, ⟨(e _ _ rfl).trans eb, (e _ _ rfl).trans eb'⟩, ⟨(e _ _ rfl).trans em, (e _ _ rfl).trans em'⟩, ⟨(e _ _ rfl).trans et, (e _ _ rfl).trans et'⟩, hBR.fr (e.sub (fun a k q => by simp [pRD, q])), hME.f (Nat.le_refl _) (Nat.le_refl _) (fun i hi => e.sub (fun a k q => ?_)) er⟩
  simp [pMEM1] at q
  simp [pRD]
  omega
theorem RD.sc {nb nm td lw : Nat} {w : Nat → Nat} {L : Lay} {σ σ' : Sto} (h : RD nb nm td lw w L σ) (s : SC σ σ') : RD nb nm td lw w L σ' := h.fr (s.1.sub (psv_of (fun a k q => pf_of (fun z => by have := scr_cases q; simp [pRD, pNUM, pBRA] at z; omega)))) s.2
theorem mvb_eq {σ σ' : Sto} (h : ∀ a k, 43 ≤ a → a ≤ 46 → σ'.1 a k = σ.1 a k) (i : Nat) (d : Int32) : ∀ n, mvb σ' i d n = mvb σ i d n
  | 0 => rfl
  | n + 1 => by
    unfold mvb
    rw [h 46 _ (by omega) (by omega), h 45 _ (by omega) (by omega), mvb_eq h i d n]
theorem ofS_eq {σ σ' : Sto} (h : ∀ a k, 43 ≤ a → a ≤ 46 → σ'.1 a k = σ.1 a k) (i : Nat) (d : Int32) : ofS σ' i d = ofS σ i d := by
  unfold ofS
  rw [h 43 _ (by omega) (by omega), h 44 _ (by omega) (by omega), mvb_eq h]
theorem ofS_sc {σ σ' : Sto} (h : SC σ σ') (i : Nat) (d : Int32) : ofS σ' i d = ofS σ i d := ofS_eq (fun a k h1 h2 => h.at (pf_of (fun z => by have := scr_cases z; omega))) i d
theorem mvb_cases {σ : Sto} {i nb : Nat} {d : Int32} : ∀ n, (∀ k, k < n → ∃ b, b < nb ∧ σ.1 45 (7 * i + k) = nI b) → mvb σ i d n = -1000000005 ∨ ∃ b, b < nb ∧ mvb σ i d n = nI b
  | 0, _ => Or.inl rfl
  | n + 1, h => by
    unfold mvb
    by_cases q : σ.1 46 (7 * i + n) ≤ d
    · rw [if_pos q]
      exact Or.inr (h n (by omega))
    · rw [if_neg q]
      exact mvb_cases n (fun k hk => h k (by omega))
theorem ofS_cases {nb td : Nat} {w : Nat → Nat} {L : Lay} {σ : Sto} {i r mv c : Nat} (h : MEM1 nb td w L σ i r mv c) (d : Int32) : ofS σ i d = -1000000005 ∨ ∃ b, b < nb ∧ ofS σ i d = nI b := by
  obtain ⟨-, -, -, -, ⟨m17, m18, m19, m20, m21⟩, m22, m23, m24⟩ := h
  unfold ofS
  rw [m19, nI_clamp (by omega)]
  by_cases q : σ.1 43 i = -1 ∨ d < σ.1 43 i
  · rw [if_pos q]
    exact mvb_cases _ (fun k hk => m23 k (by omega))
  · rw [if_neg q]
    exact Or.inl rfl
abbrev inS (σ : Sto) (i : Nat) (z d : Int32) : Prop := ¬ ofS σ i d = -1000000005 ∧ ((z >>> (ofS σ i d &&& 31)) &&& 1) = 1
theorem inS_eq {σ σ' : Sto} (h : ∀ a k, 43 ≤ a → a ≤ 46 → σ'.1 a k = σ.1 a k) (i : Nat) (z d : Int32) : inS σ' i z d = inS σ i z d := by
  unfold inS
  rw [ofS_eq h]
theorem inS_sc {σ σ' : Sto} (h : SC σ σ') (i : Nat) (z d : Int32) : inS σ' i z d = inS σ i z d := by
  unfold inS
  rw [ofS_sc h]
theorem b3_c {p q : Prop} [Decidable p] [Decidable q] (h : p ↔ q) : b3 p = b3 q := by
  by_cases z : p
  · rw [b3_t z, b3_t (h.mp z)]
  · rw [b3_f z, b3_f (fun y => z (h.mpr y))]
theorem ifb3 {p : Prop} [Decidable p] {α : Type} (a b : α) : (if p then a else b) = if b3 p = 1 then a else b := by
  by_cases z : p
  · rw [b3_t z, if_pos z, if_pos rfl]
  · rw [b3_f z, if_neg z, if_neg (by decide)]
/-- any of the first n -/
def any1 (c : Nat → Bool) (n : Nat) : Int32 := itr (fun i a => if c i = true then 1 else a) n 0
theorem any1_1 {c : Nat → Bool} {i : Nat} (h : c i = true) : ∀ n, i < n → any1 c n = 1
  | 0, q => absurd q (by omega)
  | n + 1, q => by
    show (if c n = true then 1 else any1 c n) = 1
    by_cases e : c n = true
    · rw [if_pos e]
    · rw [if_neg e]
      exact any1_1 h n (by
        have : i ≠ n := fun z => e (z ▸ h)
        omega)
theorem any1_0 {c : Nat → Bool} : ∀ n, (∀ i, i < n → ¬ c i = true) → any1 c n = 0
  | 0, _ => rfl
  | n + 1, h => by
    show (if c n = true then 1 else any1 c n) = 0
    rw [if_neg (h n (by omega))]
    exact any1_0 n (fun i hi => h i (by omega))
theorem any1_01 (c : Nat → Bool) (n : Nat) : any1 c n = 0 ∨ any1 c n = 1 := by
  by_cases h : ∃ i, i < n ∧ c i = true
  · obtain ⟨i, h1, h2⟩ := h
    exact Or.inr (any1_1 h2 n h1)
  · exact Or.inl (any1_0 n (fun i h1 h2 => h ⟨i, h1, h2⟩))
theorem any1_ck (c : Nat → Bool) (n : Nat) : ckN 1 (any1 c n) = some () := by
  rcases any1_01 c n with e | e <;> rw [e]
  · exact ck0
  · exact ck1
section
variable {nb nm nl nB nN td nt nw lw : Nat} {w : Nat → Nat} {L : Lay} {σ : Sto}
theorem x10_branchOn (h : RD nb nm td lw w L σ) {i d : Nat} (hi : i < nm) (hd : d ≤ 400) : f_X10_branchOn L σ 1 (nI i) (nI d) = some (ofS σ i (nI d)) := by
  obtain ⟨⟨hS, hR⟩, ⟨hnb, hnm, htd⟩, ⟨eb, eb'⟩, ⟨em, em'⟩, ⟨et, et'⟩, hBR, hME⟩ := id h
  obtain ⟨r, mv, c, hm⟩ := hME i hi
  simp only [f_X10_branchOn, mAt_in hS hR em hnm hi, hm.1.1, x2_branchOn hm htd hd, Option.bind_some, Option.elim_some, Option.elim_none, wi, x12_in, b3_z, ckb, ck0, ck1, putI, putR, putJ, not_true_eq_false, not_false_eq_true, if_true, if_false, and_self, and_true, true_and, one_ne0, zero_eq0, ite_self, sI_eq, sI_ne, sI_nk, sI_21, sI_22, sJ_21, sJ_1]
theorem x12_ofOn' (h : RD nb nm td lw w L σ) {i : Nat} (hi : i < nm) (d : Int32) : f_X12_ofOn L σ 37 (nI i) d = some (ofS σ i d) := by
  obtain ⟨⟨hS, hR⟩, ⟨hnb, hnm, htd⟩, ⟨eb, eb'⟩, ⟨em, em'⟩, ⟨et, et'⟩, hBR, hME⟩ := id h
  obtain ⟨r, mv, c, hm⟩ := hME i hi
  exact x12_ofOn hS hR (by omega) hm.2.2.2.2.1.2.2.1 (by have := hm.2.2.2.2.1.1; omega)
theorem x10_isAmong (h : RD nb nm td lw w L σ) {i d : Nat} (hi : i < nm) (hd : d ≤ 400) (z : Int32) : f_X10_isAmong L σ 1 (nI i) z (nI d) = some (b3 (inS σ i z (nI d))) := by
  have e := x10_branchOn h hi hd
  obtain ⟨⟨hS, hR⟩, ⟨hnb, hnm, htd⟩, ⟨eb, eb'⟩, ⟨em, em'⟩, ⟨et, et'⟩, hBR, hME⟩ := id h
  obtain ⟨r, mv, c, hm⟩ := hME i hi
  unfold f_X10_isAmong
  rw [e, Option.bind_some, ck0, ck1, Option.bind_some, Option.bind_some]
  rcases ofS_cases hm (nI d) with q | ⟨b, hb, q⟩
  · rw [if_pos (by rw [q]; decide), b3_f (fun z => z.1 q)]
  · rw [if_neg (by rw [q]; exact nI_pos (by omega))]
    have hne : ¬ ofS σ i (nI d) = -1000000005 := by rw [q]; exact nI_nneg (by omega) (by decide)
    by_cases y : ((z >>> (ofS σ i (nI d) &&& 31)) &&& 1) = 1
    · rw [if_pos y, b3_t ⟨hne, y⟩]
    · rw [if_neg y, b3_f (fun v => y v.2)]
theorem x12_isIn (h : RD nb nm td lw w L σ) {i j : Nat} (hi : i < nm) (hj : j < 12) (d : Int32) : f_X12_isIn L σ 37 (nI j) (nI i) d = some (b3 (inS σ i (σ.1 49 j) d)) := by
  have e := x12_ofOn' h hi d
  obtain ⟨⟨hS, hR⟩, ⟨hnb, hnm, htd⟩, ⟨eb, eb'⟩, ⟨em, em'⟩, ⟨et, et'⟩, hBR, hME⟩ := id h
  simp (disch := omega) only [f_X12_isIn, e, hR.r37_17, rI_nI hS.l49, ck0, ck1, Option.bind_some]
  by_cases q : ofS σ i d = -1000000005
  · rw [if_pos q, b3_f (fun z => z.1 q)]
  · rw [if_neg q]
    by_cases y : ((σ.1 49 j >>> (ofS σ i d &&& 31)) &&& 1) = 1
    · rw [if_pos y, b3_t ⟨q, y⟩]
    · rw [if_neg y, b3_f (fun v => y v.2)]
theorem x12_isEntitled (h : RD nb nm td lw w L σ) {i j : Nat} (hi : i < nm) (hj : j < 12) : f_X12_isEntitled L σ 37 (nI j) (nI i) = some (b3 (inS σ i (σ.1 49 j) (σ.1 50 j))) := by
  have e := x12_isIn h hi hj (σ.1 50 j)
  obtain ⟨⟨hS, hR⟩, ⟨hnb, hnm, htd⟩, ⟨eb, eb'⟩, ⟨em, em'⟩, ⟨et, et'⟩, hBR, hME⟩ := id h
  simp (disch := omega) only [f_X12_isEntitled, e, hR.r37_18, rI_nI hS.l50, ckb, Option.bind_some]
/-- what a day of strike costs -/
def cst (σ : Sto) (z d p : Int32) (n : Nat) : Int32 := itr (fun i a => if inS σ i z d then a + σ.1 40 i * σ.1 41 i / 5 * p / 100 else a) n 0
theorem cst_succ (σ : Sto) (z d p : Int32) (n : Nat) : cst σ z d p (n + 1) = if inS σ n z d then cst σ z d p n + σ.1 40 n * σ.1 41 n / 5 * p / 100 else cst σ z d p n := rfl
theorem x10_strikePay (h : RD nb nm td lw w L σ) (z p : Int32) : f_X10_strikePay L σ 1 z p = some (cst σ z (nI td) p nm) := by
  have ea := fun i (hi : i < nm) => x10_isAmong h hi (d := td) (by have := h.2.1.2.2; omega) z
  obtain ⟨⟨hS, hR⟩, ⟨hnb, hnm, htd⟩, ⟨eb, eb'⟩, ⟨em, em'⟩, ⟨et, et'⟩, hBR, hME⟩ := id h
  unfold f_X10_strikePay
  refine loop (F := fun k q => f_X10_strikePay_5 k L σ 1 z p q.1 q.2) (s := fun m => (cst σ z (nI td) p m, nI m)) nm _ ?_ ?_ (FU_lt (by omega))
  · intro m K hm
    show f_X10_strikePay_5 (K + 1) L σ 1 z p (cst σ z (nI td) p m) (nI m) = f_X10_strikePay_5 K L σ 1 z p (cst σ z (nI td) p (m + 1)) (nI (m + 1))
    obtain ⟨r, mv, c, ⟨m1, -⟩, -, ⟨m10, m11, m12, -⟩, -⟩ := hME m hm
    rw [cst_succ]
    simp (disch := omega) only [f_X10_strikePay_5, f_X10_strikePay_54, em, et, nI_leI, show ¬ nm ≤ m by omega, mAt_in hS hR em hnm hm, m1, m11, m12, ea m hm, x2_dayWage, dv100, nI_1, Option.bind_some, Option.elim_some, Option.elim_none, wi, x12_in, b3_z, ckb, ck0, ck1, putI, putR, putJ, not_true_eq_false, not_false_eq_true, if_true, if_false, and_self, and_true, true_and, one_ne0, zero_eq0, ite_self, sI_eq, sI_ne, sI_nk, sI_21, sI_22, sJ_21, sJ_1]
    by_cases q : inS σ m z (nI td)
    · rw [if_neg (not_not_intro q), if_pos q]
    · rw [if_pos q, if_neg q]
  · intro K
    show f_X10_strikePay_5 (K + 1) L σ 1 z p (cst σ z (nI td) p nm) (nI nm) = _
    simp (disch := omega) only [f_X10_strikePay_5, em, nI_leI, Nat.le_refl, Option.bind_some, Option.elim_some, Option.elim_none, wi, x12_in, b3_z, ckb, ck0, ck1, putI, putR, putJ, not_true_eq_false, not_false_eq_true, if_true, if_false, and_self, and_true, true_and, one_ne0, zero_eq0, ite_self, sI_eq, sI_ne, sI_nk, sI_21, sI_22, sJ_21, sJ_1]
theorem x12_costOf (h : RD nb nm td lw w L σ) {j : Nat} (hj : j < 12) : f_X12_costOf L σ 37 (nI j) = some (cst σ (σ.1 49 j) (nI td) (σ.1 64 1) nm) := by
  have ea := fun i (hi : i < nm) => x12_isIn h hi hj (nI td)
  obtain ⟨⟨hS, hR⟩, ⟨hnb, hnm, htd⟩, ⟨eb, eb'⟩, ⟨em, em'⟩, ⟨et, et'⟩, hBR, hME⟩ := id h
  unfold f_X12_costOf
  refine loop (F := fun k q => f_X12_costOf_4 k L σ 37 (nI j) q.1 q.2) (s := fun m => (cst σ (σ.1 49 j) (nI td) (σ.1 64 1) m, nI m)) nm _ ?_ ?_ (FU_lt (by omega))
  · intro m K hm
    show f_X12_costOf_4 (K + 1) L σ 37 (nI j) (cst σ (σ.1 49 j) (nI td) (σ.1 64 1) m) (nI m) = f_X12_costOf_4 K L σ 37 (nI j) (cst σ (σ.1 49 j) (nI td) (σ.1 64 1) (m + 1)) (nI (m + 1))
    rw [cst_succ]
    have e1 : rI L σ 64 1 = some (σ.1 64 1) := rI_nI (i := 1) hS.l64 (by omega) (by omega)
    simp (disch := omega) only [f_X12_costOf_4, f_X12_costOf_45, em', et', nI_leI, show ¬ nm ≤ m by omega, ea m hm, x12_dayWage hS hR (show m < 40 by omega), dv100, nI_1, hR.r37_36, e1, Int32.add_zero, Option.bind_some, Option.elim_some, Option.elim_none, wi, x12_in, b3_z, ckb, ck0, ck1, putI, putR, putJ, not_true_eq_false, not_false_eq_true, if_true, if_false, and_self, and_true, true_and, one_ne0, zero_eq0, ite_self, sI_eq, sI_ne, sI_nk, sI_21, sI_22, sJ_21, sJ_1]
    by_cases q : inS σ m (σ.1 49 j) (nI td)
    · rw [if_neg (not_not_intro q), if_pos q]
    · rw [if_pos q, if_neg q]
  · intro K
    show f_X12_costOf_4 (K + 1) L σ 37 (nI j) (cst σ (σ.1 49 j) (nI td) (σ.1 64 1) nm) (nI nm) = _
    simp (disch := omega) only [f_X12_costOf_4, em', nI_leI, Nat.le_refl, Option.bind_some, Option.elim_some, Option.elim_none, wi, x12_in, b3_z, ckb, ck0, ck1, putI, putR, putJ, not_true_eq_false, not_false_eq_true, if_true, if_false, and_self, and_true, true_and, one_ne0, zero_eq0, ite_self, sI_eq, sI_ne, sI_nk, sI_21, sI_22, sJ_21, sJ_1]
theorem op_cost (h : INVP nb nm nl nB nN td nt nw lw w L σ) (x : Int32) : OPr (f_X11_cost L σ 0 x) (f_X12_cost L σ 37 x) := by
  have hd := h.rd
  obtain ⟨hS, hR, ⟨⟨hnb, hnm, hnl, hnB, hnN, htd, hnt, hnw⟩, ⟨eb, eb'⟩, ⟨em, em'⟩, ⟨el, el'⟩, ⟨eB, eB'⟩, ⟨eN, eN'⟩, ⟨et, et'⟩, ⟨ep, ep'⟩, ew, ew'⟩, hBR, hME, hLI, hBA, hTA, hNO, hHA, hRU, hWA, hSH, hLA⟩ := id h
  rcases ixc x nB (by omega) with hx | ⟨j, hj, rfl⟩
  · refine ⟨-1000000001, ?_, ?_⟩
    · simp only [f_X11_cost, bAt_out eB hnB hx, Option.bind_some, Option.elim_some, Option.elim_none, wi, x12_in, b3_z, ckb, ck0, ck1, putI, putR, putJ, not_true_eq_false, not_false_eq_true, if_true, if_false, and_self, and_true, true_and, one_ne0, zero_eq0, ite_self, sI_eq, sI_ne, sI_nk, sI_21, sI_22, sJ_21, sJ_1]
    · simp only [f_X12_cost, isBa_out eB' hnB hx, Option.bind_some, Option.elim_some, Option.elim_none, wi, x12_in, b3_z, ckb, ck0, ck1, putI, putR, putJ, not_true_eq_false, not_false_eq_true, if_true, if_false, and_self, and_true, true_and, one_ne0, zero_eq0, ite_self, sI_eq, sI_ne, sI_nk, sI_21, sI_22, sJ_21, sJ_1]
  · obtain ⟨r, o, ⟨b1, -⟩, -, -, ⟨b14, -⟩, -⟩ := hBA j hj
    obtain ⟨-, v, -, -, v1, v2⟩ := hRU 1 (by omega)
    have e1 : rI L σ 30 1 = some (σ.1 30 1) := rI_nI (i := 1) hS.l30 (by omega) (by omega)
    refine ⟨cst σ (σ.1 49 j) (nI td) (σ.1 64 1) nm, ?_, ?_⟩
    · simp only [f_X11_cost, bAt_in hS hR eB hnB hj, b1, b14, hR.r0_0, hR.r0_12, hR.r28_1, e1, v1, x10_strikePay hd, v2, Option.bind_some, Option.elim_some, Option.elim_none, wi, x12_in, b3_z, ckb, ck0, ck1, putI, putR, putJ, not_true_eq_false, not_false_eq_true, if_true, if_false, and_self, and_true, true_and, one_ne0, zero_eq0, ite_self, sI_eq, sI_ne, sI_nk, sI_21, sI_22, sJ_21, sJ_1]
    · simp only [f_X12_cost, isBa_in eB' hnB hj, x12_costOf hd (show j < 12 by omega), Option.bind_some, Option.elim_some, Option.elim_none, wi, x12_in, b3_z, ckb, ck0, ck1, putI, putR, putJ, not_true_eq_false, not_false_eq_true, if_true, if_false, and_self, and_true, true_and, one_ne0, zero_eq0, ite_self, sI_eq, sI_ne, sI_nk, sI_21, sI_22, sJ_21, sJ_1]
/-- is something vital struck? -/
def vtC (σ : Sto) (z d : Int32) (i : Nat) : Bool := decide (inS σ i z d ∧ kdS (σ.1 38 (ofS σ i d).toNatClampNeg) 1 = 1)
theorem x10_strikesVital (h : RD nb nm td lw w L σ) (z : Int32) : f_X10_strikesVital L σ 1 z = some (any1 (vtC σ z (nI td)) nm) := by
  have ht : td ≤ 400 := h.2.1.2.2
  have ea := fun i (hi : i < nm) => x10_isAmong h hi ht z
  have eb0 := fun i (hi : i < nm) => x10_branchOn h hi ht
  obtain ⟨⟨hS, hR⟩, ⟨hnb, hnm, htd⟩, ⟨eb, eb'⟩, ⟨em, em'⟩, ⟨et, et'⟩, hBR, hME⟩ := id h
  unfold f_X10_strikesVital
  have key : OK (f_X10_strikesVital_2 FU L σ 1 z 0) (fun r => r = any1 (vtC σ z (nI td)) nm) := by
    refine loopI (F := fun k q => f_X10_strikesVital_2 k L σ 1 z q) (I := fun i q => q = nI i ∧ ∀ k, k < i → ¬ vtC σ z (nI td) k = true) _ nm ?_ ?_ (FU_lt (by omega)) ⟨nI_0.symm, fun k hk => absurd hk (by omega)⟩
    · rintro i K s hi ⟨rfl, hI⟩
      obtain ⟨r, mv, c, hm⟩ := hME i hi
      simp (disch := omega) only [f_X10_strikesVital_2, f_X10_strikesVital_42, em, et, nI_leI, show ¬ nm ≤ i by omega, ea i hi, eb0 i hi, nI_1, Option.bind_some, Option.elim_some, Option.elim_none, wi, x12_in, b3_z, ckb, ck0, ck1, putI, putR, putJ, not_true_eq_false, not_false_eq_true, if_true, if_false, and_self, and_true, true_and, one_ne0, zero_eq0, ite_self, sI_eq, sI_ne, sI_nk, sI_21, sI_22, sJ_21, sJ_1]
      by_cases q : inS σ i z (nI td)
      · rw [if_neg (not_not_intro q)]
        rcases ofS_cases hm (nI td) with e | ⟨b, hb, e⟩
        · exact absurd e q.1
        · rw [e, x10_isBranchOf hS hR eb hnb hb, Option.bind_some, hBR b hb]
          by_cases v : kdS (σ.1 38 b) 1 = 0
          · rw [if_pos v]
            refine Or.inl ⟨_, rfl, rfl, fun k hk => ?_⟩
            by_cases y : k = i
            · subst y
              intro u
              have := of_decide_eq_true u
              rw [e, nI_clamp (by omega), v] at this
              exact absurd this.2 (by decide)
            · exact hI k (by omega)
          · rw [if_neg v]
            refine Or.inr ⟨1, rfl, ?_⟩
            refine (any1_1 (i := i) ?_ nm hi).symm
            refine decide_eq_true ⟨q, ?_⟩
            rw [e, nI_clamp (by omega)]
            unfold kdS at v ⊢
            rw [b3_z] at v
            exact b3_t (Classical.not_not.mp v)
      · rw [if_pos q]
        refine Or.inl ⟨_, rfl, rfl, fun k hk => ?_⟩
        by_cases y : k = i
        · subst y
          exact fun u => q (of_decide_eq_true u).1
        · exact hI k (by omega)
    · rintro K s ⟨rfl, hI⟩
      refine ⟨0, ?_, ?_⟩
      · simp (disch := omega) only [f_X10_strikesVital_2, em, nI_leI, Nat.le_refl, Option.bind_some, Option.elim_some, Option.elim_none, wi, x12_in, b3_z, ckb, ck0, ck1, putI, putR, putJ, not_true_eq_false, not_false_eq_true, if_true, if_false, and_self, and_true, true_and, one_ne0, zero_eq0, ite_self, sI_eq, sI_ne, sI_nk, sI_21, sI_22, sJ_21, sJ_1]
      · exact (any1_0 nm hI).symm
  obtain ⟨a, e1, e2⟩ := key
  rw [e1, e2]
theorem x12_isVital (h : RD nb nm td lw w L σ) {j : Nat} (hj : j < 12) : f_X12_isVital L σ 37 (nI j) = some (any1 (vtC σ (σ.1 49 j) (nI td)) nm) := by
  have ea := fun i (hi : i < nm) => x12_isIn h hi hj (nI td)
  have eb0 := fun i (hi : i < nm) => x12_ofOn' h hi (nI td)
  obtain ⟨⟨hS, hR⟩, ⟨hnb, hnm, htd⟩, ⟨eb, eb'⟩, ⟨em, em'⟩, ⟨et, et'⟩, hBR, hME⟩ := id h
  unfold f_X12_isVital
  refine loop (F := fun k q => f_X12_isVital_4 k L σ 37 (nI j) q.1 q.2) (s := fun m => (any1 (vtC σ (σ.1 49 j) (nI td)) m, nI m)) nm _ ?_ ?_ (FU_lt (by omega))
  · intro m K hm
    obtain ⟨r, mv, c, hm'⟩ := hME m hm
    show f_X12_isVital_4 (K + 1) L σ 37 (nI j) (any1 (vtC σ (σ.1 49 j) (nI td)) m) (nI m) = f_X12_isVital_4 K L σ 37 (nI j) (any1 (vtC σ (σ.1 49 j) (nI td)) (m + 1)) (nI (m + 1))
    rw [show any1 (vtC σ (σ.1 49 j) (nI td)) (m + 1) = if vtC σ (σ.1 49 j) (nI td) m = true then 1 else any1 (vtC σ (σ.1 49 j) (nI td)) m from rfl]
    simp (disch := omega) only [f_X12_isVital_4, f_X12_isVital_46, f_X12_isVital_50, f_X12_isVital_51, em', et', nI_leI, show ¬ nm ≤ m by omega, ea m hm, eb0 m hm, nI_1, Option.bind_some, Option.elim_some, Option.elim_none, wi, x12_in, b3_z, ckb, ck0, ck1, putI, putR, putJ, not_true_eq_false, not_false_eq_true, if_true, if_false, and_self, and_true, true_and, one_ne0, zero_eq0, ite_self, sI_eq, sI_ne, sI_nk, sI_21, sI_22, sJ_21, sJ_1]
    rcases any1_01 (vtC σ (σ.1 49 j) (nI td)) m with e0 | e0
    · rw [e0, if_pos rfl]
      by_cases q : inS σ m (σ.1 49 j) (nI td)
      · rw [if_neg (not_not_intro q)]
        rcases ofS_cases hm' (nI td) with e | ⟨b, hb, e⟩
        · exact absurd e q.1
        · rw [e, x12_isOfKind hS hR (by omega), Option.bind_some]
          by_cases v : kdS (σ.1 38 b) 1 = 0
          · rw [if_pos v, if_neg]
            intro u
            have := of_decide_eq_true u
            rw [e, nI_clamp (by omega), v] at this
            exact absurd this.2 (by decide)
          · rw [if_neg v, if_pos]
            refine decide_eq_true ⟨q, ?_⟩
            rw [e, nI_clamp (by omega)]
            unfold kdS at v ⊢
            rw [b3_z] at v
            exact b3_t (Classical.not_not.mp v)
      · rw [if_pos q, if_neg (fun u => q (of_decide_eq_true u).1)]
    · rw [e0, if_neg (by decide), ite_self]
  · intro K
    show f_X12_isVital_4 (K + 1) L σ 37 (nI j) (any1 (vtC σ (σ.1 49 j) (nI td)) nm) (nI nm) = _
    simp (disch := omega) only [f_X12_isVital_4, em', nI_leI, Nat.le_refl, any1_ck, Option.bind_some, Option.elim_some, Option.elim_none, wi, x12_in, b3_z, ckb, ck0, ck1, putI, putR, putJ, not_true_eq_false, not_false_eq_true, if_true, if_false, and_self, and_true, true_and, one_ne0, zero_eq0, ite_self, sI_eq, sI_ne, sI_nk, sI_21, sI_22, sJ_21, sJ_1]
/-- who stays -/
def sty (σ : Sto) (n : Nat) : Int32 := itr (fun i a => a + b3 (σ.1 43 i = -1)) n 0
theorem sty_succ (σ : Sto) (n : Nat) : sty σ (n + 1) = sty σ n + b3 (σ.1 43 n = -1) := rfl
theorem x10_stayers (h : RD nb nm td lw w L σ) : f_X10_stayers L σ 1 = some (sty σ nm) := by
  obtain ⟨⟨hS, hR⟩, ⟨hnb, hnm, htd⟩, ⟨eb, eb'⟩, ⟨em, em'⟩, ⟨et, et'⟩, hBR, hME⟩ := id h
  unfold f_X10_stayers
  refine loop (F := fun k q => f_X10_stayers_4 k L σ 1 q.1 q.2) (s := fun m => (sty σ m, nI m)) nm _ ?_ ?_ (FU_lt (by omega))
  · intro m K hm
    show f_X10_stayers_4 (K + 1) L σ 1 (sty σ m) (nI m) = f_X10_stayers_4 K L σ 1 (sty σ (m + 1)) (nI (m + 1))
    obtain ⟨r, mv, c, ⟨m1, -⟩, -, -, m16, -⟩ := hME m hm
    rw [sty_succ]
    simp (disch := omega) only [f_X10_stayers_4, f_X10_stayers_34, f_X10_stayers_35, f_X2_hasLeft, f_X11_oneIf, em, nI_leI, show ¬ nm ≤ m by omega, mAt_in hS hR em hnm hm, m1, nI_1, Option.bind_some, Option.elim_some, Option.elim_none, wi, x12_in, b3_z, ckb, ck0, ck1, putI, putR, putJ, not_true_eq_false, not_false_eq_true, if_true, if_false, and_self, and_true, true_and, one_ne0, zero_eq0, ite_self, sI_eq, sI_ne, sI_nk, sI_21, sI_22, sJ_21, sJ_1]
    rcases m16 with ⟨q1, q2⟩ | ⟨d, q0, q1, q2⟩
    · rw [b3_t q1]
      simp only [q2, e401, if_true, Option.bind_some, zero_eq0, one_ne0, if_false]
    · rw [b3_f (p := σ.1 43 m = -1) (by rw [q1]; exact nI_nneg (by omega) (by decide))]
      simp (disch := omega) only [q2, nI401, if_false, Option.bind_some, one_ne0]
  · intro K
    show f_X10_stayers_4 (K + 1) L σ 1 (sty σ nm) (nI nm) = _
    simp (disch := omega) only [f_X10_stayers_4, em, nI_leI, Nat.le_refl, Option.bind_some, Option.elim_some, Option.elim_none, wi, x12_in, b3_z, ckb, ck0, ck1, putI, putR, putJ, not_true_eq_false, not_false_eq_true, if_true, if_false, and_self, and_true, true_and, one_ne0, zero_eq0, ite_self, sI_eq, sI_ne, sI_nk, sI_21, sI_22, sJ_21, sJ_1]
theorem x12_stay (h : RD nb nm td lw w L σ) (x : Int32) : f_X12_count_66 FU L σ 37 x 0 0 = some (sty σ nm) := by
  obtain ⟨⟨hS, hR⟩, ⟨hnb, hnm, htd⟩, ⟨eb, eb'⟩, ⟨em, em'⟩, ⟨et, et'⟩, hBR, hME⟩ := id h
  refine loop (F := fun k q => f_X12_count_66 k L σ 37 x q.1 q.2) (s := fun m => (sty σ m, nI m)) nm _ ?_ ?_ (FU_lt (by omega))
  · intro m K hm
    show f_X12_count_66 (K + 1) L σ 37 x (sty σ m) (nI m) = f_X12_count_66 K L σ 37 x (sty σ (m + 1)) (nI (m + 1))
    rw [sty_succ]
    simp (disch := omega) only [f_X12_count_66, f_X12_count_90, em', nI_leI, show ¬ nm ≤ m by omega, hR.r37_9, rI_nI hS.l43, nI_1, Option.bind_some, Option.elim_some, Option.elim_none, wi, x12_in, b3_z, ckb, ck0, ck1, putI, putR, putJ, not_true_eq_false, not_false_eq_true, if_true, if_false, and_self, and_true, true_and, one_ne0, zero_eq0, ite_self, sI_eq, sI_ne, sI_nk, sI_21, sI_22, sJ_21, sJ_1]
    by_cases q : σ.1 43 m = -1
    · rw [if_pos q, b3_t q]
    · rw [if_neg q, b3_f q]
  · intro K
    show f_X12_count_66 (K + 1) L σ 37 x (sty σ nm) (nI nm) = _
    simp (disch := omega) only [f_X12_count_66, em', nI_leI, Nat.le_refl, Option.bind_some, Option.elim_some, Option.elim_none, wi, x12_in, b3_z, ckb, ck0, ck1, putI, putR, putJ, not_true_eq_false, not_false_eq_true, if_true, if_false, and_self, and_true, true_and, one_ne0, zero_eq0, ite_self, sI_eq, sI_ne, sI_nk, sI_21, sI_22, sJ_21, sJ_1]
theorem op_count (h : INVP nb nm nl nB nN td nt nw lw w L σ) (x : Int32) : OPr (f_X11_count L σ 0 x) (f_X12_count L σ 37 x) := by
  have hd := h.rd
  obtain ⟨hS, hR, ⟨⟨hnb, hnm, hnl, hnB, hnN, htd, hnt, hnw⟩, ⟨eb, eb'⟩, ⟨em, em'⟩, ⟨el, el'⟩, ⟨eB, eB'⟩, ⟨eN, eN'⟩, ⟨et, et'⟩, ⟨ep, ep'⟩, ew, ew'⟩, hBR, hME, hLI, hBA, hTA, hNO, hHA, hRU, hWA, hSH, hLA⟩ := id h
  unfold OPr
  simp only [f_X11_count, f_X12_count, hR.r0_0, hR.r0_1, hR.r0_12, hR.r0_5, eb, eb', em, em', el, el', eB, eB', eN, eN', et, et', ep, ep', ew, ew', x10_stayers hd, x12_stay hd, Option.bind_some, Option.elim_some, Option.elim_none, wi, x12_in, b3_z, ckb, ck0, ck1, putI, putR, putJ, not_true_eq_false, not_false_eq_true, if_true, if_false, and_self, and_true, true_and, one_ne0, zero_eq0, ite_self, sI_eq, sI_ne, sI_nk, sI_21, sI_22, sJ_21, sJ_1]
  (repeat' split) <;> exact ⟨_, rfl⟩
end
