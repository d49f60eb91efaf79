/-! parcels, parcel -/
theorem or32 {a b : Nat} (ha : a < 2 ^ 31) (hb : b < 2 ^ 31) : nI a ||| nI b = nI (a ||| b) := by
  apply Int32.toBitVec_inj.mp
  rw [Int32.toBitVec_or]
  show BitVec.ofNat 32 a ||| BitVec.ofNat 32 b = BitVec.ofNat 32 (a ||| b)
  apply BitVec.eq_of_toNat_eq
  rw [BitVec.toNat_or, BitVec.toNat_ofNat, BitVec.toNat_ofNat, BitVec.toNat_ofNat, Nat.mod_eq_of_lt (by omega), Nat.mod_eq_of_lt (by omega), Nat.mod_eq_of_lt (Nat.or_lt_two_pow (by omega) (by omega))]
theorem one6 : ∀ k, k < 6 → ((1 : Int32) <<< (nI k &&& 31)) = nI (2 ^ k) := by decide +kernel
theorem or_pos {a k : Nat} (hk : k < 6) (ha : a < 64) : 0 < (a ||| 2 ^ k) ∧ (a ||| 2 ^ k) < 64 := by
  refine ⟨?_, Nat.or_lt_two_pow (n := 6) ha (Nat.pow_lt_pow_right (by omega) hk)⟩
  rcases Nat.eq_zero_or_pos (a ||| 2 ^ k) with z | z
  · have := (bit_or (T := a) (m := k) (j := k)).mpr (Or.inr rfl)
    rw [z, Nat.zero_div] at this
    omega
  · exact z
/-- parcels: how many, branches, returned, yes, no -/
abbrev PS : Type := Nat × (Nat → Nat) × (Nat → Int32) × (Nat → Int32) × (Nat → Int32)
def ptop (ls : Int32) (P : PS) : Nat := if P.1 = 0 ∨ ls ≤ P.2.2.1 (P.1 - 1) then P.1 else P.1 - 1
def padd (ls : Int32) (P : PS) (k : Nat) (r y n : Int32) : PS := (ptop ls P + 1, fun t => if t = ptop ls P then P.2.1 t ||| 2 ^ k else P.2.1 t, fun t => if t = ptop ls P then P.2.2.1 t + r else P.2.2.1 t, fun t => if t = ptop ls P then P.2.2.2.1 t + y else P.2.2.2.1 t, fun t => if t = ptop ls P then P.2.2.2.2 t + n else P.2.2.2.2 t)
def p0 : PS := (0, fun _ => 0, fun _ => 0, fun _ => 0, fun _ => 0)
def ent (σ : Sto) (o k i : Nat) : Bool := decide (ofS σ i (nI o) = nI k)
def hcc (σ : Sto) (j o k hw i : Nat) : Bool := decide (σ.1 53 (40 * j + i) = nI hw ∧ ofS σ i (nI o) = nI k)
def hca (σ : Sto) (j o k i : Nat) : Bool := decide (¬ σ.1 53 (40 * j + i) ≤ 0 ∧ ofS σ i (nI o) = nI k)
def qf (σ : Sto) (j o nm k : Nat) : Bool := decide (((σ.1 49 j >>> (nI k &&& 31)) &&& 1) = 1 ∧ any1 (ent σ o k) nm = 1)
def pst (σ : Sto) (j o nm : Nat) (ls : Int32) (k : Nat) (P : PS) : PS := if qf σ j o nm k = true then padd ls P k (cnt (hca σ j o k) nm) (cnt (hcc σ j o k 1) nm) (cnt (hcc σ j o k 2) nm) else P
def pall (σ : Sto) (j o nm : Nat) (ls : Int32) (n : Nat) : PS := itr (fun k P => pst σ j o nm ls k P) n p0
def PI (k : Nat) (P : PS) : Prop := P.1 ≤ k ∧ (∀ t, P.1 ≤ t → P.2.1 t = 0 ∧ P.2.2.1 t = 0 ∧ P.2.2.2.1 t = 0 ∧ P.2.2.2.2 t = 0) ∧ ∀ t, t < P.1 → 0 < P.2.1 t ∧ P.2.1 t < 64
theorem ptop_le (ls : Int32) (P : PS) : ptop ls P ≤ P.1 ∧ P.1 ≤ ptop ls P + 1 := by
  unfold ptop
  split <;> omega
theorem PI_add {ls : Int32} {k : Nat} {P : PS} {r y n : Int32} (h : PI k P) (hk : k < 6) : PI (k + 1) (padd ls P k r y n) := by
  obtain ⟨h1, h2, h3⟩ := h
  have ht := ptop_le ls P
  refine ⟨by show ptop ls P + 1 ≤ k + 1; omega, fun t ht' => ?_, fun t ht' => ?_⟩
  · have ht' : ptop ls P + 1 ≤ t := ht'
    have e : ¬ t = ptop ls P := by omega
    show (if t = ptop ls P then _ else P.2.1 t) = 0 ∧ (if t = ptop ls P then _ else P.2.2.1 t) = 0 ∧ (if t = ptop ls P then _ else P.2.2.2.1 t) = 0 ∧ (if t = ptop ls P then _ else P.2.2.2.2 t) = 0
    rw [if_neg e, if_neg e, if_neg e, if_neg e]
    exact h2 t (by omega)
  · have ht' : t < ptop ls P + 1 := ht'
    show 0 < (if t = ptop ls P then P.2.1 t ||| 2 ^ k else P.2.1 t) ∧ (if t = ptop ls P then P.2.1 t ||| 2 ^ k else P.2.1 t) < 64
    by_cases e : t = ptop ls P
    · rw [if_pos e]
      have hl : P.2.1 t < 64 := by
        rcases Nat.lt_or_ge t P.1 with q | q
        · exact (h3 t q).2
        · rw [(h2 t q).1]; omega
      exact or_pos hk hl
    · rw [if_neg e]
      exact h3 t (by omega)
theorem PI_all (σ : Sto) (j o nm : Nat) (ls : Int32) : ∀ n, n ≤ 6 → PI n (pall σ j o nm ls n)
  | 0, _ => ⟨Nat.le_refl _, fun _ _ => ⟨rfl, rfl, rfl, rfl⟩, fun t ht => absurd ht (by show ¬ t < 0; omega)⟩
  | n + 1, h => by
    have ih := PI_all σ j o nm ls n (by omega)
    show PI (n + 1) (pst σ j o nm ls n (pall σ j o nm ls n))
    unfold pst
    by_cases q : qf σ j o nm n = true
    · rw [if_pos q]
      exact PI_add ih (by omega)
    · rw [if_neg q]
      exact ⟨by have := ih.1; omega, ih.2.1, ih.2.2⟩
theorem cnt_nat (c : Nat → Bool) : ∀ n, ∃ m, m ≤ n ∧ cnt c n = nI m ∧ (m = 0 ↔ ∀ i, i < n → ¬ c i = true)
  | 0 => ⟨0, Nat.le_refl _, nI_0.symm, ⟨fun _ i hi => absurd hi (by omega), fun _ => rfl⟩⟩
  | n + 1 => by
    obtain ⟨m, h1, h2, h3⟩ := cnt_nat c n
    rw [cnt_succ, h2]
    by_cases q : c n = true
    · refine ⟨m + 1, by omega, by rw [b3_t q, nI_1], ⟨fun u => absurd u (by omega), fun u => absurd q (u n (by omega))⟩⟩
    · refine ⟨m, by omega, by rw [b3_f q, Int32.add_zero], ⟨fun u i hi => ?_, fun u => h3.mpr (fun i hi => u i (by omega))⟩⟩
      by_cases z : i = n
      · subst z; exact q
      · exact h3.mp u i (by omega)
theorem cnt_any {c : Nat → Bool} {n : Nat} (hn : n ≤ 40) : (cnt c n ≤ 0) ↔ ¬ any1 c n = 1 := by
  obtain ⟨m, h1, h2, h3⟩ := cnt_nat c n
  rw [h2]
  constructor
  · intro u v
    have : m = 0 := (nI_leI (a := m) (b := 0) (by omega) (by omega)).mp u |> Nat.le_zero.mp
    rw [any1_0 n (h3.mp this)] at v
    exact absurd v (by decide)
  · intro u
    rcases Nat.eq_zero_or_pos m with z | z
    · subst z; decide
    · exfalso
      apply u
      have : ¬ ∀ i, i < n → ¬ c i = true := fun v => by have := h3.mpr v; omega
      by_cases w : ∃ i, i < n ∧ c i = true
      · obtain ⟨i, a, b⟩ := w
        exact any1_1 b n a
      · exact absurd (fun i a b => w ⟨i, a, b⟩) this
section
variable {nb nm nl nB nN td nt nw lw : Nat} {w : Nat → Nat} {L : Lay} {σ : Sto}
theorem ent_sc {σ σ' : Sto} (h : SC σ σ') (o k : Nat) : ent σ' o k = ent σ o k := funext fun i => by unfold ent; rw [ofS_sc h]
theorem hcc_sc {σ σ' : Sto} (h : SC σ σ') (j o k hw : Nat) : hcc σ' j o k hw = hcc σ j o k hw := funext fun i => by unfold hcc; rw [ofS_sc h, h.at (a := 53) rfl]
theorem hca_sc {σ σ' : Sto} (h : SC σ σ') (j o k : Nat) : hca σ' j o k = hca σ j o k := funext fun i => by unfold hca; rw [ofS_sc h, h.at (a := 53) rfl]
theorem pall_sc {σ σ' : Sto} (h : SC σ σ') (j o nm : Nat) (ls : Int32) (n : Nat) : pall σ' j o nm ls n = pall σ j o nm ls n := itr_congr n p0 (fun k _ P => by
  unfold pst qf
  rw [ent_sc h, hcc_sc h, hcc_sc h, hca_sc h, h.at (a := 49) rfl])
theorem x0_entitledOf (h : INVP nb nm nl nB nN td nt nw lw w L σ) {j r o : Nat} (hb : BAL1 nb nm td w L σ j r o) (k : Nat) : f_X0_entitledOf L σ (r + 80) (nI k) = some (cnt (ent σ o k) nm) := by
  have hd := h.rd
  obtain ⟨hS, hR, ⟨⟨hnb, hnm, hnl, hnB, hnN, htd, hnt, hnw⟩, ⟨eb, eb'⟩, ⟨em, em'⟩, ⟨el, el'⟩, ⟨eB, eB'⟩, ⟨eN, eN'⟩, ⟨et, et'⟩, ⟨ep, ep'⟩, ew, ew'⟩, hBR, hME, hLI, hBA, hTA, hNO, hHA, hRU, hWA, hSH, hLA⟩ := id h
  obtain ⟨-, ⟨b7, -⟩, -, ⟨-, -, b17, -, b19⟩, -⟩ := hb
  have ea := fun i (hi : i < nm) => x10_branchOn hd hi (d := o) (by omega)
  unfold f_X0_entitledOf
  refine loop (F := fun f q => f_X0_entitledOf_4 f L σ (r + 80) (nI k) q.1 q.2) (s := fun m => (cnt (ent σ o k) m, nI m)) nm _ ?_ ?_ (FU_lt (by omega))
  · intro m K hm
    show f_X0_entitledOf_4 (K + 1) L σ (r + 80) (nI k) (cnt (ent σ o k) m) (nI m) = f_X0_entitledOf_4 K L σ (r + 80) (nI k) (cnt (ent σ o k) (m + 1)) (nI (m + 1))
    rw [cnt_succ]
    simp (disch := omega) only [f_X0_entitledOf_4, f_X0_entitledOf_37, f_X11_oneIf, b7, em, nI_leI, show ¬ nm ≤ m by omega, b17, ea m hm, nI_1, if_false, if_true, Option.bind_some, one_ne0, zero_eq0]
    by_cases q : ofS σ m (nI o) = nI k
    · rw [if_pos q, b3_t (p := ent σ o k m = true) (decide_eq_true q)]
    · rw [if_neg q, b3_f (p := ent σ o k m = true) (fun u => q (of_decide_eq_true u))]
  · intro K
    show f_X0_entitledOf_4 (K + 1) L σ (r + 80) (nI k) (cnt (ent σ o k) nm) (nI nm) = _
    simp (disch := omega) only [f_X0_entitledOf_4, b7, em, nI_leI, Nat.le_refl, if_true, Option.bind_some]
theorem x0_heardOf (h : INVP nb nm nl nB nN td nt nw lw w L σ) {j r o : Nat} (hb : BAL1 nb nm td w L σ j r o) (k : Nat) {hw : Nat} (h1 : 1 ≤ hw) (h3 : hw ≤ 3) : f_X0_heardOf L σ (r + 80) (nI k) (nI hw) = some (cnt (hcc σ j o k hw) nm) := by
  have hd := h.rd
  obtain ⟨hS, hR, ⟨⟨hnb, hnm, hnl, hnB, hnN, htd, hnt, hnw⟩, ⟨eb, eb'⟩, ⟨em, em'⟩, ⟨el, el'⟩, ⟨eB, eB'⟩, ⟨eN, eN'⟩, ⟨et, et'⟩, ⟨ep, ep'⟩, ew, ew'⟩, hBR, hME, hLI, hBA, hTA, hNO, hHA, hRU, hWA, hSH, hLA⟩ := id h
  obtain ⟨-, ⟨b7, b8, b9, b10⟩, ⟨b11, b12, b13⟩, ⟨-, -, b17, -, b19⟩, -, -, b22⟩ := hb
  have ea := fun i (hi : i < nm) => x10_branchOn hd hi (d := o) (by omega)
  unfold f_X0_heardOf
  refine loop (F := fun f q => f_X0_heardOf_5 f L σ (r + 80) (nI k) (nI hw) q.1 q.2) (s := fun m => (cnt (hcc σ j o k hw) m, nI m)) nm _ ?_ ?_ (FU_lt (by omega))
  · intro m K hm
    show f_X0_heardOf_5 (K + 1) L σ (r + 80) (nI k) (nI hw) (cnt (hcc σ j o k hw) m) (nI m) = f_X0_heardOf_5 K L σ (r + 80) (nI k) (nI hw) (cnt (hcc σ j o k hw) (m + 1)) (nI (m + 1))
    rw [cnt_succ]
    have h39 := in39 (show m < 40 by omega)
    have cases : (σ.1 (r + 82) m = 401 ∧ σ.1 53 (40 * j + m) = -1) ∨ (∃ e, e ≤ 400 ∧ σ.1 (r + 82) m = nI e ∧ σ.1 (r + 83) m = σ.1 53 (40 * j + m)) := by
      rcases b22 m (by omega) with ⟨p1, p2, p3, p4⟩ | ⟨p0, d, p1, p2, p3, p4, ⟨p5, p6⟩ | ⟨g, e, p5, p6, p7, p8, p9, p10, p11⟩⟩
      · exact Or.inl ⟨p4, p3⟩
      · exact Or.inl ⟨p6, p5⟩
      · exact Or.inr ⟨e, by omega, p11, by rw [p8, p9]⟩
    rcases cases with ⟨c1, c2⟩ | ⟨e, c0, c1, c2⟩
    · rw [b3_f (p := hcc σ j o k hw m = true) (fun u => nI_nneg (show hw < 2 ^ 31 by omega) (show (-1 : Int32) < 0 by decide) ((of_decide_eq_true u).1.symm.trans c2))]
      have hh : f_X0_hasHeard L σ (r + 80) (nI m) = some 0 := by
        simp (disch := omega) only [f_X0_hasHeard, h39, b9, rI_nI b12, c1, e401, Option.bind_some, Option.elim_some, Option.elim_none, wi, x12_in, b3_z, ckb, ck0, ck1, putI, putR, putJ, not_true_eq_false, not_false_eq_true, if_true, if_false, and_self, and_true, true_and, one_ne0, zero_eq0, ite_self, sI_eq, sI_ne, sI_nk, sI_21, sI_22, sJ_21, sJ_1]
      simp (disch := omega) only [f_X0_heardOf_5, f_X0_heardOf_66, f_X0_heardOf_67, hh, f_X11_oneIf, ck0, b7, em, nI_leI, show ¬ nm ≤ m by omega, nle_r, show ¬ 40 ≤ m by omega, nI_1, if_false, if_true, Option.bind_some, one_ne0, zero_eq0]
    · have hh : f_X0_hasHeard L σ (r + 80) (nI m) = some 1 := by
        simp (disch := omega) only [f_X0_hasHeard, h39, b9, rI_nI b12, c1, nI401, Option.bind_some, Option.elim_some, Option.elim_none, wi, x12_in, b3_z, ckb, ck0, ck1, putI, putR, putJ, not_true_eq_false, not_false_eq_true, if_true, if_false, and_self, and_true, true_and, one_ne0, zero_eq0, ite_self, sI_eq, sI_ne, sI_nk, sI_21, sI_22, sJ_21, sJ_1]
      simp (disch := omega) only [f_X0_heardOf_5, f_X0_heardOf_66, f_X0_heardOf_67, hh, f_X11_oneIf, ck1, b7, b10, em, nI_leI, show ¬ nm ≤ m by omega, nle_r, show ¬ 40 ≤ m by omega, rI_nI b13, c2, b17, ea m hm, nI_1, if_false, if_true, Option.bind_some, one_ne0, zero_eq0]
      by_cases q1 : σ.1 53 (40 * j + m) = nI hw
      · rw [if_pos q1]
        by_cases q2 : ofS σ m (nI o) = nI k
        · rw [if_pos q2, b3_t (p := hcc σ j o k hw m = true) (decide_eq_true ⟨q1, q2⟩)]
        · rw [if_neg q2, b3_f (p := hcc σ j o k hw m = true) (fun u => q2 (of_decide_eq_true u).2)]
      · rw [if_neg q1, b3_f (p := hcc σ j o k hw m = true) (fun u => q1 (of_decide_eq_true u).1)]
  · intro K
    show f_X0_heardOf_5 (K + 1) L σ (r + 80) (nI k) (nI hw) (cnt (hcc σ j o k hw) nm) (nI nm) = _
    simp (disch := omega) only [f_X0_heardOf_5, b7, em, nI_leI, Nat.le_refl, if_true, Option.bind_some]
theorem hca_sum {j r o : Nat} (hb : BAL1 nb nm td w L σ j r o) (hnm : nm ≤ 40) (k : Nat) : ∀ n, n ≤ nm → cnt (hcc σ j o k 1) n + cnt (hcc σ j o k 2) n + cnt (hcc σ j o k 3) n = cnt (hca σ j o k) n
  | 0, _ => rfl
  | n + 1, h => by
    have ih := hca_sum hb hnm k n (by omega)
    rw [cnt_succ, cnt_succ, cnt_succ, cnt_succ, ← ih]
    have e : b3 (hca σ j o k n = true) = b3 (hcc σ j o k 1 n = true) + b3 (hcc σ j o k 2 n = true) + b3 (hcc σ j o k 3 n = true) := by
      have hv : σ.1 53 (40 * j + n) = -1 ∨ ∃ g, g ≤ 3 ∧ σ.1 53 (40 * j + n) = nI g := by
        rcases hb.2.2.2.2.2.2 n (by omega) with ⟨p1, p2, p3, p4⟩ | ⟨p0, d, p1, p2, p3, p4, ⟨p5, p6⟩ | ⟨g, e, p5, p6, p7, p8, p9, p10, p11⟩⟩
        · exact Or.inl p3
        · exact Or.inl p5
        · exact Or.inr ⟨g, p5, p8⟩
      unfold hca hcc
      by_cases q : ofS σ n (nI o) = nI k
      · have hv2 : σ.1 53 (40 * j + n) = -1 ∨ σ.1 53 (40 * j + n) = 0 ∨ σ.1 53 (40 * j + n) = 1 ∨ σ.1 53 (40 * j + n) = 2 ∨ σ.1 53 (40 * j + n) = 3 := by
          rcases hv with z | ⟨g, hg, z⟩
          · exact Or.inl z
          · rcases (show g = 0 ∨ g = 1 ∨ g = 2 ∨ g = 3 by omega) with rfl | rfl | rfl | rfl
            · exact Or.inr (Or.inl z)
            · exact Or.inr (Or.inr (Or.inl z))
            · exact Or.inr (Or.inr (Or.inr (Or.inl z)))
            · exact Or.inr (Or.inr (Or.inr (Or.inr z)))
        rw [b3_c (q := ¬ σ.1 53 (40 * j + n) ≤ 0) ⟨fun u => (of_decide_eq_true u).1, fun u => decide_eq_true ⟨u, q⟩⟩, b3_c (p := decide (σ.1 53 (40 * j + n) = nI 1 ∧ ofS σ n (nI o) = nI k) = true) (q := σ.1 53 (40 * j + n) = nI 1) ⟨fun u => (of_decide_eq_true u).1, fun u => decide_eq_true ⟨u, q⟩⟩, b3_c (p := decide (σ.1 53 (40 * j + n) = nI 2 ∧ ofS σ n (nI o) = nI k) = true) (q := σ.1 53 (40 * j + n) = nI 2) ⟨fun u => (of_decide_eq_true u).1, fun u => decide_eq_true ⟨u, q⟩⟩, b3_c (p := decide (σ.1 53 (40 * j + n) = nI 3 ∧ ofS σ n (nI o) = nI k) = true) (q := σ.1 53 (40 * j + n) = nI 3) ⟨fun u => (of_decide_eq_true u).1, fun u => decide_eq_true ⟨u, q⟩⟩]
        rcases hv2 with z | z | z | z | z <;> rw [z] <;> decide
      · rw [b3_f (p := decide (¬ σ.1 53 (40 * j + n) ≤ 0 ∧ ofS σ n (nI o) = nI k) = true) (fun u => q (of_decide_eq_true u).2), b3_f (p := decide (σ.1 53 (40 * j + n) = nI 1 ∧ ofS σ n (nI o) = nI k) = true) (fun u => q (of_decide_eq_true u).2), b3_f (p := decide (σ.1 53 (40 * j + n) = nI 2 ∧ ofS σ n (nI o) = nI k) = true) (fun u => q (of_decide_eq_true u).2), b3_f (p := decide (σ.1 53 (40 * j + n) = nI 3 ∧ ofS σ n (nI o) = nI k) = true) (fun u => q (of_decide_eq_true u).2)]
        rfl
    rw [e]
    generalize cnt (hcc σ j o k 1) n = A
    generalize cnt (hcc σ j o k 2) n = B
    generalize cnt (hcc σ j o k 3) n = C
    generalize b3 (hcc σ j o k 1 n = true) = a
    generalize b3 (hcc σ j o k 2 n = true) = b
    generalize b3 (hcc σ j o k 3 n = true) = c
    ac_rfl
/-- the class's parcels -/
def PCc (P : PS) (σ σ' : Sto) : Prop := σ'.1 10 4 = nI P.1 ∧ (∀ t, t < P.1 → σ'.1 11 t = nI (P.2.1 t) ∧ σ'.1 12 t = P.2.2.1 t ∧ σ'.1 13 t = P.2.2.2.1 t ∧ σ'.1 14 t = P.2.2.2.2 t) ∧ SC σ σ'
def PCr (P : PS) (σ σ' : Sto) : Prop := (∀ t, t < 6 → σ'.1 74 t = nI (P.2.1 t) ∧ σ'.1 75 t = P.2.2.1 t ∧ σ'.1 76 t = P.2.2.2.1 t ∧ σ'.1 77 t = P.2.2.2.2 t) ∧ SC σ σ'
end
