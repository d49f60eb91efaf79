/-! joined, rolls -/
theorem loopE {S R T : Type} (F : Nat → S → Option R) (E : T → Option R) (I : Nat → S → Prop) (Q : T → Prop) (n : Nat) (hs : ∀ i k s, i < n → I i s → (∃ s', F (k + 1) s = F k s' ∧ I (i + 1) s') ∨ ∃ t, F (k + 1) s = E t ∧ Q t) (he : ∀ k s, I n s → ∃ t, F (k + 1) s = E t ∧ Q t) : ∀ {K : Nat} {s : S}, n < K → I 0 s → ∃ t, F K s = E t ∧ Q t := by
  have h : ∀ j i K s, i + j = n → j < K → I i s → ∃ t, F K s = E t ∧ Q t := by
    intro j
    induction j with
    | zero =>
      intro i K s h1 h2 h3
      obtain ⟨K, rfl⟩ := Nat.exists_eq_add_one_of_ne_zero (Nat.ne_of_gt h2)
      obtain rfl : i = n := by omega
      exact he K s h3
    | succ j ih =>
      intro i K s h1 h2 h3
      obtain ⟨K, rfl⟩ := Nat.exists_eq_add_one_of_ne_zero (show K ≠ 0 by omega)
      rcases hs i K s (by omega) h3 with ⟨s', e, q⟩ | q
      · rw [e]
        exact ih (i + 1) K s' (by omega) (by omega) q
      · exact q
  intro K s h1 h2
  exact h n 0 K s (by omega) h1 h2
/-- the first of the first n -/
def fm (c : Nat → Bool) : Nat → Option Nat
  | 0 => none
  | n + 1 => match fm c n with
    | some m => some m
    | none => if c n = true then some n else none
theorem fm_hit {c : Nat → Bool} {i : Nat} (h0 : fm c i = none) (h : c i = true) : ∀ j, fm c (i + 1 + j) = some i
  | 0 => by
    show (match fm c i with | some m => some m | none => if c i = true then some i else none) = some i
    rw [h0]
    exact if_pos h
  | j + 1 => by
    show (match fm c (i + 1 + j) with | some m => some m | none => if c (i + 1 + j) = true then some (i + 1 + j) else none) = some i
    rw [fm_hit h0 h j]
theorem fm_miss {c : Nat → Bool} {i : Nat} (h0 : fm c i = none) (h : ¬ c i = true) : fm c (i + 1) = none := by
  show (match fm c i with | some m => some m | none => if c i = true then some i else none) = none
  rw [h0]
  exact if_neg h
theorem fm_lt {c : Nat → Bool} : ∀ {n m : Nat}, fm c n = some m → m < n ∧ c m = true
  | 0, m, h => by cases h
  | n + 1, m, h => by
    have h : (match fm c n with | some m => some m | none => if c n = true then some n else none) = some m := h
    cases q : fm c n with
    | some m' =>
      rw [q] at h
      cases h
      exact ⟨Nat.lt_succ_of_lt (fm_lt q).1, (fm_lt q).2⟩
    | none =>
      rw [q] at h
      by_cases z : c n = true
      · rw [show (match (none : Option Nat) with | some m => some m | none => if c n = true then some n else none) = if c n = true then some n else none from rfl, if_pos z] at h
        cases h
        exact ⟨Nat.lt_succ_self _, z⟩
      · rw [show (match (none : Option Nat) with | some m => some m | none => if c n = true then some n else none) = if c n = true then some n else none from rfl, if_neg z] at h
        cases h
/-- figures in which two marks differ -/
def fgs (x y : Int32) : Nat → Int32 × Int32 × Int32
  | 0 => (x, y, 0)
  | n + 1 => ((fgs x y n).1 / 10, (fgs x y n).2.1 / 10, (fgs x y n).2.2 + b3 (¬ (fgs x y n).1 - (fgs x y n).1 / 10 * 10 = (fgs x y n).2.1 - (fgs x y n).2.1 / 10 * 10))
theorem x7_fig (L : Lay) (σ : Sto) (x y : Int32) : f_X7_differingFigures L σ x y = some (fgs x y 4).2.2 := by
  unfold f_X7_differingFigures
  refine loop (F := fun k q => f_X7_differingFigures_4 k L σ q.1 q.2.1 q.2.2.1 q.2.2.2) (s := fun m => ((fgs x y m).1, (fgs x y m).2.1, (fgs x y m).2.2, nI m)) 4 _ ?_ ?_ (FU_lt (by omega))
  · intro m K hm
    show f_X7_differingFigures_4 (K + 1) L σ (fgs x y m).1 (fgs x y m).2.1 (fgs x y m).2.2 (nI m) = f_X7_differingFigures_4 K L σ (fgs x y (m + 1)).1 (fgs x y (m + 1)).2.1 (fgs x y (m + 1)).2.2 (nI (m + 1))
    rw [show fgs x y (m + 1) = ((fgs x y m).1 / 10, (fgs x y m).2.1 / 10, (fgs x y m).2.2 + b3 (¬ (fgs x y m).1 - (fgs x y m).1 / 10 * 10 = (fgs x y m).2.1 - (fgs x y m).2.1 / 10 * 10)) from rfl]
    generalize (fgs x y m).1 = A
    generalize (fgs x y m).2.1 = B
    generalize (fgs x y m).2.2 = C
    simp (disch := omega) only [f_X7_differingFigures_4, f_X7_differingFigures_26, f_X11_oneIf, nle_r, show ¬ 4 ≤ m by omega, rm10, dv10, nI_1, if_false, if_true, Option.bind_some, one_ne0, zero_eq0]
    by_cases q : A - A / 10 * 10 = B - B / 10 * 10
    · rw [if_pos q, b3_f (p := ¬ A - A / 10 * 10 = B - B / 10 * 10) (fun u => u q)]
    · rw [if_neg q, b3_t q]
  · intro K
    show f_X7_differingFigures_4 (K + 1) L σ (fgs x y 4).1 (fgs x y 4).2.1 (fgs x y 4).2.2 (nI 4) = _
    generalize (fgs x y 4).1 = A
    generalize (fgs x y 4).2.1 = B
    generalize (fgs x y 4).2.2 = C
    simp (disch := omega) only [f_X7_differingFigures_4, nle_r, Nat.le_refl, if_true]
theorem x12_fig (L : Lay) (σ : Sto) (x y : Int32) : f_X12_figuresApart L σ x y = some (fgs x y 4).2.2 := by
  unfold f_X12_figuresApart
  refine loop (F := fun k q => f_X12_figuresApart_10 k L σ y q.2.2.1 q.1 q.2.1 q.2.2.2) (s := fun m => ((fgs x y m).1, (fgs x y m).2.1, (fgs x y m).2.2, nI m)) 4 _ ?_ ?_ (FU_lt (by omega))
  · intro m K hm
    show f_X12_figuresApart_10 (K + 1) L σ y (fgs x y m).2.2 (fgs x y m).1 (fgs x y m).2.1 (nI m) = f_X12_figuresApart_10 K L σ y (fgs x y (m + 1)).2.2 (fgs x y (m + 1)).1 (fgs x y (m + 1)).2.1 (nI (m + 1))
    rw [show fgs x y (m + 1) = ((fgs x y m).1 / 10, (fgs x y m).2.1 / 10, (fgs x y m).2.2 + b3 (¬ (fgs x y m).1 - (fgs x y m).1 / 10 * 10 = (fgs x y m).2.1 - (fgs x y m).2.1 / 10 * 10)) from rfl]
    generalize (fgs x y m).1 = A
    generalize (fgs x y m).2.1 = B
    generalize (fgs x y m).2.2 = C
    simp (disch := omega) only [f_X12_figuresApart_10, f_X12_figuresApart_34, nle_r, show ¬ 4 ≤ m by omega, rm10, dv10, nI_1, if_false, if_true, Option.bind_some]
    by_cases q : A - A / 10 * 10 = B - B / 10 * 10
    · rw [if_pos q, b3_f (p := ¬ A - A / 10 * 10 = B - B / 10 * 10) (fun u => u q)]
    · rw [if_neg q, b3_t q]
  · intro K
    show f_X12_figuresApart_10 (K + 1) L σ y (fgs x y 4).2.2 (fgs x y 4).1 (fgs x y 4).2.1 (nI 4) = _
    generalize (fgs x y 4).1 = A
    generalize (fgs x y 4).2.1 = B
    generalize (fgs x y 4).2.2 = C
    simp (disch := omega) only [f_X12_figuresApart_10, nle_r, Nat.le_refl, if_true]
/-- who is joined with what, and how; who is taken -/
abbrev JS : Type := (Nat → Option (Nat × Nat)) × (Nat → Bool)
def jcd (σ : Sto) (td : Nat) (S : JS) (l p m : Nat) : Bool := decide (S.2 m = false ∧ ofS σ m (nI td) = σ.1 48 l ∧ (fgs (σ.1 39 m) (σ.1 47 l) 4).2.2 = nI p)
def jput (S : JS) (l p m : Nat) : JS := (fun l' => if l' = l then some (m, p) else S.1 l', fun m' => if m' = m then true else S.2 m')
def jst (σ : Sto) (nm td p l : Nat) (S : JS) : JS := match S.1 l with
  | some _ => S
  | none => match fm (jcd σ td S l p) nm with
    | none => S
    | some m => jput S l p m
def jph (σ : Sto) (nm td p n : Nat) (S : JS) : JS := itr (fun l S => jst σ nm td p l S) n S
def jal (σ : Sto) (nm td nl : Nat) : JS := jph σ nm td 1 nl (jph σ nm td 0 nl (fun _ => none, fun _ => false))
theorem jst_some {σ : Sto} {nm td p l : Nat} {S : JS} {q : Nat × Nat} (h : S.1 l = some q) : jst σ nm td p l S = S := by
  unfold jst
  rw [h]
theorem jst_no {σ : Sto} {nm td p l : Nat} {S : JS} (h : S.1 l = none) (h2 : fm (jcd σ td S l p) nm = none) : jst σ nm td p l S = S := by
  unfold jst
  rw [h]
  show (match fm (jcd σ td S l p) nm with | none => S | some m => jput S l p m) = S
  rw [h2]
theorem jst_put {σ : Sto} {nm td p l m : Nat} {S : JS} (h : S.1 l = none) (h2 : fm (jcd σ td S l p) nm = some m) : jst σ nm td p l S = jput S l p m := by
  unfold jst
  rw [h]
  show (match fm (jcd σ td S l p) nm with | none => S | some m => jput S l p m) = _
  rw [h2]
def pval (d : Int32) (q : Option (Nat × Nat)) : Int32 := match q with
  | none => d
  | some q => nI q.1
def JC (S : JS) (σ σ' : Sto) : Prop := (∀ l, l < 40 → σ'.1 7 l = pval (-1000000005) (S.1 l)) ∧ (∀ l q, l < 40 → S.1 l = some q → σ'.1 8 l = nI q.2 ∧ q.1 < 40 ∧ q.2 ≤ 1) ∧ (∃ T, T < 2 ^ 40 ∧ σ'.2.2 4 6 = lN T ∧ ∀ m, m < 40 → (T / 2 ^ m % 2 = 1 ↔ S.2 m = true)) ∧ SC σ σ'
def JR (S : JS) (σ σ' : Sto) : Prop := (∀ l, l < 40 → σ'.1 70 l = pval (-1) (S.1 l)) ∧ (∀ l q, l < 40 → S.1 l = some q → σ'.1 71 l = b3 (q.2 = 0) ∧ q.1 < 40) ∧ (∀ m, m < 40 → σ'.1 72 m = b3 (S.2 m = true)) ∧ SC σ σ'
theorem bit_or {T m j : Nat} : ((T ||| 2 ^ m) / 2 ^ j % 2 = 1) ↔ (T / 2 ^ j % 2 = 1 ∨ j = m) := by
  have h : (T ||| 2 ^ m).testBit j = (T.testBit j || decide (m = j)) := by rw [Nat.testBit_or, Nat.testBit_two_pow]
  rw [Nat.testBit_eq_decide_div_mod_eq, Nat.testBit_eq_decide_div_mod_eq] at h
  constructor
  · intro q
    rw [decide_eq_true q] at h
    rcases Bool.or_eq_true_iff.mp h.symm with z | z
    · exact Or.inl (of_decide_eq_true z)
    · exact Or.inr (of_decide_eq_true z).symm
  · intro q
    apply of_decide_eq_true
    rw [h]
    rcases q with q | q
    · rw [decide_eq_true q]; rfl
    · rw [decide_eq_true q.symm, Bool.or_true]
section
variable {nb nm nl nB nN td nt nw lw : Nat} {w : Nat → Nat} {L : Lay} {σ : Sto}
theorem x7_partnerFor (h : INVP nb nm nl nB nN td nt nw lw w L σ) {σ' : Sto} {S : JS} (hj : JC S σ σ') {l p : Nat} (hl : l < nl) : f_X7_partnerFor L σ' 4 (nI l) (nI p) = some (pval (-1000000005) ((fm (jcd σ td S l p) nm).map (fun m => (m, p)))) := by
  obtain ⟨j1, j2, ⟨T, jT, jt, jb⟩, js⟩ := hj
  have h' := h.sc js
  have hd' := h'.rd
  have hM' := h'.2.2.2.2.1
  have h0 := h
  obtain ⟨hS, hR, ⟨⟨hnb, hnm, hnl, hnB, hnN, htd, hnt, hnw⟩, ⟨eb, eb'⟩, ⟨em, em'⟩, ⟨el, el'⟩, ⟨eB, eB'⟩, ⟨eN, eN'⟩, ⟨et, et'⟩, ⟨ep, ep'⟩, ew, ew'⟩, hBR, hME, hLI, hBA, hTA, hNO, hHA, hRU, hWA, hSH, hLA⟩ := id h
  have hR' : RF lw σ'.2.1 := h'.2.1
  have em1 : σ'.1 1 3 = nI nm := (js.at rfl).trans em
  have et1 : σ'.1 1 4 = nI td := (js.at rfl).trans et
  have l5 : σ'.1 5 l = σ.1 47 l := (js.at rfl).trans (hLI l hl).1
  have l6 : σ'.1 6 l = σ.1 48 l := (js.at rfl).trans (hLI l hl).2
  unfold f_X7_partnerFor
  have key : OK (f_X7_partnerFor_2 FU L σ' 4 (nI l) (nI p) 0) (fun r => r = pval (-1000000005) ((fm (jcd σ td S l p) nm).map (fun m => (m, p)))) := by
    refine loopI (F := fun k q => f_X7_partnerFor_2 k L σ' 4 (nI l) (nI p) q) (I := fun i q => q = nI i ∧ fm (jcd σ td S l p) i = none) _ nm ?_ ?_ (FU_lt (by omega)) ⟨nI_0.symm, rfl⟩
    · rintro i K s hi ⟨rfl, hI⟩
      obtain ⟨r, mv, c, hm⟩ := hM' i hi
      have eb2 : f_X2_branchOn L σ' (r + 80) (nI td) = some (ofS σ i (nI td)) := by rw [x2_branchOn hm htd htd, ofS_sc js]
      have e0 : σ'.1 (r + 80) 0 = σ.1 39 i := hm.2.2.1.1.trans (js.at rfl)
      have ct : (lg_cmp ((σ'.2.2 4 6 >>> ((nI i).toInt64 &&& 63)) &&& 1) 0 = 0) = (S.2 i = false) := by
        have hq : T / 2 ^ i ≤ T := Nat.div_le_self _ _
        rw [jt, lsh (by omega) (by omega), wb_a1 (by omega), lg_cmp_eq, show (0 : Int64) = lN 0 from rfl, pk_lEQ (by omega) (by omega)]
        have := jb i (by omega)
        cases z : S.2 i with
        | true => rw [z] at this; simp at this; simp [this]
        | false => rw [z] at this; simp at this; simp; omega
      simp (disch := omega) only [f_X7_partnerFor_2, f_X7_partnerFor_82, hR'.r4_0, hR'.r4_1, hR'.r4_2, em1, et1, nI_leI, show ¬ nm ≤ i by omega, mAt_in hS hR' em1 hnm hi, hm.1.1, ct, eb2, e0, rI_nI hS.l5, rI_nI hS.l6, l5, l6, x7_fig, nI_1, if_false, Option.bind_some, Option.elim_some]
      have cd : jcd σ td S l p i = decide (S.2 i = false ∧ ofS σ i (nI td) = σ.1 48 l ∧ (fgs (σ.1 39 i) (σ.1 47 l) 4).2.2 = nI p) := rfl
      by_cases k1 : S.2 i = false
      · rw [if_pos k1]
        by_cases k2 : ofS σ i (nI td) = σ.1 48 l
        · rw [if_pos k2]
          by_cases k3 : (fgs (σ.1 39 i) (σ.1 47 l) 4).2.2 = nI p
          · rw [if_pos k3]
            refine Or.inr ⟨nI i, rfl, ?_⟩
            have := fm_hit hI (cd.trans (decide_eq_true ⟨k1, k2, k3⟩)) (nm - (i + 1))
            rw [show i + 1 + (nm - (i + 1)) = nm by omega] at this
            rw [this]
            rfl
          · rw [if_neg k3]
            exact Or.inl ⟨_, rfl, rfl, fm_miss hI (fun u => k3 (of_decide_eq_true (cd.symm.trans u)).2.2)⟩
        · rw [if_neg k2]
          exact Or.inl ⟨_, rfl, rfl, fm_miss hI (fun u => k2 (of_decide_eq_true (cd.symm.trans u)).2.1)⟩
      · rw [if_neg k1]
        exact Or.inl ⟨_, rfl, rfl, fm_miss hI (fun u => k1 (of_decide_eq_true (cd.symm.trans u)).1)⟩
    · rintro K s ⟨rfl, hI⟩
      refine ⟨-1000000005, ?_, ?_⟩
      · simp (disch := omega) only [f_X7_partnerFor_2, hR'.r4_0, em1, nI_leI, Nat.le_refl, if_true, Option.bind_some]
      · rw [hI]
        rfl
  obtain ⟨a, e1, e2⟩ := key
  rw [e1, e2]
theorem x7_joinTW (h : INVP nb nm nl nB nN td nt nw lw w L σ) {σ' : Sto} {S : JS} (hj : JC S σ σ') {p : Nat} (hp : p ≤ 1) : OK (f_X7_joinThoseWith L σ' 4 (nI p)) (fun q => JC (jph σ nm td p nl S) σ q) := by
  have hS := h.1
  have hnl : nl ≤ 40 := h.2.2.1.1.2.2.1
  have hnm : nm ≤ 40 := h.2.2.1.1.2.1
  have el : σ.1 4 3 = nI nl := h.2.2.1.2.2.2.1.1
  unfold f_X7_joinThoseWith
  refine loopI (F := fun k q => f_X7_joinThoseWith_2 k L q.1 4 (nI p) q.2) (s := (σ', 0)) (I := fun i q => q.2 = nI i ∧ JC (jph σ nm td p i S) σ q.1) _ nl ?_ ?_ (FU_lt (by omega)) (by exact ⟨nI_0.symm, hj⟩)
  · rintro i K ⟨σ2, t⟩ hi ⟨et1, hI⟩
    dsimp only at et1 hI
    subst et1
    have ep := x7_partnerFor h hI (p := p) hi
    obtain ⟨j1, j2, ⟨T, jT, jt, jb⟩, js⟩ := id hI
    have hR' : RF lw σ2.2.1 := (h.sc js).2.1
    have el2 : σ2.1 4 3 = nI nl := (js.at rfl).trans el
    have v7 := j1 i (by omega)
    refine Or.inl ?_
    cases hq : (jph σ nm td p i S).1 i with
    | some q =>
      rw [hq] at v7
      have q40 := (j2 i q (by omega) hq).2.1
      refine ⟨(σ2, nI (i + 1)), ?_, rfl, ?_⟩
      · simp (disch := omega) only [f_X7_joinThoseWith_2, f_X7_joinThoseWith_32, f_X7_joinThoseWith_65, el2, nI_leI, show ¬ nl ≤ i by omega, hR'.r4_4, rI_nI hS.l7, v7, pval, nI_mN, nI_1, if_false, if_true, Option.bind_some]
      · show JC (jst σ nm td p i (jph σ nm td p i S)) σ σ2
        rw [jst_some hq]
        exact hI
    | none =>
      rw [hq] at v7
      cases hf : fm (jcd σ td (jph σ nm td p i S) i p) nm with
      | none =>
        rw [hf] at ep
        refine ⟨(σ2, nI (i + 1)), ?_, rfl, ?_⟩
        · simp (disch := omega) only [f_X7_joinThoseWith_2, f_X7_joinThoseWith_32, f_X7_joinThoseWith_65, el2, nI_leI, show ¬ nl ≤ i by omega, hR'.r4_4, rI_nI hS.l7, v7, pval, ep, Option.map_none, nI_1, if_false, if_true, Option.bind_some]
        · show JC (jst σ nm td p i (jph σ nm td p i S)) σ σ2
          rw [jst_no hq hf]
          exact hI
      | some m =>
        rw [hf] at ep
        have hm := (fm_lt hf).1
        have e1 : (1 : Int64) <<< ((nI m).toInt64 &&& 63) = lN (1 * 2 ^ m) := wb_shl 1 (by omega)
        have hpm : 2 ^ m < 2 ^ 40 := Nat.pow_lt_pow_right (by omega) (by omega)
        refine ⟨(sJ (sI (sI σ2 7 i (nI m)) 8 i (nI p)) 4 6 (lN (T ||| 2 ^ m)), nI (i + 1)), ?_, rfl, ?_⟩
        · have e2 : lN T ||| lN (1 * 2 ^ m) = lN (T ||| 2 ^ m) := by rw [Nat.one_mul, wb_or (by omega) (by omega)]
          simp (disch := omega) only [f_X7_joinThoseWith_2, f_X7_joinThoseWith_32, f_X7_joinThoseWith_65, el2, nI_leI, show ¬ nl ≤ i by omega, hR'.r4_4, hR'.r4_5, rI_nI hS.l7, wI_nI hS.l7, wI_nI hS.l8, v7, pval, ep, Option.map_some, nI_mN, putJ, sI_21, sI_22, jt, e1, e2, nI_1, if_false, if_true, Option.bind_some]
        · show JC (jst σ nm td p i (jph σ nm td p i S)) σ _
          rw [jst_put hq hf]
          refine ⟨fun l hl => ?_, fun l q hl e => ?_, ⟨T ||| 2 ^ m, Nat.or_lt_two_pow jT hpm, sJ_eq _ _ _ _, fun m' hm' => ?_⟩, (((js.wr rfl).wr rfl).wJ)⟩
          · show (sI (sI σ2 7 i (nI m)) 8 i (nI p)).1 7 l = pval _ (if l = i then some (m, p) else _)
            rw [sI_ne (by omega)]
            by_cases z : l = i
            · subst z; rw [sI_eq, if_pos rfl]; rfl
            · rw [sI_nk z, if_neg z]; exact j1 l hl
          · have e : (if l = i then some (m, p) else (jph σ nm td p i S).1 l) = some q := e
            show (sI (sI σ2 7 i (nI m)) 8 i (nI p)).1 8 l = nI q.2 ∧ _
            by_cases z : l = i
            · subst z
              rw [if_pos rfl] at e
              cases e
              exact ⟨sI_eq _ _ _ _, by show m < 40; omega, hp⟩
            · rw [if_neg z] at e
              rw [sI_nk z, sI_ne (by omega)]
              exact j2 l q hl e
          · show _ ↔ (if m' = m then true else _) = true
            rw [bit_or]
            by_cases z : m' = m
            · subst z; rw [if_pos rfl]; exact ⟨fun _ => rfl, fun _ => Or.inr rfl⟩
            · rw [if_neg z]
              exact ⟨fun u => u.elim (jb m' hm').mp (fun v => absurd v z), fun u => Or.inl ((jb m' hm').mpr u)⟩
  · rintro K ⟨σ2, t⟩ ⟨et1, hI⟩
    dsimp only at et1 hI
    subst et1
    have el2 : σ2.1 4 3 = nI nl := (hI.2.2.2.at rfl).trans el
    refine ⟨σ2, ?_, hI⟩
    simp (disch := omega) only [f_X7_joinThoseWith_2, el2, nI_leI, Nat.le_refl, if_true]
theorem x7_join (h : INVP nb nm nl nB nN td nt nw lw w L σ) : OK (f_X7_join L σ 4) (fun q => JC (jal σ nm td nl) σ q) := by
  have hS := h.1
  have hR := h.2.1
  have j0 : JC (fun _ => none, fun _ => false) σ (sJ (wS σ 7 0 40 (fun _ => -1000000005)) 4 6 0) := by
    refine ⟨fun l hl => ?_, fun l q hl e => (by cases e), ⟨0, by omega, sJ_eq _ _ _ _, fun m hm => by rw [Nat.zero_div]; exact ⟨fun u => (by omega), fun u => (by cases u)⟩⟩, ((SC.rf σ).ws (fun _ => rfl)).wJ⟩
    have := wS_in (σ := σ) (a := 7) (off := 0) (f := fun _ => (-1000000005 : Int32)) hl
    rw [Nat.zero_add] at this
    exact this
  obtain ⟨σ1, e1, j1⟩ := x7_joinTW h j0 (p := 0) (by omega)
  obtain ⟨σ2, e2, j2⟩ := x7_joinTW h j1 (p := 1) (by omega)
  refine ⟨σ2, ?_, j2⟩
  have e1 : f_X7_joinThoseWith L (sJ (wS σ 7 0 40 (fun _ => -1000000005)) 4 6 0) 4 0 = some σ1 := e1
  have e2 : f_X7_joinThoseWith L σ1 4 1 = some σ2 := e2
  simp only [f_X7_join, hR.r4_4, fill_i hS.l7 (show 40 < 4000 by omega), putJ, e1, e2, Option.bind_some]
end
