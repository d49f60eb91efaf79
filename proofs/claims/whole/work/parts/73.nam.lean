/-! What is known of a ballot on a day -/
def bmp (σ : Sto) (a k : Nat) : Sto := sI σ a k (σ.1 a k + 1)
theorem bmp_at (σ : Sto) (a k k' : Nat) : (bmp σ a k).1 a k' = σ.1 a k' + b3 (k' = k) := by
  unfold bmp
  by_cases e : k' = k
  · subst e; rw [sI_eq, b3_t rfl]
  · rw [sI_nk e, b3_f e, Int32.add_zero]
theorem bmp_ne {σ : Sto} {a k a' k' : Nat} (h : a' ≠ a) : (bmp σ a k).1 a' k' = σ.1 a' k' := sI_ne h
theorem bmp_21 (σ : Sto) (a k : Nat) : (bmp σ a k).2.1 = σ.2.1 := rfl
theorem b3_or {p q : Prop} [Decidable p] [Decidable q] (h : ¬ (p ∧ q)) (C : Int32) : C + b3 p + b3 q = C + b3 (p ∨ q) := by
  by_cases z : p
  · have y : ¬ q := fun y => h ⟨z, y⟩
    rw [b3_t z, b3_f y, b3_t (p := p ∨ q) (Or.inl z), Int32.add_zero]
  · by_cases y : q
    · rw [b3_f z, b3_t y, b3_t (p := p ∨ q) (Or.inr y), Int32.add_zero]
    · rw [b3_f z, b3_f y, b3_f (p := p ∨ q) (fun u => u.elim z y), Int32.add_zero, Int32.add_zero]
abbrev snP (σ : Sto) (j d i : Nat) : Prop := ¬ σ.1 52 (40 * j + i) = -1 ∧ σ.1 52 (40 * j + i) ≤ nI d
abbrev teP (σ : Sto) (j d i : Nat) : Prop := snP σ j d i ∧ (¬ σ.1 53 (40 * j + i) = -1 ∧ σ.1 54 (40 * j + i) ≤ nI d)
def cc (σ : Sto) (j o d k i : Nat) : Bool := decide ((k = 4 ∧ inS σ i (σ.1 49 j) (nI o)) ∨ (k = 15 ∧ inS σ i (σ.1 49 j) (nI o) ∧ snP σ j d i) ∨ (k = 12 ∧ inS σ i (σ.1 49 j) (nI o) ∧ ¬ snP σ j d i) ∨ (k = 23 ∧ ¬ inS σ i (σ.1 49 j) (nI o) ∧ snP σ j d i) ∨ (k = 1 ∧ inS σ i (σ.1 49 j) (nI o) ∧ teP σ j d i ∧ σ.1 53 (40 * j + i) = 0) ∨ (k = 17 ∧ inS σ i (σ.1 49 j) (nI o) ∧ teP σ j d i ∧ ¬ σ.1 53 (40 * j + i) = 0) ∨ (k = 24 ∧ inS σ i (σ.1 49 j) (nI o) ∧ teP σ j d i ∧ σ.1 53 (40 * j + i) = 1) ∨ (k = 13 ∧ inS σ i (σ.1 49 j) (nI o) ∧ teP σ j d i ∧ σ.1 53 (40 * j + i) = 2))
/-- the same with the facts for letters -/
def cq (k : Nat) (E S T : Prop) (h : Int32) : Prop := (k = 4 ∧ E) ∨ (k = 15 ∧ E ∧ S) ∨ (k = 12 ∧ E ∧ ¬ S) ∨ (k = 23 ∧ ¬ E ∧ S) ∨ (k = 1 ∧ E ∧ T ∧ h = 0) ∨ (k = 17 ∧ E ∧ T ∧ ¬ h = 0) ∨ (k = 24 ∧ E ∧ T ∧ h = 1) ∨ (k = 13 ∧ E ∧ T ∧ h = 2)
theorem cc_iff (σ : Sto) (j o d k i : Nat) : (cc σ j o d k i = true) ↔ cq k (inS σ i (σ.1 49 j) (nI o)) (snP σ j d i) (teP σ j d i) (σ.1 53 (40 * j + i)) := decide_eq_true_iff
theorem cnt_zero {c : Nat → Bool} : ∀ n, (∀ i, i < n → ¬ c i = true) → cnt c n = 0
  | 0, _ => rfl
  | n + 1, h => by
    rw [cnt_succ, cnt_zero n (fun i hi => h i (by omega)), b3_f (h n (by omega))]
    rfl
def vtB (σ : Sto) (z : Int32) (k : Nat) : Bool := decide (((z >>> (nI k &&& 31)) &&& 1) = 1 ∧ kdS (σ.1 38 k) 1 = 1)
/-- a name's value, by letter -/
def nmV (σ : Sto) (j o d nb nm k : Nat) : Int32 := if k = 21 then any1 (vtB σ (σ.1 49 j)) nb else if k = 3 then nI d - nI o else cnt (cc σ j o d k) nm
def ltr (q : Nat) : Nat := [4, 15, 12, 23, 1, 17, 24, 13, 21, 3, 0, 11, 2].getD q 26
theorem cc_sc {σ σ' : Sto} (h : SC σ σ') (j o d k i : Nat) : cc σ' j o d k i = cc σ j o d k i := by
  unfold cc
  simp only [inS_sc h, snP, teP, h.at (a := 49) (k := j) rfl, h.at (a := 52) (k := 40 * j + i) rfl, h.at (a := 53) (k := 40 * j + i) rfl, h.at (a := 54) (k := 40 * j + i) rfl]
theorem any1_congr {c e : Nat → Bool} (n : Nat) (h : ∀ i, i < n → c i = e i) : any1 c n = any1 e n := itr_congr n 0 (fun i hi x => by rw [h i hi])
theorem nmV_sc {σ σ' : Sto} (h : SC σ σ') (j o d nb nm k : Nat) : nmV σ' j o d nb nm k = nmV σ j o d nb nm k := by
  unfold nmV
  rw [cnt_congr nm (fun i _ => cc_sc h j o d k i), h.at (a := 49) rfl, any1_congr nb (fun i _ => show vtB σ' (σ.1 49 j) i = vtB σ (σ.1 49 j) i by unfold vtB; rw [h.at (a := 38) rfl])]
section
variable {nb nm nl nB nN td nt nw lw : Nat} {w : Nat → Nat} {L : Lay} {σ : Sto}
theorem x11_isL (L : Lay) (σ : Sto) (x : Int32) : f_X11_isLetter L σ x = some (b3 (97 ≤ x ∧ x ≤ 122)) := by
  unfold f_X11_isLetter
  rw [ck0, ck1, Option.bind_some, Option.bind_some]
  by_cases h1 : x < 97
  · rw [if_pos h1, b3_f (fun h => Int32.not_le.mpr h1 h.1)]
  · rw [if_neg h1]
    by_cases h2 : 122 < x
    · rw [if_pos h2, b3_f (fun h => Int32.not_le.mpr h2 h.2)]
    · rw [if_neg h2, b3_t ⟨Int32.not_lt.mp h1, Int32.not_lt.mp h2⟩]
theorem isLt (L : Lay) (σ : Sto) {k : Nat} (hk : k < 26) : f_X11_isLetter L σ (nI (97 + k)) = some 1 := by
  have q : 97 ≤ nI (97 + k) ∧ nI (97 + k) ≤ 122 := ⟨nI_le (a := 97) (by omega) (by omega), nI_le (b := 122) (by omega) (by omega)⟩
  rw [x11_isL, b3_t q]
theorem ltr_sub (k : Nat) : nI (97 + k) - 97 = nI k := by
  have := pk_sub (a := 97 + k) (b := 97) (by omega)
  rw [Nat.add_sub_cancel_left] at this
  exact this
theorem x3_addOne (hS : SF L) {σ : Sto} (h25 : σ.2.1 25 0 = some 26) {k : Nat} (hk : k < 26) : f_X3_addOne L σ 25 (nI (97 + k)) = some (bmp σ 26 k) := by
  simp (disch := omega) only [f_X3_addOne, isLt L σ hk, one_ne0, h25, ltr_sub, rI_nI hS.l26, wI_nI hS.l26, bmp, if_false, Option.bind_some]
theorem x3_put (hS : SF L) {σ : Sto} (h25 : σ.2.1 25 0 = some 26) {k : Nat} (hk : k < 26) (v : Int32) : f_X3_put L σ 25 (nI (97 + k)) v = some (sI σ 26 k v) := by
  simp (disch := omega) only [f_X3_put, isLt L σ hk, one_ne0, h25, ltr_sub, wI_nI hS.l26, if_false, Option.bind_some]
theorem x3_valueOf (hS : SF L) {σ : Sto} (h25 : σ.2.1 25 0 = some 26) {k : Nat} (hk : k < 26) : f_X3_valueOf L σ 25 (nI (97 + k)) = some (σ.1 26 k) := by
  simp (disch := omega) only [f_X3_valueOf, isLt L σ hk, one_ne0, h25, ltr_sub, rI_nI hS.l26, if_false, Option.bind_some]
theorem x10_hasVital (h : RD nb nm td lw w L σ) (z : Int32) : f_X10_hasVital L σ 1 z = some (any1 (vtB σ z) nb) := by
  obtain ⟨⟨hS, hR⟩, ⟨hnb, hnm, htd⟩, ⟨eb, eb'⟩, ⟨em, em'⟩, ⟨et, et'⟩, hBR, hME⟩ := id h
  unfold f_X10_hasVital
  have key : OK (f_X10_hasVital_2 FU L σ 1 z 0) (fun r => r = any1 (vtB σ z) nb) := by
    refine loopI (F := fun k q => f_X10_hasVital_2 k L σ 1 z q) (I := fun i q => q = nI i ∧ ∀ k, k < i → ¬ vtB σ z k = true) _ nb ?_ ?_ (FU_lt (by omega)) (by exact ⟨nI_0.symm, fun k hk => absurd hk (by omega)⟩)
    · rintro i K s hi ⟨rfl, hI⟩
      have miss : ¬ vtB σ z i = true → ∀ k, k < i + 1 → ¬ vtB σ z k = true := fun u k hk => by
        by_cases y : k = i
        · subst y; exact u
        · exact hI k (by omega)
      simp (disch := omega) only [f_X10_hasVital_2, f_X10_hasVital_30, eb, nI_leI, show ¬ nb ≤ i by omega, x10_isBranchOf hS hR eb hnb hi, hBR i hi, nI_1, if_false, Option.bind_some]
      by_cases q : ((z >>> (nI i &&& 31)) &&& 1) = 1
      · rw [if_pos q]
        by_cases v : kdS (σ.1 38 i) 1 = 0
        · rw [if_pos v]
          refine Or.inl ⟨_, rfl, rfl, miss (fun u => ?_)⟩
          have := (of_decide_eq_true u).2
          rw [v] at this
          exact absurd this (by decide)
        · rw [if_neg v, ck1]
          refine Or.inr ⟨1, rfl, (any1_1 (i := i) (decide_eq_true ⟨q, ?_⟩) nb hi).symm⟩
          unfold kdS at v ⊢
          rw [b3_z] at v
          exact b3_t (Classical.not_not.mp v)
      · rw [if_neg q]
        exact Or.inl ⟨_, rfl, rfl, miss (fun u => q (of_decide_eq_true u).1)⟩
    · rintro K s ⟨rfl, hI⟩
      refine ⟨0, ?_, (any1_0 nb hI).symm⟩
      simp (disch := omega) only [f_X10_hasVital_2, eb, nI_leI, Nat.le_refl, ck0, if_true, Option.bind_some]
  obtain ⟨a, e1, e2⟩ := key
  rw [e1, e2]
theorem any1_one (L : Lay) (σ : Sto) (c : Nat → Bool) (n : Nat) : f_X11_oneIf L σ (any1 c n) = some (any1 c n) := by
  rcases any1_01 c n with e | e <;> rw [e] <;> rfl
/-- papers by the class's cells -/
theorem pap_cls {nm td o d : Nat} {σ : Sto} {j r i : Nat} (h : PAP nm td o σ j r i) (htd : td ≤ 400) (hd : d ≤ 400) : ((σ.1 (r + 81) i ≤ nI d) ↔ snP σ j d i) ∧ ((σ.1 (r + 82) i ≤ nI d) ↔ teP σ j d i) ∧ (teP σ j d i → (σ.1 (r + 83) i = σ.1 53 (40 * j + i) ∧ ∃ h, h ≤ 3 ∧ σ.1 53 (40 * j + i) = nI h)) := by
  have n401 : ¬ (401 : Int32) ≤ nI d := nI_ge (b := 401) (by omega) (by omega)
  rcases h with ⟨p1, p2, p3, p4⟩ | ⟨p0, e, p1, p2, p3, p4, p5⟩
  · refine ⟨⟨fun u => absurd (p2 ▸ u) n401, fun u => absurd p1 u.1⟩, ⟨fun u => absurd (p4 ▸ u) n401, fun u => absurd p1 u.1.1⟩, fun u => absurd p1 u.1.1⟩
  · have e1 : snP σ j d i ↔ σ.1 (r + 81) i ≤ nI d := by
      unfold snP
      rw [p3, p4]
      exact ⟨fun u => u.2, fun u => ⟨nI_nneg (by omega) (by decide), u⟩⟩
    rcases p5 with ⟨q1, q2⟩ | ⟨g, f, q1, q2, q3, q4, q5, q6, q7⟩
    · exact ⟨e1.symm, ⟨fun u => absurd (q2 ▸ u) n401, fun u => absurd q1 u.2.1⟩, fun u => absurd q1 u.2.1⟩
    · refine ⟨e1.symm, ⟨fun u => ⟨e1.mpr ?_, ?_, ?_⟩, fun u => ?_⟩, fun _ => ⟨by rw [q4, q5], g, q1, q4⟩⟩
      · rw [q7] at u
        rw [p4]
        exact Int32.le_trans (nI_le q2 (by omega)) u
      · rw [q4]; exact nI_nneg (by omega) (by decide)
      · rw [q6]; rw [q7] at u; exact u
      · rw [q7]; have := u.2.2; rw [q6] at this; exact this
theorem cq_t0 {k : Nat} {E S T : Prop} (hE : E) (hS : S) (hT : T) : (((k = 4) ∨ k = 15) ∨ k = 1) ↔ cq k E S T (nI 0) := by
  unfold cq
  simp only [hE, hS, hT, show (nI 0 = 0) = True from eq_true rfl, show (nI 0 = 1) = False from eq_false (by decide), show (nI 0 = 2) = False from eq_false (by decide), and_true, true_and, and_false, false_and, or_false, false_or, not_true_eq_false, not_false_eq_true]
  try omega
theorem cq_t1 {k : Nat} {E S T : Prop} (hE : E) (hS : S) (hT : T) : ((((k = 4) ∨ k = 15) ∨ k = 17) ∨ k = 24) ↔ cq k E S T (nI 1) := by
  unfold cq
  simp only [hE, hS, hT, show (nI 1 = 0) = False from eq_false (by decide), show (nI 1 = 1) = True from eq_true rfl, show (nI 1 = 2) = False from eq_false (by decide), and_true, true_and, and_false, false_and, or_false, false_or, not_true_eq_false, not_false_eq_true]
  try omega
theorem cq_t2 {k : Nat} {E S T : Prop} (hE : E) (hS : S) (hT : T) : ((((k = 4) ∨ k = 15) ∨ k = 17) ∨ k = 13) ↔ cq k E S T (nI 2) := by
  unfold cq
  simp only [hE, hS, hT, show (nI 2 = 0) = False from eq_false (by decide), show (nI 2 = 1) = False from eq_false (by decide), show (nI 2 = 2) = True from eq_true rfl, and_true, true_and, and_false, false_and, or_false, false_or, not_true_eq_false, not_false_eq_true]
  try omega
theorem cq_t3 {k : Nat} {E S T : Prop} (hE : E) (hS : S) (hT : T) : (((k = 4) ∨ k = 15) ∨ k = 17) ↔ cq k E S T (nI 3) := by
  unfold cq
  simp only [hE, hS, hT, show (nI 3 = 0) = False from eq_false (by decide), show (nI 3 = 1) = False from eq_false (by decide), show (nI 3 = 2) = False from eq_false (by decide), and_true, true_and, and_false, false_and, or_false, false_or, not_true_eq_false, not_false_eq_true]
  try omega
theorem cq_s {k : Nat} {E S T : Prop} {h : Int32} (hE : E) (hS : S) (hT : ¬ T) : ((k = 4) ∨ k = 15) ↔ cq k E S T h := by
  unfold cq
  simp only [hE, hS, hT, and_true, true_and, and_false, false_and, or_false, false_or, not_true_eq_false, not_false_eq_true]
theorem cq_m {k : Nat} {E S T : Prop} {h : Int32} (hE : E) (hS : ¬ S) (hT : ¬ T) : ((k = 4) ∨ k = 12) ↔ cq k E S T h := by
  unfold cq
  simp only [hE, hS, hT, and_true, true_and, and_false, false_and, or_false, false_or, not_true_eq_false, not_false_eq_true]
theorem cq_x {k : Nat} {E S T : Prop} {h : Int32} (hE : ¬ E) (hS : S) : (k = 23) ↔ cq k E S T h := by
  unfold cq
  simp only [hE, hS, and_true, true_and, and_false, false_and, or_false, false_or, not_true_eq_false, not_false_eq_true]
theorem cq_n {k : Nat} {E S T : Prop} {h : Int32} (hE : ¬ E) (hS : ¬ S) : ¬ cq k E S T h := by
  unfold cq
  simp only [hE, hS, and_true, true_and, and_false, false_and, or_false, false_or, not_true_eq_false, not_false_eq_true]
/-- one member is told -/
theorem x0_tell1 (h : INVP nb nm nl nB nN td nt nw lw w L σ) {σ' : Sto} (js : SC σ σ') {j r o d : Nat} (hb : BAL1 nb nm td w L σ j r o) (hj : j < nB) (hd : d ≤ 400) {i : Nat} (hi : i < nm) (hI : ∀ k, k < 26 → σ'.1 26 k = cnt (cc σ j o d k) i) (c6 : Lay → Sto → Nat → Option Nat → Int32 → Int32 → Option Sto) : ∃ t, (if b3 (inS σ i (σ.1 49 j) (nI o)) = 0 then (σ'.2.1 (r + 80) 5).bind fun x11 => (rI L σ' x11 (nI i)).bind fun v12 => (if nI d < v12 then c6 L σ' (r + 80) (some 25) (nI d) (nI (i + 1)) else (f_X3_addOne L σ' 25 120).bind fun σ14 => c6 L σ14 (r + 80) (some 25) (nI d) (nI (i + 1))) else (f_X0_tellEntitled L σ' (r + 80) (some 25) (nI i) (nI d)).bind fun σ15 => c6 L σ15 (r + 80) (some 25) (nI d) (nI (i + 1))) = c6 L t (r + 80) (some 25) (nI d) (nI (i + 1)) ∧ SC σ t ∧ ∀ k, k < 26 → t.1 26 k = cnt (cc σ j o d k) (i + 1) := by
  have hS := h.1
  have h' := h.sc js
  have hR' : RF lw σ'.2.1 := h'.2.1
  have hnm : nm ≤ 40 := h.2.2.1.1.2.1
  have htd : td ≤ 400 := h.2.2.1.1.2.2.2.2.2.1
  obtain ⟨⟨b1, b2, b3', b4, b5, b6⟩, ⟨b7, b8, b9, b10⟩, ⟨b11, b12, b13⟩, ⟨b14, b15, b17, b18, b19⟩, b20, b21, b22⟩ := id hb
  have w5 : σ'.2.1 (r + 80) 5 = some (r + 81) := by rw [js.2]; exact b8
  have w6 : σ'.2.1 (r + 80) 6 = some (r + 82) := by rw [js.2]; exact b9
  have w7 : σ'.2.1 (r + 80) 7 = some (r + 83) := by rw [js.2]; exact b10
  have v1 : σ'.1 (r + 81) i = σ.1 (r + 81) i := js.at (scr_hi (by omega))
  have v2 : σ'.1 (r + 82) i = σ.1 (r + 82) i := js.at (scr_hi (by omega))
  have v3 : σ'.1 (r + 83) i = σ.1 (r + 83) i := js.at (scr_hi (by omega))
  obtain ⟨p1, p2, p3⟩ := pap_cls (d := d) (b22 i (by omega)) htd hd
  by_cases hE : inS σ i (σ.1 49 j) (nI o)
  · rw [b3_t hE, if_neg (by decide)]
    by_cases hSn : snP σ j d i
    · have q1 : ¬ nI d < σ.1 (r + 81) i := Int32.not_lt.mpr (p1.mpr hSn)
      by_cases hT : teP σ j d i
      · have q2 : σ.1 (r + 82) i ≤ nI d := p2.mpr hT
        obtain ⟨q3, g, hg, q4⟩ := p3 hT
        rw [q4] at q3
        rcases (show g = 0 ∨ g = 1 ∨ g = 2 ∨ g = 3 by omega) with rfl | rfl | rfl | rfl
        · refine ⟨(bmp (bmp (bmp σ' 26 4) 26 15) 26 1), ?_, (((js.wr rfl).wr rfl).wr rfl), ?_⟩
          · simp (disch := omega) only [f_X0_tellEntitled, f_X0_tellEntitled_24, f_X0_tellEntitled_55, bmp_21, w5, w6, w7, rI_nI b11, rI_nI b12, rI_nI b13, bmp_ne, v1, v2, v3, q1, q2, q3, show (nI 0 = 0) = True from eq_true rfl, show (nI 0 = 1) = False from eq_false (by decide), show (nI 0 = 2) = False from eq_false (by decide), (show f_X3_addOne L σ' 25 101 = some (bmp σ' 26 4) from x3_addOne (σ := σ') (k := 4) hS hR'.r25_0 (by omega)), (show f_X3_addOne L (bmp σ' 26 4) 25 112 = some (bmp (bmp σ' 26 4) 26 15) from x3_addOne (σ := (bmp σ' 26 4)) (k := 15) hS hR'.r25_0 (by omega)), (show f_X3_addOne L (bmp (bmp σ' 26 4) 26 15) 25 98 = some (bmp (bmp (bmp σ' 26 4) 26 15) 26 1) from x3_addOne (σ := (bmp (bmp σ' 26 4) 26 15)) (k := 1) hS hR'.r25_0 (by omega)), if_true, if_false, Option.bind_some]
          · intro k hk
            rw [cnt_succ, ← hI k hk]
            rw [bmp_at, bmp_at, bmp_at]
            rw [b3_or (p := k = 4) (q := k = 15) (by omega)]
            rw [b3_or (p := (k = 4) ∨ k = 15) (q := k = 1) (by omega)]
            rw [b3_c (p := ((k = 4) ∨ k = 15) ∨ k = 1) (q := cc σ j o d k i = true) (by rw [cc_iff, q4]; exact cq_t0 hE hSn hT)]
        · refine ⟨(bmp (bmp (bmp (bmp σ' 26 4) 26 15) 26 17) 26 24), ?_, ((((js.wr rfl).wr rfl).wr rfl).wr rfl), ?_⟩
          · simp (disch := omega) only [f_X0_tellEntitled, f_X0_tellEntitled_24, f_X0_tellEntitled_55, bmp_21, w5, w6, w7, rI_nI b11, rI_nI b12, rI_nI b13, bmp_ne, v1, v2, v3, q1, q2, q3, show (nI 1 = 0) = False from eq_false (by decide), show (nI 1 = 1) = True from eq_true rfl, (show f_X3_addOne L σ' 25 101 = some (bmp σ' 26 4) from x3_addOne (σ := σ') (k := 4) hS hR'.r25_0 (by omega)), (show f_X3_addOne L (bmp σ' 26 4) 25 112 = some (bmp (bmp σ' 26 4) 26 15) from x3_addOne (σ := (bmp σ' 26 4)) (k := 15) hS hR'.r25_0 (by omega)), (show f_X3_addOne L (bmp (bmp σ' 26 4) 26 15) 25 114 = some (bmp (bmp (bmp σ' 26 4) 26 15) 26 17) from x3_addOne (σ := (bmp (bmp σ' 26 4) 26 15)) (k := 17) hS hR'.r25_0 (by omega)), (show f_X3_addOne L (bmp (bmp (bmp σ' 26 4) 26 15) 26 17) 25 121 = some (bmp (bmp (bmp (bmp σ' 26 4) 26 15) 26 17) 26 24) from x3_addOne (σ := (bmp (bmp (bmp σ' 26 4) 26 15) 26 17)) (k := 24) hS hR'.r25_0 (by omega)), if_true, if_false, Option.bind_some]
          · intro k hk
            rw [cnt_succ, ← hI k hk]
            rw [bmp_at, bmp_at, bmp_at, bmp_at]
            rw [b3_or (p := k = 4) (q := k = 15) (by omega)]
            rw [b3_or (p := (k = 4) ∨ k = 15) (q := k = 17) (by omega)]
            rw [b3_or (p := ((k = 4) ∨ k = 15) ∨ k = 17) (q := k = 24) (by omega)]
            rw [b3_c (p := (((k = 4) ∨ k = 15) ∨ k = 17) ∨ k = 24) (q := cc σ j o d k i = true) (by rw [cc_iff, q4]; exact cq_t1 hE hSn hT)]
        · refine ⟨(bmp (bmp (bmp (bmp σ' 26 4) 26 15) 26 17) 26 13), ?_, ((((js.wr rfl).wr rfl).wr rfl).wr rfl), ?_⟩
          · simp (disch := omega) only [f_X0_tellEntitled, f_X0_tellEntitled_24, f_X0_tellEntitled_55, bmp_21, w5, w6, w7, rI_nI b11, rI_nI b12, rI_nI b13, bmp_ne, v1, v2, v3, q1, q2, q3, show (nI 2 = 0) = False from eq_false (by decide), show (nI 2 = 1) = False from eq_false (by decide), show (nI 2 = 2) = True from eq_true rfl, (show f_X3_addOne L σ' 25 101 = some (bmp σ' 26 4) from x3_addOne (σ := σ') (k := 4) hS hR'.r25_0 (by omega)), (show f_X3_addOne L (bmp σ' 26 4) 25 112 = some (bmp (bmp σ' 26 4) 26 15) from x3_addOne (σ := (bmp σ' 26 4)) (k := 15) hS hR'.r25_0 (by omega)), (show f_X3_addOne L (bmp (bmp σ' 26 4) 26 15) 25 114 = some (bmp (bmp (bmp σ' 26 4) 26 15) 26 17) from x3_addOne (σ := (bmp (bmp σ' 26 4) 26 15)) (k := 17) hS hR'.r25_0 (by omega)), (show f_X3_addOne L (bmp (bmp (bmp σ' 26 4) 26 15) 26 17) 25 110 = some (bmp (bmp (bmp (bmp σ' 26 4) 26 15) 26 17) 26 13) from x3_addOne (σ := (bmp (bmp (bmp σ' 26 4) 26 15) 26 17)) (k := 13) hS hR'.r25_0 (by omega)), if_true, if_false, Option.bind_some]
          · intro k hk
            rw [cnt_succ, ← hI k hk]
            rw [bmp_at, bmp_at, bmp_at, bmp_at]
            rw [b3_or (p := k = 4) (q := k = 15) (by omega)]
            rw [b3_or (p := (k = 4) ∨ k = 15) (q := k = 17) (by omega)]
            rw [b3_or (p := ((k = 4) ∨ k = 15) ∨ k = 17) (q := k = 13) (by omega)]
            rw [b3_c (p := (((k = 4) ∨ k = 15) ∨ k = 17) ∨ k = 13) (q := cc σ j o d k i = true) (by rw [cc_iff, q4]; exact cq_t2 hE hSn hT)]
        · refine ⟨(bmp (bmp (bmp σ' 26 4) 26 15) 26 17), ?_, (((js.wr rfl).wr rfl).wr rfl), ?_⟩
          · simp (disch := omega) only [f_X0_tellEntitled, f_X0_tellEntitled_24, f_X0_tellEntitled_55, bmp_21, w5, w6, w7, rI_nI b11, rI_nI b12, rI_nI b13, bmp_ne, v1, v2, v3, q1, q2, q3, show (nI 3 = 0) = False from eq_false (by decide), show (nI 3 = 1) = False from eq_false (by decide), show (nI 3 = 2) = False from eq_false (by decide), (show f_X3_addOne L σ' 25 101 = some (bmp σ' 26 4) from x3_addOne (σ := σ') (k := 4) hS hR'.r25_0 (by omega)), (show f_X3_addOne L (bmp σ' 26 4) 25 112 = some (bmp (bmp σ' 26 4) 26 15) from x3_addOne (σ := (bmp σ' 26 4)) (k := 15) hS hR'.r25_0 (by omega)), (show f_X3_addOne L (bmp (bmp σ' 26 4) 26 15) 25 114 = some (bmp (bmp (bmp σ' 26 4) 26 15) 26 17) from x3_addOne (σ := (bmp (bmp σ' 26 4) 26 15)) (k := 17) hS hR'.r25_0 (by omega)), if_true, if_false, Option.bind_some]
          · intro k hk
            rw [cnt_succ, ← hI k hk]
            rw [bmp_at, bmp_at, bmp_at]
            rw [b3_or (p := k = 4) (q := k = 15) (by omega)]
            rw [b3_or (p := (k = 4) ∨ k = 15) (q := k = 17) (by omega)]
            rw [b3_c (p := ((k = 4) ∨ k = 15) ∨ k = 17) (q := cc σ j o d k i = true) (by rw [cc_iff, q4]; exact cq_t3 hE hSn hT)]
      · have q2 : ¬ σ.1 (r + 82) i ≤ nI d := fun u => hT (p2.mp u)
        refine ⟨(bmp (bmp σ' 26 4) 26 15), ?_, ((js.wr rfl).wr rfl), ?_⟩
        · simp (disch := omega) only [f_X0_tellEntitled, f_X0_tellEntitled_24, f_X0_tellEntitled_55, bmp_21, w5, w6, w7, rI_nI b11, rI_nI b12, rI_nI b13, bmp_ne, v1, v2, v3, q1, q2, (show f_X3_addOne L σ' 25 101 = some (bmp σ' 26 4) from x3_addOne (σ := σ') (k := 4) hS hR'.r25_0 (by omega)), (show f_X3_addOne L (bmp σ' 26 4) 25 112 = some (bmp (bmp σ' 26 4) 26 15) from x3_addOne (σ := (bmp σ' 26 4)) (k := 15) hS hR'.r25_0 (by omega)), if_true, if_false, Option.bind_some]
        · intro k hk
          rw [cnt_succ, ← hI k hk]
          rw [bmp_at, bmp_at]
          rw [b3_or (p := k = 4) (q := k = 15) (by omega)]
          rw [b3_c (p := (k = 4) ∨ k = 15) (q := cc σ j o d k i = true) (by rw [cc_iff]; exact cq_s hE hSn hT)]
    · have q1 : nI d < σ.1 (r + 81) i := Int32.not_le.mp (fun u => hSn (p1.mp u))
      have hT : ¬ teP σ j d i := fun u => hSn u.1
      have q2 : ¬ σ.1 (r + 82) i ≤ nI d := fun u => hT (p2.mp u)
      refine ⟨(bmp (bmp σ' 26 4) 26 12), ?_, ((js.wr rfl).wr rfl), ?_⟩
      · simp (disch := omega) only [f_X0_tellEntitled, f_X0_tellEntitled_24, f_X0_tellEntitled_55, bmp_21, w5, w6, w7, rI_nI b11, rI_nI b12, rI_nI b13, bmp_ne, v1, v2, v3, q1, q2, (show f_X3_addOne L σ' 25 101 = some (bmp σ' 26 4) from x3_addOne (σ := σ') (k := 4) hS hR'.r25_0 (by omega)), (show f_X3_addOne L (bmp σ' 26 4) 25 109 = some (bmp (bmp σ' 26 4) 26 12) from x3_addOne (σ := (bmp σ' 26 4)) (k := 12) hS hR'.r25_0 (by omega)), if_true, if_false, Option.bind_some]
      · intro k hk
        rw [cnt_succ, ← hI k hk]
        rw [bmp_at, bmp_at]
        rw [b3_or (p := k = 4) (q := k = 12) (by omega)]
        rw [b3_c (p := (k = 4) ∨ k = 12) (q := cc σ j o d k i = true) (by rw [cc_iff]; exact cq_m hE hSn hT)]
  · rw [b3_f hE, if_pos rfl]
    by_cases hSn : snP σ j d i
    · have q1 : ¬ nI d < σ.1 (r + 81) i := Int32.not_lt.mpr (p1.mpr hSn)
      refine ⟨(bmp σ' 26 23), ?_, (js.wr rfl), ?_⟩
      · simp (disch := omega) only [f_X0_tellEntitled, f_X0_tellEntitled_24, f_X0_tellEntitled_55, bmp_21, w5, w6, w7, rI_nI b11, rI_nI b12, rI_nI b13, bmp_ne, v1, v2, v3, q1, (show f_X3_addOne L σ' 25 120 = some (bmp σ' 26 23) from x3_addOne (σ := σ') (k := 23) hS hR'.r25_0 (by omega)), if_true, if_false, Option.bind_some]
      · intro k hk
        rw [cnt_succ, ← hI k hk]
        rw [bmp_at]
        rw [b3_c (p := k = 23) (q := cc σ j o d k i = true) (by rw [cc_iff]; exact cq_x hE hSn)]
    · have q1 : nI d < σ.1 (r + 81) i := Int32.not_le.mp (fun u => hSn (p1.mp u))
      refine ⟨σ', ?_, js, ?_⟩
      · simp (disch := omega) only [f_X0_tellEntitled, f_X0_tellEntitled_24, f_X0_tellEntitled_55, bmp_21, w5, w6, w7, rI_nI b11, rI_nI b12, rI_nI b13, bmp_ne, v1, v2, v3, q1, if_true, if_false, Option.bind_some]
      · intro k hk
        rw [cnt_succ, ← hI k hk]
        rw [b3_f (p := cc σ j o d k i = true) (fun u => by rw [cc_iff] at u; exact cq_n hE hSn u), Int32.add_zero]
end
