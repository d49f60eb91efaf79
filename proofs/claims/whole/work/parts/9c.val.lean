/-! what a part of the law gives: the reference -/
theorem nI_ex (x : Int32) : ∃ q, x = nI q := ⟨x.toBitVec.toNat, Int32.toBitVec_inj.mp (BitVec.eq_of_toNat_eq (by
  show x.toBitVec.toNat = x.toBitVec.toNat % 2 ^ 32
  exact (Nat.mod_eq_of_lt x.toBitVec.isLt).symm))⟩
/-- a part that was read -/
def LPk (lw n : Nat) (σ : Sto) (k a b fr : Nat) (c : List Int32) : Prop := (a ≤ b ∧ b ≤ 108 ∧ σ.1 (lw + 2) k = nI b ∧ (k = 0 → a = 0) ∧ (∀ i, k = i + 1 → σ.1 (lw + 2) i = nI a)) ∧ (σ.1 57 k = nI fr ∧ fr ≤ n ∧ sps (clp n (σ.1 56)) n 109 fr = fr) ∧ (∃ s, (pcg (clp n (σ.1 56)) n (Nat.beq k 1) 100).2 0 0 0 (nxf (clp n (σ.1 56)) n fr) = (true, c, s) ∧ s.2.2 ≠ 4) ∧ c.length = b - a ∧ ∀ j, j < c.length → σ.1 (lw + 1) (a + j) = c.getD j 0
def LPn (n : Nat) (σ : Sto) : Prop := n ≤ 108 ∧ σ.1 37 26 = nI n ∧ ∀ i, i < n → ∃ b, b < 256 ∧ σ.1 56 i = nI b
theorem LPn.sc {n : Nat} {σ σ' : Sto} (h : LPn n σ) (s : SC σ σ') : LPn n σ' := ⟨h.1, (s.at rfl).trans h.2.1, fun i hi => by rw [s.at (a := 56) rfl]; exact h.2.2 i hi⟩
theorem LPk.sc {lw n k a b fr : Nat} {c : List Int32} {σ σ' : Sto} (h : LPk lw n σ k a b fr c) (hl : lw = 17 ∨ lw = 21) (s : SC σ σ') : LPk lw n σ' k a b fr c := by
  obtain ⟨⟨a1, a2, a3, a4, a5⟩, ⟨b1, b2, b3⟩, c1, d1, d2⟩ := h
  have q1 : ∀ k, σ'.1 (lw + 1) k = σ.1 (lw + 1) k := fun k => by
    rcases hl with rfl | rfl
    · exact s.at rfl
    · exact s.at rfl
  have q2 : ∀ k, σ'.1 (lw + 2) k = σ.1 (lw + 2) k := fun k => by
    rcases hl with rfl | rfl
    · exact s.at rfl
    · exact s.at rfl
  have q3 : σ'.1 56 = σ.1 56 := funext fun k => s.at rfl
  refine ⟨⟨a1, a2, (q2 k).trans a3, a4, fun i hi => (q2 i).trans (a5 i hi)⟩, ⟨(s.at rfl).trans b1, b2, by rw [q3]; exact b3⟩, by rw [q3]; exact c1, d1, fun j hj => (q1 _).trans (d2 j hj)⟩
section
variable {lw n k a b fr : Nat} {L : Lay} {σ : Sto} {c : List Int32}
theorem LPk.cw (h : LPk lw n σ k a b fr c) : (∀ x, x ∈ c → CW x) ∧ WFc c := by
  obtain ⟨s, e, -⟩ := h.2.2.1
  have p := (pcg_pp (t := clp n (σ.1 56)) (n := n) (pt := Nat.beq k 1) 100).2 0 0 0 _ (nxf_k h.2.1.2.1)
  rw [e] at p
  exact ⟨p.2.2.1, p.2.2.2 rfl⟩
theorem x12_gives (hS : SF L) (hR : RF lw σ.2.1) (hN : LPn n σ) (hk : k < 3) (h : LPk lw n σ k a b fr c) : ∃ σ2, f_X12_gives L σ 37 (nI k) = some (evc (KN (σ.1 73)) c, σ2) ∧ SC σ σ2 ∧ σ2.1 73 = σ.1 73 ∧ σ2.1 26 = σ.1 26 := by
  obtain ⟨n1, n2, n3⟩ := hN
  obtain ⟨-, ⟨b1, b2, b3'⟩, ⟨s, pe, ps⟩, -⟩ := h
  obtain ⟨q, hq⟩ := nI_ex (σ.1 37 60)
  generalize ht : clp n (σ.1 56) = t at b3' pe
  let σ9 : Sto := sI (sI (sI (sI (sI (sI (sI σ 37 52 1) 37 56 0) 37 53 0) 37 55 (nI fr)) 37 58 0) 37 59 0) 37 57 (nI k)
  have S9 : SC σ σ9 := (((((((SC.rf σ).wr rfl).wr rfl).wr rfl).wr rfl).wr rfl).wr rfl).wr rfl
  have v52 : σ9.1 37 52 = 1 := by simp (disch := omega) only [σ9, sI_nk, sI_eq]
  have v56 : σ9.1 37 56 = 0 := by simp (disch := omega) only [σ9, sI_nk, sI_eq]
  have v53 : σ9.1 37 53 = nI 0 := by simp (disch := omega) only [σ9, sI_nk, sI_eq]; rfl
  have v55 : σ9.1 37 55 = nI fr := by simp (disch := omega) only [σ9, sI_nk, sI_eq]
  have v58 : σ9.1 37 58 = nI 0 := by simp (disch := omega) only [σ9, sI_nk, sI_eq]; rfl
  have v59 : σ9.1 37 59 = nI 0 := by simp (disch := omega) only [σ9, sI_nk, sI_eq]; rfl
  have v57 : σ9.1 37 57 = nI k := by simp (disch := omega) only [σ9, sI_eq]
  have v60 : σ9.1 37 60 = nI q := by simp (disch := omega) only [σ9, sI_nk, hq]
  have w73 : σ9.1 73 = σ.1 73 := funext fun i => by simp (disch := omega) only [σ9, sI_ne]
  have w26 : σ9.1 26 = σ.1 26 := funext fun i => by simp (disch := omega) only [σ9, sI_ne]
  have x56 : σ9.1 56 = σ.1 56 := funext fun i => S9.at rfl
  have ex : rx n σ9 = t := by
    unfold rx
    rw [v52, if_neg (by decide), x56, ht]
  have P : RPE n L σ9 := by
    refine ⟨hS, ⟨lw, hR⟩, n1, fun i hi => ?_, Or.inr ⟨v52, (S9.at rfl).trans n2⟩⟩
    rw [ex, ← ht, clp_at _ hi]
    exact n3 i hi
  obtain ⟨σ10, g1, g2, g3, g4⟩ := x12_next P (s := 0) (p := fr) (by omega) b2 v53 v55
  rw [ex, b3'] at g3
  rw [v56, wrn, if_pos ⟨rfl, fun u => by cases u.1⟩] at g4
  have C : RRS n L t (σ.1 73) k 0 0 q (nxf t n fr) σ10 := by
    obtain ⟨r1, r2⟩ := P.rq g2.q
    exact ⟨⟨r1, r2.trans ex, (funext fun i => g2.at rfl : σ10.1 73 = σ9.1 73).trans w73, (g2.at rfl).trans v57⟩, ⟨g3, g4, srt_le _ _ _, nxf_k b2⟩, (g2.at rfl).trans v58, (g2.at rfl).trans v59, (g2.at rfl).trans v60⟩
  obtain ⟨v, σ2, m1, m2, m3⟩ := (r_read (p := k) (n := n) (L := L) (t := t) (f := σ.1 73) (by omega) 100 100 0 0 0 (by omega) (by omega) (by omega) (by omega) (by omega)).1 σ10 _ q C
  rw [pe] at m3
  rcases m3 with ⟨-, m4, m5⟩ | ⟨m4, -⟩
  · have F : FR rqs σ9 σ2 := g2.q.tr m2
    refine ⟨σ2, ?_, S9.tr (FR.sc F (fun a k u => by simp [rqs] at u; simp [scr]; omega)), m4.1.2.2.1, (funext fun i => F.at rfl : σ2.1 26 = σ9.1 26).trans w26⟩
    unfold f_X12_gives
    rw [ck1, ck0]
    simp only [Option.bind_some, putI, sI_21, hR.r37_28]
    have r57 : rI L (sI (sI (sI σ 37 52 1) 37 56 0) 37 53 0) 57 (nI k) = some (nI fr) := by
      rw [rI_nI hS.l57 hk (by omega)]
      simp (disch := omega) only [sI_ne, b1]
    rw [r57]
    simp only [Option.bind_some]
    have g1' : f_X12_next L (sI (sI (sI (sI (sI (sI (sI σ 37 52 1) 37 56 0) 37 53 0) 37 55 (nI fr)) 37 58 0) 37 59 0) 37 57 (nI k)) 37 = some σ10 := g1
    have m1' : f_X12_or L σ10 37 = some (v, σ2) := m1
    rw [g1', Option.bind_some, m1', Option.bind_some, m5]
  · exact absurd (m4.resolve_left (fun u => by cases u)) ps
end
/-! what steps give: the class -/
def KQ (f : Nat → Int32) (c : Int32) : Int32 := f (c.toNatClampNeg - 97)
theorem evs_congr {K K' : Int32 → Int32} (hK : ∀ c, nmo true c = true → K c = K' c) : ∀ (c st : List Int32), (∀ x, x ∈ c → CW x) → evs K c st = evs K' c st
  | [], _, _ => rfl
  | x :: r, st, h => by
    have ih := fun st => evs_congr hK r st (fun y hy => h y (List.mem_cons_of_mem _ hy))
    show evs K r _ = evs K' r _
    rw [ih]
    congr 1
    by_cases z : x < 10000
    · rw [if_pos z, if_pos z]
    · rw [if_neg z, if_neg z]
      rcases h x (List.mem_cons_self) with ⟨m, m1, m2⟩ | ⟨c, c1, c2⟩ | ⟨c, c1, c2⟩
      · rw [m2] at z
        exact absurd (show nI m < 10000 from (nI_ltI (b := 10000) (by omega) (by omega)).mpr m1) z
      · have e : x - 10000 = c := by
          rw [c2]
          rcases nmo_c c1 with z | z | z | z | z | z | z | z | z | z | z | z | z <;> subst z <;> decide
        rw [e, hK c c1]
      · exfalso
        apply z
        rw [c2]
        rcases c1 with q | q
        · subst q; decide
        · rcases lvl_c q with q | q | q | q | q | q | q | q | q <;> subst q <;> decide
theorem evc_congr {K K' : Int32 → Int32} (hK : ∀ c, nmo true c = true → K c = K' c) {c : List Int32} (h : ∀ x, x ∈ c → CW x) : evc K c = evc K' c := by
  unfold evc
  rw [evs_congr hK c [] h]
theorem KQ_KN {f g : Nat → Int32} (h : ∀ q, q < 13 → g q = f (ltr q)) : ∀ c, nmo true c = true → KQ f c = KN g c := by
  intro c hc
  have T : ∀ k, k < 26 → nmo true (nI (97 + k)) = true → nix (nI (97 + k)) < 13 ∧ ltr (nix (nI (97 + k))) = k := by decide +kernel
  have e : ∃ k, k < 26 ∧ c = nI (97 + k) := by
    rcases nmo_c hc with z | z | z | z | z | z | z | z | z | z | z | z | z <;> subst z
    · exact ⟨4, by omega, rfl⟩
    · exact ⟨15, by omega, rfl⟩
    · exact ⟨12, by omega, rfl⟩
    · exact ⟨23, by omega, rfl⟩
    · exact ⟨1, by omega, rfl⟩
    · exact ⟨17, by omega, rfl⟩
    · exact ⟨24, by omega, rfl⟩
    · exact ⟨13, by omega, rfl⟩
    · exact ⟨21, by omega, rfl⟩
    · exact ⟨3, by omega, rfl⟩
    · exact ⟨0, by omega, rfl⟩
    · exact ⟨11, by omega, rfl⟩
    · exact ⟨2, by omega, rfl⟩
  obtain ⟨k, hk, rfl⟩ := e
  obtain ⟨t1, t2⟩ := T k hk hc
  unfold KQ KN
  rw [nI_clamp (by omega), Nat.add_sub_cancel_left, h _ t1, t2]
/-! the stack -/
def vps (lw a k : Nat) : Bool := (Nat.beq a lw && Nat.beq k 7) || Nat.beq a (lw + 3)
theorem vps_t {lw a k : Nat} (h : (a = lw ∧ k = 7) ∨ a = lw + 3) : vps lw a k = true := by
  simp [vps]
  omega
theorem vps_f {lw a k : Nat} (h : ¬ ((a = lw ∧ k = 7) ∨ a = lw + 3)) : vps lw a k = false := pf_of (fun u => h (by
  simp [vps] at u
  omega))
def STK (lw : Nat) (st : List Int32) (σ : Sto) : Prop := σ.1 lw 7 = nI st.length ∧ ∀ j, j < st.length → σ.1 (lw + 3) (st.length - 1 - j) = st.getD j 0
section
variable {lw : Nat} {L : Lay} {σ : Sto} {st : List Int32}
theorem lw_refs (hS : SF L) (hR : RF lw σ.2.1) : (lw = 17 ∨ lw = 21) ∧ (σ.2.1 lw 0 = some (lw + 1) ∧ σ.2.1 lw 2 = some (lw + 2) ∧ σ.2.1 lw 6 = some (lw + 3)) ∧ L.2.1 (lw + 1) = 108 ∧ L.2.1 (lw + 2) = 3 ∧ L.2.1 (lw + 3) = 108 := by
  rcases hR.lw with z | z <;> subst z
  · exact ⟨Or.inl rfl, ⟨hR.r17_0, hR.r17_2, hR.r17_6⟩, hS.l18, hS.l19, hS.l20⟩
  · exact ⟨Or.inr rfl, ⟨hR.r21_0, hR.r21_2, hR.r21_6⟩, hS.l22, hS.l23, hS.l24⟩
theorem x1_push (hS : SF L) (hR : RF lw σ.2.1) (h : STK lw st σ) (hl : st.length < 108) (v : Int32) : ∃ σ2, f_X1_push L σ lw v = some σ2 ∧ STK lw (v :: st) σ2 ∧ FR (vps lw) σ σ2 := by
  obtain ⟨l0, ⟨r1, r2, r3⟩, l1, l2, l3⟩ := lw_refs hS hR
  obtain ⟨h1, h2⟩ := h
  refine ⟨sI (sI σ (lw + 3) st.length v) lw 7 (nI (st.length + 1)), ?_, ⟨?_, ?_⟩, ((FR.rf _ σ).wr (vps_t (by omega))).wr (vps_t (by omega))⟩
  · unfold f_X1_push
    rw [r3, Option.bind_some, l3, h1, if_neg (fun u => by have := (nI_leI (a := 108) (by omega) (by omega)).mp u; omega), Option.bind_some, wI_nI l3 hl (by omega), Option.bind_some]
    rw [show (sI σ (lw + 3) st.length v).1 lw 7 = nI st.length from (sI_ne (by omega)).trans h1, nI_1]
    rfl
  · exact sI_eq _ _ _ _
  · intro j hj
    have hj : j < st.length + 1 := hj
    rw [sI_ne (by omega)]
    show (sI σ (lw + 3) st.length v).1 (lw + 3) (st.length + 1 - 1 - j) = _
    cases j with
    | zero => rw [show st.length + 1 - 1 - 0 = st.length by omega, sI_eq]; rfl
    | succ j =>
      rw [sI_nk (by omega), show st.length + 1 - 1 - (j + 1) = st.length - 1 - j by omega, h2 j (by omega)]
      rfl
theorem x1_pop (hS : SF L) (hR : RF lw σ.2.1) (h : STK lw st σ) (hl : st.length ≤ 108) : ∃ σ2, f_X1_pop L σ lw = some (st.headD 0, σ2) ∧ STK lw st.tail σ2 ∧ FR (vps lw) σ σ2 := by
  obtain ⟨l0, ⟨r1, r2, r3⟩, l1, l2, l3⟩ := lw_refs hS hR
  obtain ⟨h1, h2⟩ := id h
  unfold f_X1_pop
  cases st with
  | nil =>
    have h1 : σ.1 lw 7 = 0 := h1.trans nI_0
    rw [h1, if_pos rfl]
    exact ⟨σ, rfl, h, FR.rf _ _⟩
  | cons v st =>
    have hl : st.length + 1 ≤ 108 := hl
    have h1 : σ.1 lw 7 = nI (st.length + 1) := h1
    refine ⟨sI σ lw 7 (nI st.length), ?_, ⟨sI_eq _ _ _ _, fun j hj => ?_⟩, (FR.rf _ σ).wr (vps_t (by omega))⟩
    · rw [h1, if_neg (nI_ne0 (by omega) (by omega)), nI_pred, putI, Option.bind_some]
      rw [show (sI σ lw 7 (nI st.length)).2.1 lw 6 = some (lw + 3) from r3, Option.bind_some, sI_eq, rI_nI l3 (by omega) (by omega), Option.bind_some, sI_ne (by omega)]
      have := h2 0 (by show 0 < st.length + 1; omega)
      rw [show (v :: st).length - 1 - 0 = st.length from by show st.length + 1 - 1 - 0 = st.length; omega] at this
      rw [this]
      rfl
    · have hj : j < st.length := hj
      rw [sI_ne (by omega)]
      have := h2 (j + 1) (by show j + 1 < st.length + 1; omega)
      rw [show (v :: st).length - 1 - (j + 1) = st.length - 1 - j from by show st.length + 1 - 1 - (j + 1) = _; omega] at this
      exact this
theorem x1_apply (L : Lay) (σ : Sto) (c a b : Int32) : f_X1_apply L σ c a b = some (ap2 c a b) := by
  have o1 : f_X11_oneIf L σ 1 = some 1 := rfl
  have o0 : f_X11_oneIf L σ 0 = some 0 := rfl
  unfold f_X1_apply f_X1_apply_84 f_X1_apply_105 f_X1_apply_89 f_X1_apply_106 f_X1_apply_120 f_X1_apply_134 f_X1_apply_148 ap2 dv
  simp only [o1, o0, Option.bind_some]
  by_cases c1 : c = 38
  · rw [if_pos c1, if_pos c1]
    by_cases z : a = 0
    · rw [if_pos z, b3_f (fun u => u.1 z)]
    · rw [if_neg z]
      by_cases y : b = 0
      · rw [if_pos y, b3_f (fun u => u.2 y)]
      · rw [if_neg y, b3_t ⟨z, y⟩]
  rw [if_neg c1, if_neg c1]
  by_cases c2 : c = 42
  · rw [if_pos c2, if_pos c2]
  rw [if_neg c2, if_neg c2]
  by_cases c3 : c = 43
  · rw [if_pos c3, if_pos c3]
  rw [if_neg c3, if_neg c3]
  by_cases c4 : c = 45
  · rw [if_pos c4, if_pos c4]
  rw [if_neg c4, if_neg c4]
  by_cases c5 : c = 60
  · rw [if_pos c5, if_pos c5]
    by_cases y : b ≤ a
    · rw [if_pos y, b3_f (Int32.not_lt.mpr y)]
    · rw [if_neg y, b3_t (Int32.not_le.mp y)]
  rw [if_neg c5, if_neg c5]
  by_cases c6 : c = 61
  · rw [if_pos c6, if_pos c6]
    by_cases y : a = b
    · rw [if_pos y, b3_t y]
    · rw [if_neg y, b3_f y]
  rw [if_neg c6, if_neg c6]
  by_cases c7 : c = 62
  · rw [if_pos c7, if_pos c7]
    by_cases y : a ≤ b
    · rw [if_pos y, b3_f (Int32.not_lt.mpr y)]
    · rw [if_neg y, b3_t (Int32.not_le.mp y)]
  rw [if_neg c7, if_neg c7]
  by_cases c8 : c = 124
  · rw [if_pos c8, if_pos c8]
    by_cases z : a = 0
    · rw [if_pos z]
      by_cases y : b = 0
      · rw [if_pos y, b3_f (fun u => u.elim (fun u => u z) (fun u => u y))]
      · rw [if_neg y, b3_t (Or.inr y)]
    · rw [if_neg z, b3_t (Or.inl z)]
  rw [if_neg c8, if_neg c8]
  by_cases y : b = 0
  · rw [if_pos y, if_pos y]
  · rw [if_neg y, if_neg y, Option.bind_some, if_neg y]
end
