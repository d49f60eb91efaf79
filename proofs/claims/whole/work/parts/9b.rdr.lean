/-! the reference reads: one -/
def nA (σ : Sto) : Sto := sI (sI σ 37 59 (σ.1 37 59 + 1)) 37 58 (σ.1 37 58 + 0)
def nE (σ : Sto) : Sto := sI (sI σ 37 59 (σ.1 37 59 - 1)) 37 58 (σ.1 37 58 - 0)
def bA (σ : Sto) : Sto := sI (sI σ 37 59 (σ.1 37 59 + 0)) 37 58 (σ.1 37 58 + 1)
def bE (σ : Sto) : Sto := sI (sI σ 37 59 (σ.1 37 59 - 0)) 37 58 (σ.1 37 58 - 1)
theorem ab_k {σ : Sto} {k : Nat} {x y : Int32} (h : k ≠ 58 ∧ k ≠ 59) : (sI (sI σ 37 59 x) 37 58 y).1 37 k = σ.1 37 k := by
  rw [sI_nk (by omega), sI_nk (by omega)]
theorem ab_59 {σ : Sto} {x y : Int32} : (sI (sI σ 37 59 x) 37 58 y).1 37 59 = x := by
  rw [sI_nk (by omega), sI_eq]
theorem ab_fr {σ : Sto} {x y : Int32} : FR rqs σ (sI (sI σ 37 59 x) 37 58 y) := ((FR.rf _ σ).wr (rqs_t (by omega))).wr (rqs_t (by omega))
section
variable {n p br nt q : Nat} {L : Lay} {t f : Nat → Int32} {s : TS} {σ : Sto}
theorem r_n77 (g1 g2 : Lay → Sto → Nat → Option (Int32 × Sto)) (L : Lay) (σ : Sto) : f_X12_one_77 g1 g2 L σ 37 1 1 (σ.1 37 59) 37 = (if σ.1 37 56 = 0 then (g1 L (nA σ) 37).bind fun r => (if r.1 = 0 then some (1, nE r.2) else some (0, nE r.2)) else some (1, nE (nA σ))) := by
  unfold f_X12_one_77 f_X12_one_95 f_X12_one_125 f_X12_one_140 f_X12_one_158 f_X12_one_176
  simp only [putI, Option.bind_some, one_ne0, if_false, if_true, zero_eq0]
  have k1 : (sI σ 37 59 (σ.1 37 59 + 1)).1 37 58 = σ.1 37 58 := sI_nk (by omega)
  have k2 : (sI (sI σ 37 59 (σ.1 37 59 + 1)) 37 58 (σ.1 37 58 + 0)).1 37 56 = σ.1 37 56 := ab_k (by omega)
  have k3 : ∀ σ : Sto, (sI σ 37 59 (σ.1 37 59 - 1)).1 37 58 = σ.1 37 58 := fun σ => sI_nk (by omega)
  simp only [k1, k2, k3]
  rfl
theorem r_b77 (g1 g2 : Lay → Sto → Nat → Option (Int32 × Sto)) (L : Lay) (σ : Sto) : f_X12_one_77 g1 g2 L σ 37 0 0 (σ.1 37 59) 37 = (if σ.1 37 56 = 0 then (g2 L (bA σ) 37).bind fun r => (f_X12_isSign L (bE r.2) 37 41).bind fun r2 => (f_X12_takes L (bE r.2) 37 r2).bind fun σ3 => some (r.1, σ3) else (f_X12_isSign L (bE (bA σ)) 37 41).bind fun r2 => (f_X12_takes L (bE (bA σ)) 37 r2).bind fun σ3 => some (0, σ3)) := by
  unfold f_X12_one_77 f_X12_one_95 f_X12_one_125 f_X12_one_140 f_X12_one_158 f_X12_one_176
  simp only [putI, Option.bind_some, if_true]
  have k1 : (sI σ 37 59 (σ.1 37 59 + 0)).1 37 58 = σ.1 37 58 := sI_nk (by omega)
  have k2 : (sI (sI σ 37 59 (σ.1 37 59 + 0)) 37 58 (σ.1 37 58 + 1)).1 37 56 = σ.1 37 56 := ab_k (by omega)
  have k3 : ∀ σ : Sto, (sI σ 37 59 (σ.1 37 59 - 0)).1 37 58 = σ.1 37 58 := fun σ => sI_nk (by omega)
  simp only [k1, k2, k3]
  rfl
theorem nm_num : ∀ k, k < 26 → ∀ b : Bool, (nmo b (nI (97 + k)) = true ↔ (0 ≤ nmq k ∧ nmq k ≤ (if b = true then 12 else 9))) ∧ (nmo b (nI (97 + k)) = true → nmq k = nI (nix (nI (97 + k))) ∧ nix (nI (97 + k)) < 13) := by decide +kernel
/-- a wrong end -/
theorem r_bad {r : PR} {v : Int32} {σ2 : Sto} (h : FR rqs σ σ2) (h1 : r.1 = false ∨ r.2.2.2.2 = 4) (h2 : σ2.1 37 54 = nI r.2.2.1) (h3 : σ2.1 37 56 = 1) : RRR n L t f p br nt q σ r v σ2 := ⟨h, Or.inr ⟨h1, h2, h3⟩⟩
theorem RRS.c60 (c : RRS n L t f p br nt q s σ) : RRS n L t f p br nt (q + 1) s (sI σ 37 60 (σ.1 37 60 + 1)) ∧ FR rqs σ (sI σ 37 60 (σ.1 37 60 + 1)) := by
  obtain ⟨c1, ⟨⟨d1, d1', d1''⟩, d2, d3, d4⟩, e1, e2, e3⟩ := id c
  have g : FR rqs σ (sI σ 37 60 (σ.1 37 60 + 1)) := (FR.rf _ σ).wr (rqs_t (by omega))
  refine ⟨c.fr g ⟨(sI_nk (by omega)).trans d1, (sI_nk (by omega)).trans d1', (sI_nk (by omega)).trans d1''⟩ ((sI_nk (by omega)).trans d2) d3 d4 ((sI_nk (by omega)).trans e1) ((sI_nk (by omega)).trans e2) ?_, g⟩
  rw [sI_eq, e3, nI_1]
theorem r_name (g1 g2 : Lay → Sto → Nat → Option (Int32 × Sto)) (c : RRS n L t f p br nt q s σ) (hp : p < 10) (x : Int32) : f_X12_one_243 g1 g2 L σ 37 x = (f_X12_takes L (sI σ 37 60 (σ.1 37 60 + 1)) 37 (b3 (0 ≤ x ∧ x ≤ (if Nat.beq p 1 = true then 12 else 9)))).bind fun σ12 => (if σ12.1 37 56 = 0 then (σ12.2.1 37 46).bind fun x13 => (rI L σ12 x13 x).bind fun v14 => some (v14, σ12) else some (0, σ12)) := by
  have e57 : (sI σ 37 60 (σ.1 37 60 + 1)).1 37 57 = nI p := (sI_nk (by omega)).trans c.1.2.2.2
  unfold f_X12_one_243 f_X12_one_272
  rw [putI, Option.bind_some, e57]
  by_cases z : p = 1
  · subst z
    rw [if_pos (show nI 1 = 1 from rfl), x12_in, wi, Option.bind_some, if_pos (show Nat.beq 1 1 = true from rfl)]
  · have z' : ¬ Nat.beq p 1 = true := fun u => z (Nat.eq_of_beq_eq_true u)
    rw [if_neg (show ¬ nI p = 1 from fun u => z ((nI_eq (b := 1) (by omega) (by omega)).mp u)), x12_in, wi, Option.bind_some, if_neg z']
theorem r_one {g1 g2 : Lay → Sto → Nat → Option (Int32 × Sto)} {G1' : G1} {G2' : G2} (hp : p < 10) (hbr : br ≤ 8) (hnt : nt ≤ 8)
    (h1 : nt < 8 → ∀ σ s q, RRS n L t f p br (nt + 1) q s σ → ∃ v σ2, g1 L σ 37 = some (v, σ2) ∧ RRR n L t f p br (nt + 1) q σ (G1' br (nt + 1) s) v σ2)
    (h2 : br < 8 → ∀ σ s q, RRS n L t f p (br + 1) nt q s σ → ∃ v σ2, g2 L σ 37 = some (v, σ2) ∧ RRR n L t f p (br + 1) nt q σ (G2' 0 (br + 1) nt s) v σ2)
    (p1 : ∀ br nt s, TK t n s → PP t n s (G1' br nt s)) (p4 : ∀ br nt s, s.2.2 = 4 → G1' br nt s = (false, [], s)) (p5 : ∀ lv br nt s, s.2.2 = 4 → G2' lv br nt s = (false, [], s)) (c : RRS n L t f p br nt q s σ) : ∃ v σ2, fb_X12_one g1 g2 L σ 37 = some (v, σ2) ∧ RRR n L t f p br nt q σ (pcp t n (Nat.beq p 1) G1' G2' br nt s) v σ2 := by
  obtain ⟨⟨c1, c2, c3, c4⟩, ⟨⟨d1, d1', d1''⟩, d2, d3, d4⟩, e1, e2, e3⟩ := id c
  have hn := c1.2.2.1
  have hb := d4.1
  have R1 : ∀ σ : Sto, FR rqs σ (sI σ 37 56 1) := fun σ => (FR.rf _ σ).wr (rqs_t (by omega))
  unfold fb_X12_one pcp
  rw [if_pos d2, r_sign c (x := 33) (by decide), Option.bind_some]
  by_cases q3 : sgn t s = 33
  · have s3 := sgn_3 q3 (by decide)
    rw [b3_t q3, if_neg (by decide), if_neg (fun u => by omega), if_neg (fun u => by omega)]
    unfold f_X12_one_27 f_X12_one_50 f_X12_one_60
    rw [r_sign c (x := 33) (by decide), b3_t q3, Option.bind_some, if_neg (by decide), e2]
    by_cases y : nt < 8
    · rw [if_neg (show ¬ (8 : Int32) ≤ nI nt from fun u => by have := (nI_leI (a := 8) (by omega) (by omega)).mp u; omega), if_pos (show sgn t s = 33 ∧ nt < 8 from ⟨q3, y⟩)]
      obtain ⟨σ9, k1, k2, k3⟩ := r_take c (by omega)
      rw [k1, Option.bind_some, if_neg (show ¬ (1 : Int32) = 0 by decide), r_n77]
      obtain ⟨t1, t2⟩ := pp_go d4 (by omega) (by omega)
      rcases k3 with k3 | ⟨z1, z2, z3⟩
      · obtain ⟨-, ⟨⟨a1, a1', a1''⟩, a2, a3, a4⟩, b1, b2, b3'⟩ := id k3
        have cA : RRS n L t f p br (nt + 1) q (nx t n s.2.1) (nA σ9) := k3.fr ab_fr ⟨(ab_k (by omega)).trans a1, (ab_k (by omega)).trans a1', (ab_k (by omega)).trans a1''⟩ ((ab_k (by omega)).trans a2) a3 a4 (by unfold nA; rw [sI_eq, b1, Int32.add_zero]) (by unfold nA; rw [ab_59, b2, nI_1]) ((ab_k (by omega)).trans b3')
        obtain ⟨v, σ10, m1, m2, m3⟩ := h1 y _ _ _ cA
        rw [if_pos a2, m1, Option.bind_some]
        have fr : FR rqs σ (nE σ10) := ((k2.tr ab_fr).tr m2).tr ab_fr
        have pg := p1 br (nt + 1) _ t1
        refine ⟨b3 (v = 0), nE σ10, ?_, fr, ?_⟩
        · dsimp only
          by_cases w : v = 0
          · rw [if_pos w, b3_t w]
          · rw [if_neg w, b3_f w]
        · rcases m3 with ⟨w1, w2, w3⟩ | ⟨w1, w2, w3⟩
          · obtain ⟨-, ⟨⟨a1, a1', a1''⟩, a2, a3, a4⟩, b1, b2, b3'⟩ := id w2
            refine Or.inl ⟨w1, w2.fr ab_fr ⟨(ab_k (by omega)).trans a1, (ab_k (by omega)).trans a1', (ab_k (by omega)).trans a1''⟩ ((ab_k (by omega)).trans a2) a3 a4 (by unfold nE; rw [sI_eq, b1, Int32.sub_zero]) (by unfold nE; rw [ab_59, b2, nI_pred]) ((ab_k (by omega)).trans ?_), ?_⟩
            · show σ10.1 37 60 = nI (q + opn ((G1' br (nt + 1) (nx t n s.2.1)).2.1 ++ [-33]))
              rw [opn_app, opn_s (c := 33) (Or.inl rfl), Nat.add_zero]
              exact b3'
            · show b3 (v = 0) = evc (KN f) ((G1' br (nt + 1) (nx t n s.2.1)).2.1 ++ [-33])
              rw [(wf_not (pg.2.2.2 w1)).2, w3]
          · exact Or.inr ⟨w1, (ab_k (by omega)).trans w2, (ab_k (by omega)).trans w3⟩
      · rw [if_neg (by rw [z3]; decide), p4 br (nt + 1) _ z1]
        refine ⟨1, _, rfl, r_bad ((k2.tr ab_fr).tr ab_fr) (Or.inl rfl) ?_ ?_⟩
        · exact ((ab_k (by omega)).trans (ab_k (by omega))).trans z2
        · exact ((ab_k (by omega)).trans (ab_k (by omega))).trans z3
    · rw [if_pos (show (8 : Int32) ≤ nI nt from nI_le (a := 8) (by omega) (by omega)), if_neg (show ¬ (sgn t s = 33 ∧ nt < 8) from fun u => y u.2), if_neg (show ¬ (sgn t s = 40 ∧ br < 8) from fun u => by rw [q3] at u; exact absurd u.1 (by decide)), x12_take0 d2, Option.bind_some, if_neg (show ¬ (1 : Int32) = 0 by decide), r_n77, if_neg (show ¬ (sI σ 37 56 1).1 37 56 = 0 by rw [sI_eq]; decide)]
      refine ⟨1, _, rfl, r_bad (((R1 σ).tr ab_fr).tr ab_fr) (Or.inl rfl) ?_ ?_⟩
      · exact ((ab_k (by omega)).trans (ab_k (by omega))).trans ((sI_nk (by omega)).trans d1)
      · exact ((ab_k (by omega)).trans (ab_k (by omega))).trans (sI_eq _ _ _ _)
  rw [b3_f q3, if_pos rfl, r_sign c (x := 40) (by decide), Option.bind_some]
  by_cases q4 : sgn t s = 40
  · have s3 := sgn_3 q4 (by decide)
    rw [b3_t q4, if_neg (by decide), if_neg (fun u => by omega), if_neg (fun u => by omega), if_neg (fun u => q3 u.1)]
    unfold f_X12_one_27 f_X12_one_50 f_X12_one_60
    rw [r_sign c (x := 33) (by decide), b3_f q3, Option.bind_some, if_pos rfl, e1]
    by_cases y : br < 8
    · rw [if_neg (show ¬ (8 : Int32) ≤ nI br from fun u => by have := (nI_leI (a := 8) (by omega) (by omega)).mp u; omega), if_pos (show sgn t s = 40 ∧ br < 8 from ⟨q4, y⟩)]
      obtain ⟨σ9, k1, k2, k3⟩ := r_take c (by omega)
      rw [k1, Option.bind_some, if_pos (show (0 : Int32) = 0 from rfl), r_b77]
      obtain ⟨t1, t2⟩ := pp_go d4 (by omega) (by omega)
      rcases k3 with k3 | ⟨z1, z2, z3⟩
      · obtain ⟨-, ⟨⟨a1, a1', a1''⟩, a2, a3, a4⟩, b1, b2, b3'⟩ := id k3
        have cA : RRS n L t f p (br + 1) nt q (nx t n s.2.1) (bA σ9) := k3.fr ab_fr ⟨(ab_k (by omega)).trans a1, (ab_k (by omega)).trans a1', (ab_k (by omega)).trans a1''⟩ ((ab_k (by omega)).trans a2) a3 a4 (by unfold bA; rw [sI_eq, b1, nI_1]) (by unfold bA; rw [ab_59, b2, Int32.add_zero]) ((ab_k (by omega)).trans b3')
        obtain ⟨v, σ10, m1, m2, m3⟩ := h2 y _ _ _ cA
        rw [if_pos a2, m1, Option.bind_some]
        dsimp only
        have fr : FR rqs σ (bE σ10) := ((k2.tr ab_fr).tr m2).tr ab_fr
        rcases m3 with ⟨w1, w2, w3⟩ | ⟨w1, w2, w3⟩
        · obtain ⟨-, ⟨⟨a1, a1', a1''⟩, a2, a3, a4⟩, b1, b2, b3'⟩ := id w2
          have cE : RRS n L t f p br nt (q + opn (G2' 0 (br + 1) nt (nx t n s.2.1)).2.1) (G2' 0 (br + 1) nt (nx t n s.2.1)).2.2 (bE σ10) := w2.fr ab_fr ⟨(ab_k (by omega)).trans a1, (ab_k (by omega)).trans a1', (ab_k (by omega)).trans a1''⟩ ((ab_k (by omega)).trans a2) a3 a4 (by unfold bE; rw [sI_eq, b1, nI_pred]) (by unfold bE; rw [ab_59, b2, Int32.sub_zero]) ((ab_k (by omega)).trans b3')
          rw [r_sign cE (x := 41) (by decide), Option.bind_some]
          by_cases q5 : sgn t (G2' 0 (br + 1) nt (nx t n s.2.1)).2.2 = 41
          · have s5 := sgn_3 q5 (by decide)
            obtain ⟨σ11, j1, j2, j3⟩ := r_take cE (by omega)
            rw [b3_t q5, j1, Option.bind_some, if_pos ⟨w1, q5⟩]
            refine ⟨v, σ11, rfl, fr.tr j2, ?_⟩
            rcases j3 with j3 | ⟨x1, x2, x3⟩
            · exact Or.inl ⟨rfl, j3, w3⟩
            · exact Or.inr ⟨Or.inr x1, x2, x3⟩
          · rw [b3_f q5, x12_take0 cE.2.1.2.1, Option.bind_some, if_neg (fun u => q5 u.2)]
            exact ⟨v, _, rfl, r_bad (fr.tr (R1 _)) (Or.inl rfl) ((sI_nk (by omega)).trans cE.2.1.1.1) (sI_eq _ _ _ _)⟩
        · have w3' : ¬ (bE σ10).1 37 56 = 0 := by
            rw [show (bE σ10).1 37 56 = σ10.1 37 56 from ab_k (by omega), w3]
            decide
          rw [x12_isSign_w w3', Option.bind_some, x12_takeW w3', Option.bind_some, if_neg (fun u => by
            rcases w1 with w1 | w1
            · rw [w1] at u; cases u.1
            · have := sgn_3 u.2 (by decide)
              omega)]
          exact ⟨v, _, rfl, r_bad (fr.tr (R1 _)) (Or.inl rfl) (((sI_nk (by omega)).trans (ab_k (by omega))).trans w2) (sI_eq _ _ _ _)⟩
      · have z3' : ¬ (bE (bA σ9)).1 37 56 = 0 := by
          rw [show (bE (bA σ9)).1 37 56 = σ9.1 37 56 from (ab_k (by omega)).trans (ab_k (by omega)), z3]
          decide
        rw [if_neg (by rw [z3]; decide), x12_isSign_w z3', Option.bind_some, x12_takeW z3', Option.bind_some, p5 0 (br + 1) nt _ z1, if_neg (fun u => by cases u.1)]
        exact ⟨0, _, rfl, r_bad (((k2.tr ab_fr).tr ab_fr).tr (R1 _)) (Or.inl rfl) (((sI_nk (by omega)).trans ((ab_k (by omega)).trans (ab_k (by omega)))).trans z2) (sI_eq _ _ _ _)⟩
    · have w' : ¬ (bE (bA (sI σ 37 56 1))).1 37 56 = 0 := by
        rw [show (bE (bA (sI σ 37 56 1))).1 37 56 = (sI σ 37 56 1).1 37 56 from (ab_k (by omega)).trans (ab_k (by omega)), sI_eq]
        decide
      rw [if_pos (show (8 : Int32) ≤ nI br from nI_le (a := 8) (by omega) (by omega)), if_neg (show ¬ (sgn t s = 40 ∧ br < 8) from fun u => y u.2), x12_take0 d2, Option.bind_some, if_pos (show (0 : Int32) = 0 from rfl), r_b77, if_neg (show ¬ (sI σ 37 56 1).1 37 56 = 0 by rw [sI_eq]; decide), x12_isSign_w w', Option.bind_some, x12_takeW w', Option.bind_some]
      exact ⟨0, _, rfl, r_bad ((((R1 σ).tr ab_fr).tr ab_fr).tr (R1 _)) (Or.inl rfl) (((sI_nk (by omega)).trans ((ab_k (by omega)).trans (ab_k (by omega)))).trans ((sI_nk (by omega)).trans d1)) (sI_eq _ _ _ _)⟩
  rw [b3_f q4, if_pos rfl, d1'', d1', d1, pk_sub hb.1]
  have i2 : (nI s.2.2 = 2) = (s.2.2 = 2) := propext (nI_eq (b := 2) (by omega) (by omega))
  have i1 : (nI s.2.2 = 1) = (s.2.2 = 1) := propext (nI_eq (b := 1) (by omega) (by omega))
  have i3 : (nI (s.2.1 - s.1) = 1) = (s.2.1 - s.1 = 1) := propext (nI_eq (b := 1) (by have := hb.2.1; omega) (by omega))
  simp only [i1, i2, i3]
  obtain ⟨c60, f60⟩ := c.c60
  have no34 : ∀ {β : Type} (x y z : β), (if sgn t s = 33 ∧ nt < 8 then x else if sgn t s = 40 ∧ br < 8 then y else z) = z := fun x y z => by
    rw [if_neg (fun u => q3 u.1), if_neg (fun u => q4 u.1)]
  have bad : ∀ x : Int32, ¬ (0 ≤ x ∧ x ≤ (if Nat.beq p 1 = true then (12 : Int32) else 9)) → ∃ v σ2, f_X12_one_243 g1 g2 L σ 37 x = some (v, σ2) ∧ RRR n L t f p br nt q σ (false, [], s) v σ2 := fun x hx => by
    rw [r_name g1 g2 c hp x, b3_f hx, x12_take0 c60.2.1.2.1, Option.bind_some, if_neg (by rw [sI_eq]; decide)]
    exact ⟨0, _, rfl, r_bad (f60.tr (R1 _)) (Or.inl rfl) ((sI_nk (by omega)).trans c60.2.1.1.1) (sI_eq _ _ _ _)⟩
  by_cases s2 : s.2.2 = 2
  · rw [if_pos s2]
    obtain ⟨a, x, x1, x2⟩ := x12_number c1 ⟨d1, d1', d1''⟩ hb
    rw [c2] at x2
    rw [x1]
    by_cases l : s.2.1 - s.1 ≤ 4
    · rw [if_pos l] at x2
      rw [x2.1, if_pos ⟨s2, l⟩]
      obtain ⟨m, m1, m2⟩ := tok_num d4 s2 l
      obtain ⟨σ9, k1, k2, k3⟩ := r_take c60 (by omega)
      rw [k1, Option.bind_some, Option.bind_some]
      refine ⟨a, σ9, rfl, f60.tr k2, ?_⟩
      rcases k3 with k3 | ⟨z1, z2, z3⟩
      · refine Or.inl ⟨rfl, ?_, ?_⟩
        · show RRS n L t f p br nt (q + opn [num t s.1 (s.2.1 - s.1)]) (nx t n s.2.1) σ9
          rw [m2, opn_1 (nI_pos' (by omega))]
          exact k3
        · show a = evc (KN f) [num t s.1 (s.2.1 - s.1)]
          rw [x2.2, m2, (wf_num m1).2]
      · exact Or.inr ⟨Or.inr z1, z2, z3⟩
    · rw [if_neg l] at x2
      rw [x2, x12_take0 c60.2.1.2.1, Option.bind_some, Option.bind_some, if_neg (fun u => l u.2), if_neg (fun u => by omega), no34]
      exact ⟨a, _, rfl, r_bad (f60.tr (R1 _)) (Or.inl rfl) ((sI_nk (by omega)).trans c60.2.1.1.1) (sI_eq _ _ _ _)⟩
  · rw [if_neg s2, if_neg (show ¬ (s.2.2 = 2 ∧ s.2.1 - s.1 ≤ 4) from fun u => s2 u.1)]
    by_cases s1 : s.2.2 = 1 ∧ s.2.1 - s.1 = 1
    · have gt := tok_gt d4 (by omega) (by omega)
      obtain ⟨d, o1, o2, o3⟩ := srt_l (t := t) (n := n) (i := s.1) (by rw [tok_all d4 (by rw [s1.1]; rfl) (by omega) (Nat.le_refl _) (by omega), s1.1])
      obtain ⟨k, rfl⟩ : ∃ k, d = 97 + k := ⟨d - 97, by omega⟩
      obtain ⟨nm1, nm2⟩ := nm_num k (by omega) (Nat.beq p 1)
      rw [if_pos s1.1, if_pos s1.2, x12_at c1 (by have := hb.2.1; omega), Option.bind_some, if_pos (by have := hb.2.1; omega), c2, o3, x12_nameOf L σ (by omega), Option.bind_some]
      by_cases w : nmo (Nat.beq p 1) (nI (97 + k)) = true
      · rw [r_name g1 g2 c hp, b3_t (nm1.mp w), if_pos ⟨s1, w⟩]
        obtain ⟨σ9, k1, k2, k3⟩ := r_take c60 (by omega)
        rw [k1, Option.bind_some]
        have nt' : nmo true (nI (97 + k)) = true := by
          revert w
          cases Nat.beq p 1
          · intro w
            unfold nmo at w ⊢
            simp only [Bool.false_and, Bool.or_false] at w
            rw [w]; rfl
          · exact id
        rcases k3 with k3 | ⟨z1, z2, z3⟩
        · obtain ⟨⟨y1, y2, y3, y4⟩, ⟨y5, y6, y7⟩, y8⟩ := id k3
          obtain ⟨hS, ⟨lw, hR⟩, -⟩ := y1
          obtain ⟨v1, v2⟩ := nm2 w
          rw [if_pos y6, hR.r37_46, Option.bind_some, v1, rI_nI hS.l73 v2 (by omega), Option.bind_some]
          refine ⟨_, σ9, rfl, f60.tr k2, Or.inl ⟨rfl, ?_, ?_⟩⟩
          · show RRS n L t f p br nt (q + opn [10000 + nI (97 + k)]) (nx t n s.2.1) σ9
            rw [opn_1 (by rcases nmo_c w with z | z | z | z | z | z | z | z | z | z | z | z | z <;> rw [z] <;> decide)]
            exact k3
          · show σ9.1 73 (nix (nI (97 + k))) = evc (KN f) [10000 + nI (97 + k)]
            rw [(wf_nam nt').2, y3]
            rfl
        · rw [if_neg (by rw [z3]; decide)]
          exact ⟨0, σ9, rfl, f60.tr k2, Or.inr ⟨Or.inr z1, z2, z3⟩⟩
      · rw [if_neg (fun u => w u.2), no34]
        exact bad _ (fun u => w (nm1.mpr u))
    · rw [if_neg (show ¬ ((s.2.2 = 1 ∧ s.2.1 - s.1 = 1) ∧ nmo (Nat.beq p 1) (t s.1) = true) from fun u => s1 u.1), no34]
      have m1 := bad (-1) (fun u => absurd u.1 (by decide))
      unfold f_X12_one_242
      by_cases z : s.2.2 = 1
      · rw [if_pos z, if_neg (fun u => s1 ⟨z, u⟩)]
        exact m1
      · rw [if_neg z]
        exact m1
/-- the reference's readers by level -/
def RLv (k : Nat) : Nat → Lay → Sto → Nat → Option (Int32 × Sto)
  | 0 => (fg_pa k).1
  | 1 => (fg_pa k).2.2.2.2.2
  | 2 => (fg_pa k).2.2.2.2.1
  | 3 => (fg_pa k).2.2.2.1
  | 4 => (fg_pa k).2.2.1
  | _ => (fg_pa k).2.1
theorem r_read (hp : p < 10) : ∀ k j lv br nt, lv ≤ 5 → br ≤ 8 → nt ≤ 8 → 62 ≤ k + lv + 6 * br + nt → 71 ≤ j + lv + 7 * br + nt → GR n L t f p br nt (RLv k lv) ((pcg t n (Nat.beq p 1) j).2 lv br nt)
  | 0, _, _, _, _, a, b, c, d, _ => by omega
  | _ + 1, 0, _, _, _, a, b, c, _, d => by omega
  | k + 1, j + 1, lv, br, nt, hl, hb, hn, hk, hj => by
    obtain ⟨i1, i2⟩ := pcg_pp (t := t) (n := n) (pt := Nat.beq p 1) (j + 1)
    have P4 : ∀ s : TS, s.2.2 = 4 → (pcg t n (Nat.beq p 1) (j + 1)).2 lv br nt s = (false, [], s) := fun s h => (pcg_4 h (j + 1)).2 lv br nt
    have PPs : ∀ s, TK t n s → PP t n s ((pcg t n (Nat.beq p 1) (j + 1)).2 lv br nt s) := fun s h => i2 lv br nt s h
    have cs : lv = 0 ∨ lv = 1 ∨ lv = 2 ∨ lv = 3 ∨ lv = 4 ∨ lv = 5 := by omega
    rcases cs with z | z | z | z | z | z <;> subst z
    · have h := r_or (r_read hp k j 1 br nt (by omega) hb hn (by omega) (by omega))
      exact ⟨h.1, h.2, P4, PPs⟩
    · have h := r_and (r_read hp k j 2 br nt (by omega) hb hn (by omega) (by omega))
      exact ⟨h.1, h.2, P4, PPs⟩
    · have h := r_test (r_read hp k j 3 br nt (by omega) hb hn (by omega) (by omega))
      exact ⟨h.1, h.2, P4, PPs⟩
    · have h := r_sum (r_read hp k j 4 br nt (by omega) hb hn (by omega) (by omega))
      exact ⟨h.1, h.2, P4, PPs⟩
    · have h := r_term (r_read hp k j 5 br nt (by omega) hb hn (by omega) (by omega))
      exact ⟨h.1, h.2, P4, PPs⟩
    · obtain ⟨j, rfl⟩ := Nat.exists_eq_add_one_of_ne_zero (show j ≠ 0 by omega)
      refine ⟨fun σ s q c => ?_, fun σ w => if_neg w, P4, PPs⟩
      have A : nt < 8 → ∀ σ s q, RRS n L t f p br (nt + 1) q s σ → ∃ v σ2, (fg_pa k).2.1 L σ 37 = some (v, σ2) ∧ RRR n L t f p br (nt + 1) q σ ((pcg t n (Nat.beq p 1) j).1 br (nt + 1) s) v σ2 := fun u => (r_read hp k (j + 1) 5 br (nt + 1) (by omega) hb (by omega) (by omega) (by omega)).1
      have B : br < 8 → ∀ σ s q, RRS n L t f p (br + 1) nt q s σ → ∃ v σ2, (fg_pa k).1 L σ 37 = some (v, σ2) ∧ RRR n L t f p (br + 1) nt q σ ((pcg t n (Nat.beq p 1) j).2 0 (br + 1) nt s) v σ2 := fun u => (r_read hp k j 0 (br + 1) nt (by omega) (by omega) hn (by omega) (by omega)).1
      exact r_one hp hb hn A B (pcg_pp j).1 (fun br nt s h => (pcg_4 h j).1 br nt) (fun lv br nt s h => (pcg_4 h j).2 lv br nt) c
end
