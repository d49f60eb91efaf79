/-! the reference reads: or, and, sum, term, test -/
section
variable {n p br nt q : Nat} {L : Lay} {t f : Nat → Int32} {s : TS} {σ : Sto}
/-- what a reader of a level gives -/
def GR (n : Nat) (L : Lay) (t f : Nat → Int32) (p br nt : Nat) (gr : Lay → Sto → Nat → Option (Int32 × Sto)) (g : TS → PR) : Prop := (∀ σ s q, RRS n L t f p br nt q s σ → ∃ v σ2, gr L σ 37 = some (v, σ2) ∧ RRR n L t f p br nt q σ (g s) v σ2) ∧ (∀ σ, ¬ σ.1 37 56 = 0 → gr L σ 37 = some (0, σ)) ∧ (∀ s, s.2.2 = 4 → g s = (false, [], s)) ∧ (∀ s, TK t n s → PP t n s (g s))
theorem r_lift {gr : Lay → Sto → Nat → Option (Int32 × Sto)} {g : TS → PR} (hG : GR n L t f p br nt gr g) {F : Nat → Lay → Sto → Nat → Int32 → Option (Int32 × Sto)} {lv : Nat} (hlv : lv < 5)
    (hs : ∀ K σ s q v, RRS n L t f p br nt q s σ → lvl (sgn t s) = lv → F (K + 1) L σ 37 v = (f_X12_takes L σ 37 1).bind fun σ2 => (gr L σ2 37).bind fun r3 => F K L r3.2 37 (ap2 (sgn t s) v r3.1))
    (hn : ∀ K σ s q v, RRS n L t f p br nt q s σ → ¬ lvl (sgn t s) = lv → F (K + 1) L σ 37 v = some (v, σ))
    (hw : ∀ K σ v, ¬ σ.1 37 56 = 0 → F (K + 1) L σ 37 v = some (v, σ)) :
    (∀ σ s q, RRS n L t f p br nt q s σ → ∃ v σ2, ((gr L σ 37).bind fun r4 => F FU L r4.2 37 r4.1) = some (v, σ2) ∧ RRR n L t f p br nt q σ (lpl t n g lv 108 (g s)) v σ2) ∧ (∀ σ, ¬ σ.1 37 56 = 0 → ((gr L σ 37).bind fun r4 => F FU L r4.2 37 r4.1) = some (0, σ)) := by
  obtain ⟨hg, hgw, h4, hp⟩ := hG
  refine ⟨fun σ s q c => ?_, fun σ w => ?_⟩
  · obtain ⟨v, σ1, g1, g2⟩ := hg σ s q c
    have hn' := c.1.1.2.2.1
    rw [g1, Option.bind_some]
    exact r_loop (s := s) hlv hs hn hw hg hgw h4 hp 108 FU σ1 _ v (by omega) (FU_lt (by omega)) g2 (hp s c.2.1.2.2.2)
  · rw [hgw σ w, Option.bind_some]
    exact hw 4999 σ 0 w
theorem r_or {gr : Lay → Sto → Nat → Option (Int32 × Sto)} {g : TS → PR} (hG : GR n L t f p br nt gr g) : (∀ σ s q, RRS n L t f p br nt q s σ → ∃ v σ2, fb_X12_or gr L σ 37 = some (v, σ2) ∧ RRR n L t f p br nt q σ (lpl t n g 0 108 (g s)) v σ2) ∧ (∀ σ, ¬ σ.1 37 56 = 0 → fb_X12_or gr L σ 37 = some (0, σ)) := by
  refine r_lift hG (F := f_X12_or_5 gr) (by omega) ?_ ?_ ?_
  · intro K σ s q v c l
    have l := lvl_0.mp l
    rw [f_X12_or_5]
    dsimp only
    rw [r_sign c (by decide), b3_t l, Option.bind_some, if_neg (by decide), l]
    congr 1; funext σ2; congr 1; funext r3
    unfold f_X12_or_32 f_X12_or_37
    rw [ap_124]
    by_cases z : v = 0
    · rw [if_pos z]
      by_cases y : r3.1 = 0
      · rw [if_pos y, b3_f (fun u => u.elim (fun u => u z) (fun u => u y))]
      · rw [if_neg y, b3_t (Or.inr y)]
    · rw [if_neg z, b3_t (Or.inl z)]
  · intro K σ s q v c l
    rw [f_X12_or_5]
    dsimp only
    rw [r_sign c (by decide), b3_f (fun u => l (lvl_0.mpr u)), Option.bind_some, if_pos rfl]
  · intro K σ v w
    rw [f_X12_or_5]
    dsimp only
    rw [x12_isSign_w w, Option.bind_some, if_pos rfl]
theorem r_and {gr : Lay → Sto → Nat → Option (Int32 × Sto)} {g : TS → PR} (hG : GR n L t f p br nt gr g) : (∀ σ s q, RRS n L t f p br nt q s σ → ∃ v σ2, fb_X12_and gr L σ 37 = some (v, σ2) ∧ RRR n L t f p br nt q σ (lpl t n g 1 108 (g s)) v σ2) ∧ (∀ σ, ¬ σ.1 37 56 = 0 → fb_X12_and gr L σ 37 = some (0, σ)) := by
  refine r_lift hG (F := f_X12_and_5 gr) (by omega) ?_ ?_ ?_
  · intro K σ s q v c l
    have l := lvl_1.mp l
    rw [f_X12_and_5]
    dsimp only
    rw [r_sign c (by decide), b3_t l, Option.bind_some, if_neg (by decide), l]
    congr 1; funext σ2; congr 1; funext r3
    unfold f_X12_and_36 f_X12_and_37
    rw [ap_38]
    by_cases z : v = 0
    · rw [if_pos z, b3_f (fun u => u.1 z)]
    · rw [if_neg z]
      by_cases y : r3.1 = 0
      · rw [if_pos y, b3_f (fun u => u.2 y)]
      · rw [if_neg y, b3_t ⟨z, y⟩]
  · intro K σ s q v c l
    rw [f_X12_and_5]
    dsimp only
    rw [r_sign c (by decide), b3_f (fun u => l (lvl_1.mpr u)), Option.bind_some, if_pos rfl]
  · intro K σ v w
    rw [f_X12_and_5]
    dsimp only
    rw [x12_isSign_w w, Option.bind_some, if_pos rfl]
theorem r_sum {gr : Lay → Sto → Nat → Option (Int32 × Sto)} {g : TS → PR} (hG : GR n L t f p br nt gr g) : (∀ σ s q, RRS n L t f p br nt q s σ → ∃ v σ2, fb_X12_sum gr L σ 37 = some (v, σ2) ∧ RRR n L t f p br nt q σ (lpl t n g 3 108 (g s)) v σ2) ∧ (∀ σ, ¬ σ.1 37 56 = 0 → fb_X12_sum gr L σ 37 = some (0, σ)) := by
  refine r_lift hG (F := f_X12_sum_5 gr) (by omega) ?_ ?_ ?_
  · intro K σ s q v c l
    have l := lvl_3'.mp l
    rw [f_X12_sum_5]
    dsimp only
    unfold f_X12_sum_23 f_X12_sum_53
    rw [r_sign c (x := 43) (by decide), r_sign c (x := 45) (by decide), Option.bind_some]
    rcases l with l | l
    · rw [b3_t l, if_neg (by decide), Option.bind_some, l]
      congr 1
    · rw [b3_f (show ¬ sgn t s = 43 by rw [l]; decide), b3_t l, if_pos rfl, Option.bind_some, if_neg (by decide), Option.bind_some, l]
      congr 1
  · intro K σ s q v c l
    rw [f_X12_sum_5]
    dsimp only
    rw [r_sign c (x := 43) (by decide), r_sign c (x := 45) (by decide), b3_f (fun u => l (lvl_3'.mpr (Or.inl u))), b3_f (fun u => l (lvl_3'.mpr (Or.inr u))), Option.bind_some, if_pos rfl, Option.bind_some, if_pos rfl]
  · intro K σ v w
    rw [f_X12_sum_5]
    dsimp only
    rw [x12_isSign_w w, x12_isSign_w w, Option.bind_some, if_pos rfl, Option.bind_some, if_pos rfl]
theorem r_term {gr : Lay → Sto → Nat → Option (Int32 × Sto)} {g : TS → PR} (hG : GR n L t f p br nt gr g) : (∀ σ s q, RRS n L t f p br nt q s σ → ∃ v σ2, fb_X12_term gr L σ 37 = some (v, σ2) ∧ RRR n L t f p br nt q σ (lpl t n g 4 108 (g s)) v σ2) ∧ (∀ σ, ¬ σ.1 37 56 = 0 → fb_X12_term gr L σ 37 = some (0, σ)) := by
  refine r_lift hG (F := f_X12_term_5 gr) (by omega) ?_ ?_ ?_
  · intro K σ s q v c l
    have l := lvl_4.mp l
    rw [f_X12_term_5]
    dsimp only
    unfold f_X12_term_23 f_X12_term_71
    rw [r_sign c (x := 42) (by decide), r_sign c (x := 47) (by decide), Option.bind_some]
    rcases l with l | l
    · rw [b3_t l, if_neg (by decide), Option.bind_some, l]
      congr 1
    · rw [b3_f (show ¬ sgn t s = 42 by rw [l]; decide), b3_t l, if_pos rfl, Option.bind_some, if_neg (by decide), Option.bind_some, l]
      congr 1; funext σ2; congr 1; funext r3
      rw [ap_47, if_pos rfl]
      by_cases z : r3.1 = 0
      · rw [if_pos z, if_pos z]
      · rw [if_neg z, if_neg z]
        by_cases y : r3.1 = -1
        · rw [if_pos y, y, div_m1]
        · rw [if_neg y]
          unfold dv
          rw [if_neg z, Option.bind_some]
  · intro K σ s q v c l
    rw [f_X12_term_5]
    dsimp only
    rw [r_sign c (x := 42) (by decide), r_sign c (x := 47) (by decide), b3_f (fun u => l (lvl_4.mpr (Or.inl u))), b3_f (fun u => l (lvl_4.mpr (Or.inr u))), Option.bind_some, if_pos rfl, Option.bind_some, if_pos rfl]
  · intro K σ v w
    rw [f_X12_term_5]
    dsimp only
    rw [x12_isSign_w w, x12_isSign_w w, Option.bind_some, if_pos rfl, Option.bind_some, if_pos rfl]
theorem r_test {gr : Lay → Sto → Nat → Option (Int32 × Sto)} {g : TS → PR} (hG : GR n L t f p br nt gr g) : (∀ σ s q, RRS n L t f p br nt q s σ → ∃ v σ2, fb_X12_test gr L σ 37 = some (v, σ2) ∧ RRR n L t f p br nt q σ (lpl t n g 2 1 (g s)) v σ2) ∧ (∀ σ, ¬ σ.1 37 56 = 0 → fb_X12_test gr L σ 37 = some (0, σ)) := by
  obtain ⟨hg, hgw, h4, hp⟩ := hG
  have W : ∀ σ1 (v : Int32), ¬ σ1.1 37 56 = 0 → ((f_X12_isSign L σ1 37 60).bind fun r6 => (if r6 = 0 then (f_X12_isSign L σ1 37 61).bind fun r7 => (if r7 = 0 then (f_X12_isSign L σ1 37 62).bind fun r8 => (if r8 = 0 then some (v, σ1) else f_X12_test_34 gr L σ1 37 v) else f_X12_test_34 gr L σ1 37 v) else f_X12_test_34 gr L σ1 37 v)) = some (v, σ1) := fun σ1 v w => by
    rw [x12_isSign_w w, x12_isSign_w w, x12_isSign_w w, Option.bind_some, if_pos rfl, Option.bind_some, if_pos rfl, Option.bind_some, if_pos rfl]
  refine ⟨fun σ s q c => ?_, fun σ w => ?_⟩
  · obtain ⟨v, σ1, g1, g2⟩ := hg σ s q c
    have hpp := hp s c.2.1.2.2.2
    unfold fb_X12_test
    rw [g1, Option.bind_some]
    dsimp only
    rcases g2.2 with ⟨a, b, e⟩ | ⟨a, b, e⟩
    · by_cases l : lvl (sgn t (g s).2.2) = 2
      · obtain ⟨l3, l9⟩ := lvl_3 l (by omega)
        obtain ⟨k1, k2⟩ := pp_go hpp.1 (by omega) (by omega)
        have pg := hp _ k1
        rw [show lpl t n g 2 1 (g s) = ((g (nx t n (g s).2.2.2.1)).1, (g s).2.1 ++ (g (nx t n (g s).2.2.2.1)).2.1 ++ [-(sgn t (g s).2.2)], (g (nx t n (g s).2.2.2.1)).2.2) from if_pos ⟨a, l⟩]
        have S34 : ∃ v2 σ2, f_X12_test_34 gr L σ1 37 v = some (v2, σ2) ∧ RRR n L t f p br nt q σ ((g (nx t n (g s).2.2.2.1)).1, (g s).2.1 ++ (g (nx t n (g s).2.2.2.1)).2.1 ++ [-(sgn t (g s).2.2)], (g (nx t n (g s).2.2.2.1)).2.2) v2 σ2 := by
          obtain ⟨σ2, m1, m2, m3⟩ := r_take b (by omega)
          have E : f_X12_test_34 gr L σ1 37 v = (f_X12_takes L σ1 37 1).bind fun σ3 => (gr L σ3 37).bind fun r4 => some (ap2 (sgn t (g s).2.2) v r4.1, r4.2) := by
            unfold f_X12_test_34
            rw [r_sign b (x := 60) (by decide), r_sign b (x := 61) (by decide), Option.bind_some, Option.bind_some]
            congr 1; funext σ3; congr 1; funext r4
            rcases lvl_2.mp l with z | z | z
            · rw [b3_t z, if_neg (by decide), z, ap_60]
              by_cases y : r4.1 ≤ v
              · rw [if_pos y, b3_f (Int32.not_lt.mpr y)]
              · rw [if_neg y, b3_t (Int32.not_le.mp y)]
            · rw [b3_f (show ¬ sgn t (g s).2.2 = 60 by rw [z]; decide), if_pos rfl, b3_t z, if_neg (by decide), z, ap_61]
              by_cases y : v = r4.1
              · rw [if_pos y, b3_t y]
              · rw [if_neg y, b3_f y]
            · rw [b3_f (show ¬ sgn t (g s).2.2 = 60 by rw [z]; decide), if_pos rfl, b3_f (show ¬ sgn t (g s).2.2 = 61 by rw [z]; decide), if_pos rfl, z, ap_62]
              by_cases y : v ≤ r4.1
              · rw [if_pos y, b3_f (Int32.not_lt.mpr y)]
              · rw [if_neg y, b3_t (Int32.not_le.mp y)]
          rw [E, m1, Option.bind_some]
          rcases m3 with m3 | ⟨z1, z2, z3⟩
          · obtain ⟨v3, σ3, j1, j2, j3⟩ := hg σ2 _ _ m3
            rw [j1, Option.bind_some]
            refine ⟨_, σ3, rfl, (g2.1.tr m2).tr j2, ?_⟩
            rcases j3 with ⟨w1, w2, w3⟩ | w
            · refine Or.inl ⟨w1, ?_, ?_⟩
              · show RRS n L t f p br nt (q + opn ((g s).2.1 ++ (g (nx t n (g s).2.2.2.1)).2.1 ++ [-(sgn t (g s).2.2)])) (g (nx t n (g s).2.2.2.1)).2.2 σ3
                rw [opn_app, opn_app, opn_s (Or.inr l9), Nat.add_zero, ← Nat.add_assoc]
                exact w2
              · show ap2 (sgn t (g s).2.2) v v3 = evc (KN f) ((g s).2.1 ++ (g (nx t n (g s).2.2.2.1)).2.1 ++ [-(sgn t (g s).2.2)])
                rw [(wf_op (hpp.2.2.2 a) (pg.2.2.2 w1) l9).2, e, w3]
            · exact Or.inr w
          · rw [hgw σ2 (by rw [z3]; decide), Option.bind_some]
            have w := h4 _ z1
            refine ⟨_, σ2, rfl, g2.1.tr m2, ?_⟩
            rw [w]
            exact Or.inr ⟨Or.inl rfl, z2, z3⟩
        rw [r_sign b (x := 60) (by decide), r_sign b (x := 61) (by decide), r_sign b (x := 62) (by decide), Option.bind_some]
        rcases lvl_2.mp l with z | z | z
        · rw [b3_t z, if_neg (by decide)]
          exact S34
        · rw [b3_f (show ¬ sgn t (g s).2.2 = 60 by rw [z]; decide), if_pos rfl, Option.bind_some, b3_t z, if_neg (by decide)]
          exact S34
        · rw [b3_f (show ¬ sgn t (g s).2.2 = 60 by rw [z]; decide), if_pos rfl, Option.bind_some, b3_f (show ¬ sgn t (g s).2.2 = 61 by rw [z]; decide), if_pos rfl, Option.bind_some, b3_t z, if_neg (by decide)]
          exact S34
      · rw [lpl_no (fun u => l u.2)]
        have l' := fun u => l (lvl_2.mpr u)
        rw [r_sign b (x := 60) (by decide), r_sign b (x := 61) (by decide), r_sign b (x := 62) (by decide), Option.bind_some, b3_f (fun u => l' (Or.inl u)), if_pos rfl, Option.bind_some, b3_f (fun u => l' (Or.inr (Or.inl u))), if_pos rfl, Option.bind_some, b3_f (fun u => l' (Or.inr (Or.inr u))), if_pos rfl]
        exact ⟨v, σ1, rfl, g2⟩
    · rw [lpl_no (fun u => by
        rcases a with a | a
        · rw [a] at u; cases u.1
        · have := (lvl_3 u.2 (by omega)).1
          omega), W σ1 v (by rw [e]; decide)]
      exact ⟨v, σ1, rfl, g2⟩
  · unfold fb_X12_test
    rw [hgw σ w, Option.bind_some]
    exact W σ 0 w
end
