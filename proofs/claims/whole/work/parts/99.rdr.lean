/-! the reference reads: levels -/
theorem lvl_0 {c : Int32} : lvl c = 0 ↔ c = 124 := by
  constructor
  · intro h
    rcases lvl_c (show ¬ lvl c = 9 by omega) with z | z | z | z | z | z | z | z | z <;> subst z <;> first | rfl | exact absurd h (by decide)
  · intro h; subst h; decide
theorem lvl_1 {c : Int32} : lvl c = 1 ↔ c = 38 := by
  constructor
  · intro h
    rcases lvl_c (show ¬ lvl c = 9 by omega) with z | z | z | z | z | z | z | z | z <;> subst z <;> first | rfl | exact absurd h (by decide)
  · intro h; subst h; decide
theorem lvl_2 {c : Int32} : lvl c = 2 ↔ (c = 60 ∨ c = 61 ∨ c = 62) := by
  constructor
  · intro h
    rcases lvl_c (show ¬ lvl c = 9 by omega) with z | z | z | z | z | z | z | z | z <;> subst z <;> first | decide | exact absurd h (by decide)
  · rintro (h | h | h) <;> subst h <;> decide
theorem lvl_3' {c : Int32} : lvl c = 3 ↔ (c = 43 ∨ c = 45) := by
  constructor
  · intro h
    rcases lvl_c (show ¬ lvl c = 9 by omega) with z | z | z | z | z | z | z | z | z <;> subst z <;> first | decide | exact absurd h (by decide)
  · rintro (h | h) <;> subst h <;> decide
theorem lvl_4 {c : Int32} : lvl c = 4 ↔ (c = 42 ∨ c = 47) := by
  constructor
  · intro h
    rcases lvl_c (show ¬ lvl c = 9 by omega) with z | z | z | z | z | z | z | z | z <;> subst z <;> first | decide | exact absurd h (by decide)
  · rintro (h | h) <;> subst h <;> decide
theorem ap_124 (a b : Int32) : ap2 124 a b = b3 (¬ a = 0 ∨ ¬ b = 0) := by
  unfold ap2
  rw [if_neg (by decide), if_neg (by decide), if_neg (by decide), if_neg (by decide), if_neg (by decide), if_neg (by decide), if_neg (by decide), if_pos rfl]
theorem ap_38 (a b : Int32) : ap2 38 a b = b3 (¬ a = 0 ∧ ¬ b = 0) := by
  unfold ap2
  rw [if_pos rfl]
theorem ap_42 (a b : Int32) : ap2 42 a b = a * b := by
  unfold ap2
  rw [if_neg (by decide), if_pos rfl]
theorem ap_43 (a b : Int32) : ap2 43 a b = a + b := by
  unfold ap2
  rw [if_neg (by decide), if_neg (by decide), if_pos rfl]
theorem ap_45 (a b : Int32) : ap2 45 a b = a - b := by
  unfold ap2
  rw [if_neg (by decide), if_neg (by decide), if_neg (by decide), if_pos rfl]
theorem ap_60 (a b : Int32) : ap2 60 a b = b3 (a < b) := by
  unfold ap2
  rw [if_neg (by decide), if_neg (by decide), if_neg (by decide), if_neg (by decide), if_pos rfl]
theorem ap_61 (a b : Int32) : ap2 61 a b = b3 (a = b) := by
  unfold ap2
  rw [if_neg (by decide), if_neg (by decide), if_neg (by decide), if_neg (by decide), if_neg (by decide), if_pos rfl]
theorem ap_62 (a b : Int32) : ap2 62 a b = b3 (b < a) := by
  unfold ap2
  rw [if_neg (by decide), if_neg (by decide), if_neg (by decide), if_neg (by decide), if_neg (by decide), if_neg (by decide), if_pos rfl]
theorem ap_47 (a b : Int32) : ap2 47 a b = if b = 0 then 0 else a / b := by
  unfold ap2
  rw [if_neg (by decide), if_neg (by decide), if_neg (by decide), if_neg (by decide), if_neg (by decide), if_neg (by decide), if_neg (by decide), if_neg (by decide)]
theorem div_m1 (a : Int32) : a / (-1) = -a := by
  apply Int32.toInt_inj.mp
  rw [Int32.toInt_div, show (-1 : Int32).toInt = -1 from by decide, Int32.toInt_neg, Int.tdiv_neg, Int.tdiv_one]
def rqs (a k : Nat) : Bool := Nat.beq a 37 && (Nat.ble 53 k && (Nat.ble k 56 || (Nat.ble 58 k && Nat.ble k 60)))
theorem rqs_t {k : Nat} (h : (53 ≤ k ∧ k ≤ 56) ∨ (58 ≤ k ∧ k ≤ 60)) : rqs 37 k = true := by
  simp [rqs]
  omega
theorem RS.q {σ σ' : Sto} (h : RS σ σ') : FR rqs σ σ' := FR.sub h (fun a k u => by simp [rps] at u; simp [rqs]; omega)
/-- the place of a name -/
def nix (c : Int32) : Nat := (nmq (c.toNatClampNeg - 97)).toNatClampNeg
def KN (f : Nat → Int32) (c : Int32) : Int32 := f (nix c)
/-- the reference reads at s -/
def RRS (n : Nat) (L : Lay) (t f : Nat → Int32) (p br nt q : Nat) (s : TS) (σ : Sto) : Prop := (RPE n L σ ∧ rx n σ = t ∧ σ.1 73 = f ∧ σ.1 37 57 = nI p) ∧ (RT s σ ∧ σ.1 37 56 = 0 ∧ s.2.2 ≤ 3 ∧ TK t n s) ∧ σ.1 37 58 = nI br ∧ σ.1 37 59 = nI nt ∧ σ.1 37 60 = nI q
def RRR (n : Nat) (L : Lay) (t f : Nat → Int32) (p br nt q : Nat) (σ : Sto) (r : PR) (v : Int32) (σ2 : Sto) : Prop := FR rqs σ σ2 ∧ ((r.1 = true ∧ RRS n L t f p br nt (q + opn r.2.1) r.2.2 σ2 ∧ v = evc (KN f) r.2.1) ∨ ((r.1 = false ∨ r.2.2.2.2 = 4) ∧ σ2.1 37 54 = nI r.2.2.1 ∧ σ2.1 37 56 = 1))
section
variable {n p br nt q : Nat} {L : Lay} {t f : Nat → Int32} {s : TS} {σ : Sto}
theorem RPE.rq (h : RPE n L σ) {σ' : Sto} (s : FR rqs σ σ') : RPE n L σ' ∧ rx n σ' = rx n σ := by
  have e1 : σ'.1 55 = σ.1 55 := funext fun k => s.at rfl
  have e2 : σ'.1 56 = σ.1 56 := funext fun k => s.at rfl
  have e : rx n σ' = rx n σ := by
    unfold rx
    rw [s.at (a := 37) (k := 52) rfl, e1, e2]
  obtain ⟨h1, ⟨lw, h2⟩, h3, h4, h5⟩ := h
  refine ⟨⟨h1, ⟨lw, by rw [s.2]; exact h2⟩, h3, by rw [e]; exact h4, ?_⟩, e⟩
  rw [s.at (a := 37) (k := 52) rfl, s.at (a := 37) (k := 25) rfl, s.at (a := 37) (k := 26) rfl]
  exact h5
theorem RRS.fr (c : RRS n L t f p br nt q s σ) {σ2 : Sto} {s2 : TS} {br2 nt2 q2 : Nat} (g : FR rqs σ σ2) (e1 : RT s2 σ2) (e2 : σ2.1 37 56 = 0) (e3 : s2.2.2 ≤ 3) (k : TK t n s2) (e4 : σ2.1 37 58 = nI br2) (e5 : σ2.1 37 59 = nI nt2) (e6 : σ2.1 37 60 = nI q2) : RRS n L t f p br2 nt2 q2 s2 σ2 := by
  obtain ⟨⟨c1, c2, c3, c4⟩, -⟩ := c
  obtain ⟨d1, d2⟩ := c1.rq g
  exact ⟨⟨d1, d2.trans c2, (funext fun k => g.at rfl : σ2.1 73 = σ.1 73).trans c3, (g.at rfl).trans c4⟩, ⟨e1, e2, e3, k⟩, e4, e5, e6⟩
/-- the token is taken -/
theorem r_take (c : RRS n L t f p br nt q s σ) (h0 : s.2.2 ≠ 0) : ∃ σ2, f_X12_takes L σ 37 1 = some σ2 ∧ FR rqs σ σ2 ∧ ((RRS n L t f p br nt q (nx t n s.2.1) σ2) ∨ ((nx t n s.2.1).2.2 = 4 ∧ σ2.1 37 54 = nI (nx t n s.2.1).1 ∧ σ2.1 37 56 = 1)) := by
  obtain ⟨⟨c1, c2, c3, c4⟩, ⟨d1, d2, d3, d4⟩, e1, e2, e3⟩ := id c
  obtain ⟨σ2, g1, g2, g3⟩ := x12_take1 c1 d1 d2 (by rw [c2]; exact d4) h0 d3
  rw [c2] at g3
  refine ⟨σ2, g1, g2.q, ?_⟩
  rcases g3 with ⟨a, b, d⟩ | g3
  · exact Or.inl (c.fr g2.q b d a (nx_k d4.1.2.1) ((g2.at rfl).trans e1) ((g2.at rfl).trans e2) ((g2.at rfl).trans e3))
  · exact Or.inr g3
theorem r_sign (c : RRS n L t f p br nt q s σ) {x : Int32} (hx : ¬ x = 0) : f_X12_isSign L σ 37 x = some (b3 (sgn t s = x)) := by
  obtain ⟨⟨c1, c2, c3, c4⟩, ⟨d1, d2, d3, d4⟩, e⟩ := id c
  rw [x12_isSign c1 d1 d4.1 d2 hx, c2]
theorem r_loop {F : Nat → Lay → Sto → Nat → Int32 → Option (Int32 × Sto)} {gr : Lay → Sto → Nat → Option (Int32 × Sto)} {g : TS → PR} {lv : Nat} (hlv : lv < 5)
    (hs : ∀ K σ s q v, RRS n L t f p br nt q s σ → lvl (sgn t s) = lv → F (K + 1) L σ 37 v = (f_X12_takes L σ 37 1).bind fun σ2 => (gr L σ2 37).bind fun r3 => F K L r3.2 37 (ap2 (sgn t s) v r3.1))
    (hn : ∀ K σ s q v, RRS n L t f p br nt q s σ → ¬ lvl (sgn t s) = lv → F (K + 1) L σ 37 v = some (v, σ))
    (hw : ∀ K σ v, ¬ σ.1 37 56 = 0 → F (K + 1) L σ 37 v = some (v, σ))
    (hg : ∀ σ s q, RRS n L t f p br nt q s σ → ∃ v σ2, gr L σ 37 = some (v, σ2) ∧ RRR n L t f p br nt q σ (g s) v σ2)
    (hgw : ∀ σ, ¬ σ.1 37 56 = 0 → gr L σ 37 = some (0, σ))
    (h4 : ∀ s, s.2.2 = 4 → g s = (false, [], s))
    (hp : ∀ s, TK t n s → PP t n s (g s)) : ∀ m K σ1 r v, n ≤ r.2.2.1 + m → m < K → RRR n L t f p br nt q σ r v σ1 → PP t n s r → ∃ v2 σ2, F K L σ1 37 v = some (v2, σ2) ∧ RRR n L t f p br nt q σ (lpl t n g lv m r) v2 σ2 := by
  intro m
  induction m with
  | zero =>
    intro K σ1 r v hm hK hr hpp
    obtain ⟨K, rfl⟩ := Nat.exists_eq_add_one_of_ne_zero (show K ≠ 0 by omega)
    refine ⟨v, σ1, ?_, hr⟩
    rcases hr.2 with ⟨a, b, e⟩ | ⟨a, b, e⟩
    · refine hn K σ1 _ _ v b (fun u => ?_)
      have := (lvl_3 u hlv).1
      have := b.2.1.2.2.2.1.2.2.2 this
      omega
    · exact hw K σ1 v (by rw [e]; decide)
  | succ m ih =>
    intro K σ1 r v hm hK hr hpp
    obtain ⟨K, rfl⟩ := Nat.exists_eq_add_one_of_ne_zero (show K ≠ 0 by omega)
    rcases hr.2 with ⟨a, b, e⟩ | ⟨a, b, e⟩
    · by_cases l : lvl (sgn t r.2.2) = lv
      · obtain ⟨l3, l9⟩ := lvl_3 l hlv
        rw [hs K σ1 _ _ v b l]
        obtain ⟨k1, k2⟩ := pp_go hpp.1 (by omega) (by omega)
        have pg := hp _ k1
        have P1 := lpl_pp hp hlv 1 s r hpp
        rw [show lpl t n g lv 1 r = ((g (nx t n r.2.2.2.1)).1, r.2.1 ++ (g (nx t n r.2.2.2.1)).2.1 ++ [-(sgn t r.2.2)], (g (nx t n r.2.2.2.1)).2.2) from if_pos ⟨a, l⟩] at P1
        rw [show lpl t n g lv (m + 1) r = lpl t n g lv m ((g (nx t n r.2.2.2.1)).1, r.2.1 ++ (g (nx t n r.2.2.2.1)).2.1 ++ [-(sgn t r.2.2)], (g (nx t n r.2.2.2.1)).2.2) from if_pos ⟨a, l⟩]
        obtain ⟨σ2, g1, g2, g3⟩ := r_take b (by omega)
        rw [g1, Option.bind_some]
        rcases g3 with g3 | ⟨z1, z2, z3⟩
        · obtain ⟨v3, σ3, j1, j2, j3⟩ := hg σ2 _ _ g3
          rw [j1, Option.bind_some]
          refine ih K σ3 _ _ ?_ (by omega) ⟨(hr.1.tr g2).tr j2, ?_⟩ P1
          · show n ≤ (g (nx t n r.2.2.2.1)).2.2.1 + m
            have := pg.2.1
            omega
          · rcases j3 with ⟨w1, w2, w3⟩ | w
            · refine Or.inl ⟨w1, ?_, ?_⟩
              · show RRS n L t f p br nt (q + opn (r.2.1 ++ (g (nx t n r.2.2.2.1)).2.1 ++ [-(sgn t r.2.2)])) (g (nx t n r.2.2.2.1)).2.2 σ3
                rw [opn_app, opn_app, opn_s (Or.inr l9), Nat.add_zero, ← Nat.add_assoc]
                exact w2
              · show ap2 (sgn t r.2.2) v v3 = evc (KN f) (r.2.1 ++ (g (nx t n r.2.2.2.1)).2.1 ++ [-(sgn t r.2.2)])
                rw [(wf_op (hpp.2.2.2 a) (pg.2.2.2 w1) l9).2, e, w3]
            · exact Or.inr w
        · rw [hgw σ2 (by rw [z3]; decide), Option.bind_some]
          obtain ⟨K, rfl⟩ := Nat.exists_eq_add_one_of_ne_zero (show K ≠ 0 by omega)
          have w := h4 _ z1
          refine ⟨_, σ2, hw K σ2 _ (by rw [z3]; decide), hr.1.tr g2, ?_⟩
          rw [w, lpl_no (fun u => by cases u.1)]
          exact Or.inr ⟨Or.inl rfl, z2, z3⟩
      · rw [lpl_no (fun u => l u.2)]
        exact ⟨v, σ1, hn K σ1 _ _ v b l, hr⟩
    · rw [lpl_no (fun u => by
        rcases a with a | a
        · rw [a] at u; cases u.1
        · have := (lvl_3 u.2 hlv).1
          omega)]
      exact ⟨v, σ1, hw K σ1 v (by rw [e]; decide), hr⟩
end
