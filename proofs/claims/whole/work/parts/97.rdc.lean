/-! the class reads a law -/
def dps (dw a k : Nat) : Bool := (Nat.beq a 15 && Nat.ble 2 k) || ((Nat.beq a dw && (Nat.beq k 1 || Nat.beq k 3)) || Nat.beq a (dw + 1))
theorem dps_t {dw a k : Nat} (h : (a = 15 ∧ 2 ≤ k) ∨ (a = dw ∧ (k = 1 ∨ k = 3)) ∨ a = dw + 1) : dps dw a k = true := by
  simp [dps]
  omega
theorem dps_f {dw a k : Nat} (h : ¬ ((a = 15 ∧ 2 ≤ k) ∨ (a = dw ∧ (k = 1 ∨ k = 3)) ∨ a = dw + 1)) : dps dw a k = false := pf_of (fun u => h (by
  simp [dps] at u
  omega))
def wrs (f : Nat → Int32) (m : Nat) (c : List Int32) : Nat → Int32 := fun j => if m ≤ j ∧ j < m + c.length then c.getD (j - m) 0 else f j
theorem wrs_nil (f : Nat → Int32) (m : Nat) : wrs f m [] = f := funext (fun j => if_neg (fun u => by have : j < m + 0 := u.2; omega))
theorem wrs_app (f : Nat → Int32) (m : Nat) (a b : List Int32) : wrs (wrs f m a) (m + a.length) b = wrs f m (a ++ b) := funext (fun j => by
  unfold wrs
  rw [List.length_append]
  by_cases h : m + a.length ≤ j ∧ j < m + a.length + b.length
  · rw [if_pos h, if_pos (by omega), List.getD_eq_getElem?_getD, List.getD_eq_getElem?_getD, List.getElem?_append_right (by omega)]
    rw [Nat.sub_add_eq]
  · rw [if_neg h]
    by_cases g : m ≤ j ∧ j < m + a.length
    · rw [if_pos g, if_pos (by omega), List.getD_eq_getElem?_getD, List.getD_eq_getElem?_getD, List.getElem?_append_left (by omega)]
    · rw [if_neg g, if_neg (by omega)])
def opn (c : List Int32) : Nat := c.countP (fun x => decide (0 ≤ x))
theorem opn_app (a b : List Int32) : opn (a ++ b) = opn a + opn b := List.countP_append
theorem opn_1 {x : Int32} (h : 0 ≤ x) : opn [x] = 1 := by
  unfold opn
  rw [List.countP_cons_of_pos (by exact decide_eq_true h)]
  rfl
theorem opn_0 {x : Int32} (h : ¬ 0 ≤ x) : opn [x] = 0 := by
  unfold opn
  rw [List.countP_cons_of_neg (by simpa using h)]
  rfl
theorem opn_s {c : Int32} (h : c = 33 ∨ ¬ lvl c = 9) : opn [-c] = 0 := opn_0 (by
  rcases h with z | z
  · subst z; decide
  · rcases lvl_c z with z | z | z | z | z | z | z | z | z <;> subst z <;> decide)
/-- the class reads at s; m steps, q operands are there -/
def CRS (dw n : Nat) (L : Lay) (t : Nat → Int32) (p m q : Nat) (s : TS) (σ : Sto) : Prop := (TPE n L σ ∧ tx n σ = t ∧ (dw = 17 ∨ dw = 21) ∧ σ.2.1 dw 4 = some 15 ∧ σ.1 dw 5 = nI p) ∧ TP s σ ∧ σ.1 dw 1 = nI m ∧ σ.1 dw 3 = nI q ∧ TK t n s
def CRR (dw n : Nat) (L : Lay) (t : Nat → Int32) (p m q : Nat) (σ : Sto) (r : PR) (σ2 : Sto) : Prop := FR (dps dw) σ σ2 ∧ CRS dw n L t p (m + r.2.1.length) (q + opn r.2.1) r.2.2 σ2 ∧ σ2.1 (dw + 1) = wrs (σ.1 (dw + 1)) m r.2.1
section
variable {dw n p m q : Nat} {L : Lay} {t : Nat → Int32} {s : TS} {σ : Sto}
theorem CRS.fr (c : CRS dw n L t p m q s σ) {σ2 : Sto} {s2 : TS} {m2 q2 : Nat} (f : FR (dps dw) σ σ2) (e1 : TP s2 σ2) (e2 : σ2.1 dw 1 = nI m2) (e3 : σ2.1 dw 3 = nI q2) (k : TK t n s2) : CRS dw n L t p m2 q2 s2 σ2 := by
  obtain ⟨⟨⟨h1, ⟨lw, h2⟩, h3, h4, h5⟩, c2, c3, c4, c5⟩, c6⟩ := c
  have x16 : ∀ i, σ2.1 16 i = σ.1 16 i := fun i => f.at (dps_f (by omega))
  refine ⟨⟨⟨h1, ⟨lw, by rw [f.2]; exact h2⟩, h3, (f.at (dps_f (by omega))).trans h4, fun i hi => by rw [x16]; exact h5 i hi⟩, ?_, c3, by rw [f.2]; exact c4, (f.at (dps_f (by omega))).trans c5⟩, e1, e2, e3, k⟩
  rw [← c2]
  exact clp_congr (fun i _ => x16 i)
theorem CRR.tr {r1 r2 : PR} {σ1 σ2 : Sto} (a : CRR dw n L t p m q σ r1 σ1) (b : CRR dw n L t p (m + r1.2.1.length) (q + opn r1.2.1) σ1 r2 σ2) (o : Bool) : CRR dw n L t p m q σ (o, r1.2.1 ++ r2.2.1, r2.2.2) σ2 := by
  refine ⟨a.1.tr b.1, ?_, ?_⟩
  · show CRS dw n L t p (m + (r1.2.1 ++ r2.2.1).length) (q + opn (r1.2.1 ++ r2.2.1)) r2.2.2 σ2
    rw [List.length_append, opn_app, ← Nat.add_assoc, ← Nat.add_assoc]
    exact b.2.1
  · show σ2.1 (dw + 1) = wrs (σ.1 (dw + 1)) m (r1.2.1 ++ r2.2.1)
    rw [b.2.2, a.2.2, wrs_app]
theorem CRR.o {r : PR} {σ2 : Sto} (a : CRR dw n L t p m q σ r σ2) (o : Bool) : CRR dw n L t p m q σ (o, r.2) σ2 := a
theorem x1_go (c : CRS dw n L t p m q s σ) : ∃ σ2, f_X9_goOn L σ 15 = some σ2 ∧ ∀ o, CRR dw n L t p m q σ (o, [], nx t n s.2.1) σ2 := by
  obtain ⟨⟨c1, c2, c3, c4, c5⟩, c6, c7, c8, c9⟩ := id c
  obtain ⟨σ2, g1, g2, g3⟩ := x9_goOn c1 c9.1.2.1 c6.2.1
  rw [c2] at g3
  have f : FR (dps dw) σ σ2 := FR.sub g2 (fun a k u => dps_t (Or.inl (by simp [tps] at u; omega)))
  refine ⟨σ2, g1, fun o => ⟨f, c.fr f g3 ((g2.at (by simp [tps]; omega)).trans c7) ((g2.at (by simp [tps]; omega)).trans c8) (nx_k c9.1.2.1), ?_⟩⟩
  rw [wrs_nil]
  exact funext fun k => g2.at (by simp [tps]; omega)
theorem x1_write (c : CRS dw n L t p m q s σ) (hm : m < 108) (v : Int32) : ∃ σ2, f_X1_write L σ dw v = some σ2 ∧ FR (dps dw) σ σ2 ∧ CRS dw n L t p (m + 1) q s σ2 ∧ σ2.1 (dw + 1) = wrs (σ.1 (dw + 1)) m [v] := by
  obtain ⟨⟨c1, c2, c3, c4, c5⟩, c6, c7, c8, c9⟩ := id c
  obtain ⟨hS, ⟨lw, hR⟩, -⟩ := c1
  have r0 : σ.2.1 dw 0 = some (dw + 1) := by
    rcases c3 with z | z <;> subst z
    · exact hR.r17_0
    · exact hR.r21_0
  have l0 : L.2.1 (dw + 1) = 108 := by
    rcases c3 with z | z <;> subst z
    · exact hS.l18
    · exact hS.l22
  have f : FR (dps dw) σ (sI (sI σ (dw + 1) m v) dw 1 (nI (m + 1))) := ((FR.rf _ σ).wr (dps_t (by omega))).wr (dps_t (by omega))
  have t15 : ∀ k, (sI (sI σ (dw + 1) m v) dw 1 (nI (m + 1))).1 15 k = σ.1 15 k := fun k => by simp (disch := omega) only [sI_ne]
  refine ⟨_, ?_, f, c.fr f ⟨(t15 2).trans c6.1, (t15 3).trans c6.2.1, (t15 4).trans c6.2.2⟩ (sI_eq _ _ _ _) (by simp (disch := omega) only [sI_ne, sI_nk, c8]) c9, ?_⟩
  · unfold f_X1_write
    rw [r0, Option.bind_some, l0, c7, if_neg (fun u => by have := (nI_leI (a := 108) (by omega) (by omega)).mp u; omega), Option.bind_some, wI_nI l0 hm (by omega), Option.bind_some]
    have e : (sI σ (dw + 1) m v).1 dw 1 = nI m := (sI_ne (by omega)).trans c7
    rw [e, nI_1]
    rfl
  · funext j
    rw [sI_ne (by omega), sI_at]
    unfold wrs
    by_cases z : j = m
    · rw [if_pos ⟨rfl, z⟩, if_pos (by show m ≤ j ∧ j < m + 1; omega), z, Nat.sub_self]; rfl
    · rw [if_neg (fun u => z u.2), if_neg (by show ¬ (m ≤ j ∧ j < m + 1); omega)]
theorem x1_wsign (c : CRS dw n L t p m q s σ) (hm : m < 108) {v : Int32} (hv : v = 33 ∨ ¬ lvl v = 9) : ∃ σ2, f_X1_write L σ dw (-v) = some σ2 ∧ ∀ o, CRR dw n L t p m q σ (o, [-v], s) σ2 := by
  obtain ⟨σ2, g1, g2, g3, g4⟩ := x1_write c hm (-v)
  refine ⟨σ2, g1, fun o => ⟨g2, ?_, g4⟩⟩
  show CRS dw n L t p (m + 1) (q + opn [-v]) s σ2
  rw [opn_s hv]
  exact g3
/-- a number or a name taken as a step -/
def tkO (L : Lay) (σ : Sto) (a0 : Nat) (a1 : Int32) : Option (Int32 × Sto) := (f_X1_write L σ a0 a1).bind fun σ15 => (putI σ15 a0 3 ((σ15.1 a0 3) + 1)).bind fun σ16 => (σ16.2.1 a0 4).bind fun x17 => (f_X9_goOn L σ16 x17).bind fun σ18 => (ckN 1 1).bind fun _ => some (1, σ18)
theorem x1_take (c : CRS dw n L t p m q s σ) (hm : m < 108) {v : Int32} (hv : 0 ≤ v) : ∃ σ2, tkO L σ dw v = some (1, σ2) ∧ ∀ o, CRR dw n L t p m q σ (o, [v], nx t n s.2.1) σ2 := by
  obtain ⟨σ1, g1, g2, g3, g4⟩ := x1_write c hm v
  have hd := c.1.2.2.1
  have f : FR (dps dw) σ1 (sI σ1 dw 3 (nI (q + 1))) := (FR.rf _ σ1).wr (dps_t (by omega))
  have t15 : ∀ k, (sI σ1 dw 3 (nI (q + 1))).1 15 k = σ1.1 15 k := fun k => sI_ne (by omega)
  have c2 : CRS dw n L t p (m + 1) (q + 1) s (sI σ1 dw 3 (nI (q + 1))) := g3.fr f ⟨(t15 2).trans g3.2.1.1, (t15 3).trans g3.2.1.2.1, (t15 4).trans g3.2.1.2.2⟩ ((sI_nk (by omega)).trans g3.2.2.1) (sI_eq _ _ _ _) g3.2.2.2.2
  obtain ⟨σ2, k1, k2⟩ := x1_go c2
  have A : CRR dw n L t p m q σ (true, [v], s) (sI σ1 dw 3 (nI (q + 1))) := by
    refine ⟨g2.tr f, ?_, ?_⟩
    · show CRS dw n L t p (m + 1) (q + opn [v]) s _
      rw [opn_1 hv]
      exact c2
    · rw [← g4]
      exact funext fun k => sI_ne (by omega)
  refine ⟨σ2, ?_, fun o => ?_⟩
  · unfold tkO
    rw [g1, Option.bind_some, g3.2.2.2.1, nI_1, putI, Option.bind_some]
    rw [show (sI σ1 dw 3 (nI (q + 1))).2.1 dw 4 = some 15 from c2.1.2.2.2.1, Option.bind_some, k1, Option.bind_some, ck1, Option.bind_some]
  · have hk : CRR dw n L t p (m + 1) (q + opn [v]) (sI σ1 dw 3 (nI (q + 1))) (o, [], nx t n s.2.1) σ2 := by
      rw [opn_1 hv]
      exact k2 o
    exact A.tr (r2 := (o, [], nx t n s.2.1)) hk o
end
theorem lvl_le (c : Int32) : lvl c ≤ 9 := by
  unfold lvl
  repeat' split
  all_goals omega
section
variable {dw n p m q : Nat} {L : Lay} {t : Nat → Int32} {s : TS} {σ : Sto}
theorem x1_loop {g1 : Lay → Sto → Nat → Int32 → Int32 → Option (Int32 × Sto)} {g2 : Lay → Sto → Nat → Int32 → Int32 → Int32 → Option (Int32 × Sto)} {g : TS → PR} {lv br nt N : Nat} (hlv : lv < 5) (hN : N ≤ 108) (hg : ∀ σ s m q, CRS dw n L t p m q s σ → m ≤ s.1 → ∃ σ2, g2 L σ dw (nI (lv + 1)) (nI br) (nI nt) = some (b3 ((g s).1 = true), σ2) ∧ CRR dw n L t p m q σ (g s) σ2) (hp : ∀ s, TK t n s → PP t n s (g s)) (hm : m ≤ s.1) : ∀ f i K σ1 r, i + f = N → f < K → CRR dw n L t p m q σ r σ1 → PP t n s r → ∃ σ2, f_X1_readLevel_39 g1 g2 K L σ1 dw (nI lv) (nI br) (nI nt) (b3 (r.1 = true)) (nI N) (nI i) = some (b3 ((lpl t n g lv f r).1 = true), σ2) ∧ CRR dw n L t p m q σ (lpl t n g lv f r) σ2
  | 0, i, K, σ1, r, hi, hK, hc, hr => by
    obtain ⟨K, rfl⟩ := Nat.exists_eq_add_one_of_ne_zero (show K ≠ 0 by omega)
    refine ⟨σ1, ?_, hc⟩
    rw [f_X1_readLevel_39]
    dsimp only
    rw [if_pos (nI_le (by omega) (by omega)), ckb, Option.bind_some]
    rfl
  | f + 1, i, K, σ1, r, hi, hK, hc, hr => by
    obtain ⟨K, rfl⟩ := Nat.exists_eq_add_one_of_ne_zero (show K ≠ 0 by omega)
    rw [f_X1_readLevel_39]
    dsimp only
    rw [if_neg (fun u => by have := (nI_leI (by omega) (by omega)).mp u; omega), ckb, Option.bind_some]
    by_cases o : r.1 = true
    · rw [b3_t o, if_neg (by decide)]
      obtain ⟨f1, c1, w1⟩ := id hc
      obtain ⟨⟨d1, d2, d3, d4, d5⟩, d6, d7, d8, d9⟩ := id c1
      have sg := x9_sign d1 d6 d9.1.2.2.1 d9.1.2.2.2
      rw [d2] at sg
      rw [d4, Option.bind_some, sg, Option.bind_some, x1_level, Option.bind_some]
      have le := lvl_le (sgn t r.2.2)
      have lc : ((if lvl (sgn t r.2.2) = 9 then (-1 : Int32) else nI (lvl (sgn t r.2.2))) = nI lv) ↔ lvl (sgn t r.2.2) = lv := by
        by_cases z : lvl (sgn t r.2.2) = 9
        · rw [if_pos z, z]
          exact ⟨fun u => absurd u.symm (nI_nneg (by omega) (by decide)), fun u => by omega⟩
        · rw [if_neg z]
          exact nI_eq (by omega) (by omega)
      by_cases l : lvl (sgn t r.2.2) = lv
      · rw [if_pos (lc.mpr l), Option.bind_some, sg, Option.bind_some, Option.bind_some]
        obtain ⟨l3, l9⟩ := lvl_3 l hlv
        obtain ⟨k1, k2⟩ := pp_go hr.1 (by omega) (by omega)
        obtain ⟨σ3, e3, h3⟩ := x1_go c1
        have h3 := h3 true
        have hlen := hr.2.1
        obtain ⟨σ4, e4, h4⟩ := hg σ3 (nx t n r.2.2.2.1) _ _ h3.2.1 (by show m + r.2.1.length + 0 ≤ _; omega)
        have p4 := hp _ k1
        have hb := p4.1.1
        have hn := d1.2.2.1
        obtain ⟨σ5, e5, h5⟩ := x1_wsign (v := sgn t r.2.2) h4.2.1 (by
          have := p4.2.1
          show m + r.2.1.length + 0 + (g (nx t n r.2.2.2.1)).2.1.length < 108
          have b1 := hb.1
          have b2 := hb.2.1
          omega) (Or.inr l9)
        have h5 := h5 (g (nx t n r.2.2.2.1)).1
        rw [e3, Option.bind_some, nI_1, e4, Option.bind_some, e5, Option.bind_some, nI_1]
        have T := hc.tr ((h3.tr h4 true).tr h5 (g (nx t n r.2.2.2.1)).1) (g (nx t n r.2.2.2.1)).1
        have E : r.2.1 ++ ((([] : List Int32) ++ (g (nx t n r.2.2.2.1)).2.1) ++ [-(sgn t r.2.2)]) = r.2.1 ++ (g (nx t n r.2.2.2.1)).2.1 ++ [-(sgn t r.2.2)] := by
          rw [List.nil_append, List.append_assoc]
        have T : CRR dw n L t p m q σ ((g (nx t n r.2.2.2.1)).1, r.2.1 ++ (g (nx t n r.2.2.2.1)).2.1 ++ [-(sgn t r.2.2)], (g (nx t n r.2.2.2.1)).2.2) σ5 := by
          rw [← E]
          exact T
        have lp : lpl t n g lv (f + 1) r = lpl t n g lv f ((g (nx t n r.2.2.2.1)).1, r.2.1 ++ (g (nx t n r.2.2.2.1)).2.1 ++ [-(sgn t r.2.2)], (g (nx t n r.2.2.2.1)).2.2) := if_pos ⟨o, l⟩
        have P1 := lpl_pp hp hlv 1 s r hr
        rw [show lpl t n g lv 1 r = ((g (nx t n r.2.2.2.1)).1, r.2.1 ++ (g (nx t n r.2.2.2.1)).2.1 ++ [-(sgn t r.2.2)], (g (nx t n r.2.2.2.1)).2.2) from if_pos ⟨o, l⟩] at P1
        rw [lp]
        exact x1_loop hlv hN hg hp hm f (i + 1) K σ5 _ (by omega) (by omega) T P1
      · rw [if_neg (fun u => l (lc.mp u)), lpl_no (fun u => l u.2), b3_t o]
        exact ⟨σ1, rfl, hc⟩
    · rw [b3_f o, if_pos rfl, lpl_no (fun u => o u.1), b3_f o]
      exact ⟨σ1, rfl, hc⟩
end
