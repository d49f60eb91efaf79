/-! the class's value of a part -/
section
variable {lw : Nat} {L : Lay} {σ : Sto} {st : List Int32}
def stp1 (K : Int32 → Int32) (x : Int32) (st : List Int32) : List Int32 := if x < 10000 then (if x < 0 then (if x = -33 then b3 (st.headD 0 = 0) :: st.tail else ap2 (-x) (st.tail.headD 0) (st.headD 0) :: st.tail.tail) else x :: st) else K (x - 10000) :: st
theorem evs_cons (K : Int32 → Int32) (x : Int32) (r st : List Int32) : evs K (x :: r) st = evs K r (stp1 K x st) := rfl
theorem x1_work (hS : SF L) (hR : RF lw σ.2.1) (h : STK lw st σ) (hl : st.length < 108) {x : Int32} (hx : CW x) : ∃ σ2, f_X1_work L σ lw x (some 25) = some σ2 ∧ STK lw (stp1 (KQ (σ.1 26)) x st) σ2 ∧ FR (vps lw) σ σ2 ∧ (stp1 (KQ (σ.1 26)) x st).length ≤ st.length + 1 := by
  have o1 : ∀ σ, f_X11_oneIf L σ 1 = some 1 := fun _ => rfl
  have o0 : ∀ σ, f_X11_oneIf L σ 0 = some 0 := fun _ => rfl
  have tl : ∀ st : List Int32, st.tail.length ≤ st.length := fun st => by rw [List.length_tail]; omega
  unfold f_X1_work stp1
  rcases hx with ⟨m, m1, m2⟩ | ⟨c, c1, c2⟩ | ⟨c, c1, c2⟩
  · subst m2
    have z : nI m < 10000 := (nI_ltI (b := 10000) (by omega) (by omega)).mpr m1
    obtain ⟨σ2, g1, g2, g3⟩ := x1_push hS hR h hl (nI m)
    rw [if_pos z, if_pos z, if_neg (nI_pos (by omega)), if_neg (nI_pos (by omega)), g1, Option.bind_some]
    exact ⟨σ2, rfl, g2, g3, Nat.le_refl _⟩
  · have e : ¬ 10000 + c < 10000 ∧ 10000 + c - 10000 = c ∧ (c.toUInt32 % 65536).toInt32 = c ∧ ∃ k, k < 26 ∧ c = nI (97 + k) := by
      rcases nmo_c c1 with z | z | z | z | z | z | z | z | z | z | z | z | z <;> subst z
      · exact ⟨by decide, by decide, by decide, 4, by omega, rfl⟩
      · exact ⟨by decide, by decide, by decide, 15, by omega, rfl⟩
      · exact ⟨by decide, by decide, by decide, 12, by omega, rfl⟩
      · exact ⟨by decide, by decide, by decide, 23, by omega, rfl⟩
      · exact ⟨by decide, by decide, by decide, 1, by omega, rfl⟩
      · exact ⟨by decide, by decide, by decide, 17, by omega, rfl⟩
      · exact ⟨by decide, by decide, by decide, 24, by omega, rfl⟩
      · exact ⟨by decide, by decide, by decide, 13, by omega, rfl⟩
      · exact ⟨by decide, by decide, by decide, 21, by omega, rfl⟩
      · exact ⟨by decide, by decide, by decide, 3, by omega, rfl⟩
      · exact ⟨by decide, by decide, by decide, 0, by omega, rfl⟩
      · exact ⟨by decide, by decide, by decide, 11, by omega, rfl⟩
      · exact ⟨by decide, by decide, by decide, 2, by omega, rfl⟩
    obtain ⟨e1, e2, e3, k, hk, e4⟩ := e
    obtain ⟨σ2, g1, g2, g3⟩ := x1_push hS hR h hl (σ.1 26 k)
    have ek : KQ (σ.1 26) c = σ.1 26 k := by
      unfold KQ
      rw [e4, nI_clamp (by omega), Nat.add_sub_cancel_left]
    rw [c2, if_neg e1, if_neg e1, Option.bind_some, e2, e3, ek, e4, x3_valueOf hS hR.r25_0 hk, Option.bind_some, g1, Option.bind_some]
    exact ⟨σ2, rfl, g2, g3, Nat.le_refl _⟩
  · have hpop := x1_pop hS hR h (by omega)
    obtain ⟨σ1, p1, p2, p3⟩ := hpop
    have hR1 : RF lw σ1.2.1 := by rw [p3.2]; exact hR
    rcases c1 with z | z
    · subst z
      rw [c2, if_pos (by decide), if_pos (by decide), if_pos rfl, if_pos (by decide), if_pos (by decide), if_pos rfl, p1, Option.bind_some]
      unfold f_X1_work_55
      obtain ⟨σ2, g1, g2, g3⟩ := x1_push hS hR1 p2 (by have := tl st; omega) (b3 (st.headD 0 = 0))
      refine ⟨σ2, ?_, g2, p3.tr g3, ?_⟩
      · dsimp only
        rw [o1, o0, Option.bind_some, Option.bind_some]
        by_cases y : st.headD 0 = 0
        · rw [if_pos y, ← b3_t y, g1, Option.bind_some]
        · rw [if_neg y, ← b3_f y, g1, Option.bind_some]
      · show st.tail.length + 1 ≤ _
        have := tl st
        omega
    · have e : -c < 10000 ∧ -c < 0 ∧ ¬ -c = -33 ∧ -(-c) = c ∧ (c.toUInt32 % 65536).toInt32 = c := by
        rcases lvl_c z with z | z | z | z | z | z | z | z | z <;> subst z <;> decide
      obtain ⟨e1, e2, e3, e4, e5⟩ := e
      obtain ⟨σ2, q1, q2, q3⟩ := x1_pop hS hR1 p2 (by have := tl st; omega)
      have hR2 : RF lw σ2.2.1 := by rw [q3.2]; exact hR1
      obtain ⟨σ3, g1, g2, g3⟩ := x1_push hS hR2 q2 (by have := tl st; have := tl st.tail; omega) (ap2 c (st.tail.headD 0) (st.headD 0))
      rw [c2, if_pos e1, if_pos e1, if_pos e2, if_pos e2, if_neg e3, if_neg e3, p1, Option.bind_some]
      dsimp only
      rw [q1, Option.bind_some]
      dsimp only
      rw [e4, e5, x1_apply, Option.bind_some, g1, Option.bind_some]
      refine ⟨σ3, rfl, g2, (p3.tr q3).tr g3, ?_⟩
      show st.tail.tail.length + 1 ≤ _
      have := tl st; have := tl st.tail
      omega
theorem x1_steps {k b : Nat} (hk : k < 3) (hab : b ≤ 108) (f : Nat → Int32) : ∀ (c : List Int32) (i : Nat) (st : List Int32) (σ : Sto) (K : Nat) (x : Int32), i + c.length = b → c.length < K → st.length ≤ i → (∀ x, x ∈ c → CW x) → SF L → RF lw σ.2.1 → STK lw st σ → σ.1 26 = f → σ.1 (lw + 2) k = nI b → (∀ j, j < c.length → σ.1 (lw + 1) (i + j) = c.getD j 0) → ∃ σ2, f_X1_valueOf_36 K L σ lw (nI k) (some 25) x (nI i) = some ((evs (KQ f) c st).headD 0, σ2) ∧ FR (vps lw) σ σ2
  | [], i, st, σ, K, x, h1, h2, h3, h4, hS, hR, hs, h26, he, hc => by
    obtain ⟨K, rfl⟩ := Nat.exists_eq_add_one_of_ne_zero (show K ≠ 0 by omega)
    obtain ⟨l0, ⟨r1, r2, r3⟩, l1, l2, l3⟩ := lw_refs hS hR
    have h1 : i + 0 = b := h1
    obtain ⟨σ2, g1, g2, g3⟩ := x1_pop hS hR hs (by omega)
    refine ⟨σ2, ?_, g3⟩
    rw [f_X1_valueOf_36]
    dsimp only
    rw [r2, Option.bind_some, rI_nI l2 hk (by omega), Option.bind_some, he, if_pos (nI_le (by omega) (by omega))]
    unfold f_X1_valueOf_75
    rw [g1]
    rfl
  | x :: c, i, st, σ, K, y, h1, h2, h3, h4, hS, hR, hs, h26, he, hc => by
    obtain ⟨K, rfl⟩ := Nat.exists_eq_add_one_of_ne_zero (show K ≠ 0 by omega)
    obtain ⟨l0, ⟨r1, r2, r3⟩, l1, l2, l3⟩ := lw_refs hS hR
    have h1 : i + (c.length + 1) = b := h1
    have h2 : c.length + 1 < K + 1 := h2
    have x0 : σ.1 (lw + 1) i = x := hc 0 (by show 0 < c.length + 1; omega)
    obtain ⟨σ2, g1, g2, g3, g4⟩ := x1_work hS hR hs (by omega) (h4 x List.mem_cons_self)
    rw [h26] at g2 g4
    have f26 : σ2.1 26 = f := (funext fun j => g3.at (vps_f (by omega)) : σ2.1 26 = σ.1 26).trans h26
    obtain ⟨σ3, k1, k2⟩ := x1_steps hk hab f c (i + 1) _ σ2 K y (by omega) (by omega) (by omega) (fun z hz => h4 z (List.mem_cons_of_mem _ hz)) hS (by rw [g3.2]; exact hR) g2 f26 ((g3.at (vps_f (by omega))).trans he) (fun j hj => by
      rw [g3.at (vps_f (by omega)), show i + 1 + j = i + (j + 1) by omega]
      exact hc (j + 1) (by show j + 1 < c.length + 1; omega))
    refine ⟨σ3, ?_, g3.tr k2⟩
    rw [f_X1_valueOf_36]
    dsimp only
    rw [r2, Option.bind_some, rI_nI l2 hk (by omega), Option.bind_some, he, if_neg (fun u => by have := (nI_leI (by omega) (by omega)).mp u; omega), r1, Option.bind_some, l1, if_neg (fun u => by have := (nI_leI (a := 108) (by omega) (by omega)).mp u; omega), Option.bind_some, rI_nI l1 (by omega) (by omega), Option.bind_some, x0, g1, Option.bind_some, nI_1, k1]
    rfl
theorem x1_valueOf {n k a b fr : Nat} {c : List Int32} (hS : SF L) (hR : RF lw σ.2.1) (hk : k < 3) (h : LPk lw n σ k a b fr c) : ∃ σ2, f_X1_valueOf L σ lw (nI k) (some 25) = some (evc (KQ (σ.1 26)) c, σ2) ∧ SC σ σ2 ∧ σ2.1 26 = σ.1 26 ∧ σ2.1 73 = σ.1 73 := by
  obtain ⟨cw, wf⟩ := h.cw
  obtain ⟨⟨a1, a2, a3, a4, a5⟩, -, -, d1, d2⟩ := h
  obtain ⟨l0, ⟨r1, r2, r3⟩, l1, l2, l3⟩ := lw_refs hS hR
  have F1 : FR (vps lw) σ (sI σ lw 7 0) := (FR.rf _ σ).wr (vps_t (by omega))
  have key : ∀ x, ∃ σ2, f_X1_valueOf_36 FU L (sI σ lw 7 0) lw (nI k) (some 25) x (nI a) = some (evc (KQ (σ.1 26)) c, σ2) ∧ FR (vps lw) (sI σ lw 7 0) σ2 := fun x => by
    obtain ⟨σ2, g1, g2⟩ := x1_steps (lw := lw) (L := L) (b := b) hk a2 (σ.1 26) c a [] (sI σ lw 7 0) FU x (by omega) (FU_lt (by omega)) (Nat.zero_le _) cw hS hR ⟨(sI_eq _ _ _ _).trans nI_0.symm, fun j hj => absurd hj (Nat.not_lt_zero _)⟩ (funext fun j => F1.at (vps_f (by omega))) ((F1.at (vps_f (by omega))).trans a3) (fun j hj => (F1.at (vps_f (by omega))).trans (d2 j hj))
    rw [wf] at g1
    exact ⟨σ2, g1, g2⟩
  have iw : f_X11_isWithin L σ (nI k) 0 2 = some 1 := by
    rw [wi, b3_t ⟨nI_pos' (by omega), nI_le (b := 2) (by omega) (by omega)⟩]
  obtain ⟨σ2, g1, g2⟩ := key (nI a)
  have F := F1.tr g2
  refine ⟨σ2, ?_, F.sc (fun a k u => ?_), funext fun j => F.at (vps_f (by omega)), funext fun j => F.at (vps_f (by omega))⟩
  · unfold f_X1_valueOf f_X1_valueOf_32
    rw [iw, Option.bind_some, if_neg (by decide), putI, Option.bind_some]
    cases k with
    | zero =>
      rw [if_pos nI_0]
      have a0 := a4 rfl
      subst a0
      exact g1
    | succ i =>
      rw [if_neg (nI_ne0 (by omega) (by omega)), show (sI σ lw 7 0).2.1 lw 2 = some (lw + 2) from r2, Option.bind_some, nI_pred, rI_nI l2 (by omega) (by omega), Option.bind_some, F1.at (vps_f (by omega)), a5 i rfl]
      exact g1
  · have : (a = lw ∧ k = 7) ∨ a = lw + 3 := by
      simp [vps] at u
      omega
    simp [scr]
    omega
end
/-- the parts of a law that stands -/
theorem LW.parts {lw : Nat} {σ : Sto} (h : LW lw σ) : ∃ n, LPn n σ ∧ ∃ (e : Nat → Nat) (fr : Nat → Nat) (C : Nat → List Int32), ∀ k, k < 3 → LPk lw n σ k (e k) (e (k + 1)) (fr k) (C k) := by
  obtain ⟨n, e, n1, n2, n3, e0, hk⟩ := h
  refine ⟨n, ⟨n1, n2, n3⟩, e, ?_⟩
  have H : ∀ k, ∃ (q : Nat × List Int32), k < 3 → LPk lw n σ k (e k) (e (k + 1)) q.1 q.2 := fun k => by
    by_cases z : k < 3
    · obtain ⟨b1, b2, b3, fr, c, s, b4, b5, b6, b7, b8, b9, b10, b11⟩ := hk k z
      exact ⟨(fr, c), fun _ => ⟨⟨b1, b2, b3, fun u => by rw [u]; exact e0, fun i hi => by rw [hi]; exact (hk i (by omega)).2.2.1⟩, ⟨b4, b5, b6⟩, ⟨s, b7, b8⟩, b9, b10⟩⟩
    · exact ⟨(0, []), fun u => absurd u z⟩
  exact ⟨fun k => (Classical.choose (H k)).1, fun k => (Classical.choose (H k)).2, fun k hk => Classical.choose_spec (H k) hk⟩
