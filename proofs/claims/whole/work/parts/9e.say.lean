/-! says, stands, lives -/
section
variable {nb nm nl nB nN td nt nw lw : Nat} {w : Nat → Nat} {L : Lay} {σ : Sto}
/-- names told -/
def NV (σ : Sto) (f : Nat → Int32) : Prop := ∀ k, k < 26 → σ.1 26 k = f k
def NW (σ : Sto) (f : Nat → Int32) : Prop := ∀ t, t < 13 → σ.1 73 t = f (ltr t)
theorem KQ_c {f g : Nat → Int32} (h : ∀ k, k < 26 → g k = f k) : ∀ c, nmo true c = true → KQ g c = KQ f c := fun c hc => by
  unfold KQ
  apply h
  rcases nmo_c hc with z | z | z | z | z | z | z | z | z | z | z | z | z <;> subst z <;> decide
theorem c_val {n k a b fr : Nat} {c : List Int32} {f : Nat → Int32} (hS : SF L) (hR : RF lw σ.2.1) (hk : k < 3) (h : LPk lw n σ k a b fr c) (hf : NV σ f) : ∃ σ2, f_X1_valueOf L σ lw (nI k) (some 25) = some (evc (KQ f) c, σ2) ∧ SC σ σ2 ∧ NV σ2 f := by
  obtain ⟨σ2, g1, g2, g3, -⟩ := x1_valueOf hS hR hk h
  rw [evc_congr (KQ_c hf) h.cw.1] at g1
  exact ⟨σ2, g1, g2, fun k hk => by rw [g3]; exact hf k hk⟩
theorem r_val {n k a b fr : Nat} {c : List Int32} {f : Nat → Int32} (hS : SF L) (hR : RF lw σ.2.1) (hN : LPn n σ) (hk : k < 3) (h : LPk lw n σ k a b fr c) (hf : NW σ f) : ∃ σ2, f_X12_gives L σ 37 (nI k) = some (evc (KQ f) c, σ2) ∧ SC σ σ2 ∧ NW σ2 f := by
  obtain ⟨σ2, g1, g2, g3, -⟩ := x12_gives hS hR hN hk h
  rw [← evc_congr (KQ_KN (f := f) hf) h.cw.1] at g1
  exact ⟨σ2, g1, g2, fun k hk => by rw [g3]; exact hf k hk⟩
theorem c_for (h : INVP nb nm nl nB nN td nt nw lw w L σ) {n k a b fr : Nat} {c : List Int32} (hk : k < 3) (hP : LPk lw n σ k a b fr c) {j r o d : Nat} (hb : BAL1 nb nm td w L σ j r o) (hj : j < nB) (hd : d ≤ 400) : ∃ σ2, f_X11_lawFor L σ 0 (some (r + 80)) (nI k) (nI d) = some (evc (KQ (nmV σ j o d nb nm)) c, σ2) ∧ SC σ σ2 ∧ NV σ2 (nmV σ j o d nb nm) := by
  have hS := h.1
  have hR := h.2.1
  obtain ⟨σ1, e1, s1, v1⟩ := x0_tellNames h hb hj hd
  have hR1 : RF lw σ1.2.1 := by rw [s1.2]; exact hR
  obtain ⟨σ2, g1, g2, g3⟩ := c_val hS hR1 hk (hP.sc hR.lw s1) v1
  refine ⟨σ2, ?_, s1.tr g2, g3⟩
  unfold f_X11_lawFor
  rw [Option.bind_some, hR.r0_9, e1, Option.bind_some, hR1.r0_6, Option.bind_some, hR1.r0_9, g1, Option.bind_some]
theorem r_for (h : INVP nb nm nl nB nN td nt nw lw w L σ) {n k a b fr : Nat} {c : List Int32} (hk : k < 3) (hN : LPn n σ) (hP : LPk lw n σ k a b fr c) {j r o d : Nat} (hb : BAL1 nb nm td w L σ j r o) (hj : j < nB) (hd : d ≤ 400) : ∃ σ2, f_X12_saysOn L σ 37 (nI j) (nI k) (nI d) = some (evc (KQ (nmV σ j o d nb nm)) c, σ2) ∧ SC σ σ2 := by
  have hS := h.1
  have hR := h.2.1
  obtain ⟨σ1, e1, s1, v1⟩ := x12_knows h hb hj hd
  have hR1 : RF lw σ1.2.1 := by rw [s1.2]; exact hR
  obtain ⟨σ2, g1, g2, g3⟩ := r_val hS hR1 (hN.sc s1) hk (hP.sc hR.lw s1) v1
  refine ⟨σ2, ?_, s1.tr g2⟩
  unfold f_X12_saysOn
  rw [e1, Option.bind_some, g1, Option.bind_some]
/-- both say V -/
def LV (L : Lay) (σ : Sto) (j r k d : Nat) (V : Int32) : Prop := (∀ σ', SC σ σ' → ∃ σ2, f_X11_lawFor L σ' 0 (some (r + 80)) (nI k) (nI d) = some (V, σ2) ∧ SC σ' σ2) ∧ (∀ σ', SC σ σ' → ∃ σ2, f_X12_saysOn L σ' 37 (nI j) (nI k) (nI d) = some (V, σ2) ∧ SC σ' σ2)
theorem lv_ex (h : INVP nb nm nl nB nN td nt nw lw w L σ) (hW : LW lw σ) {k : Nat} (hk : k < 3) {j r o d : Nat} (hb : BAL1 nb nm td w L σ j r o) (hj : j < nB) (hd : d ≤ 400) : ∃ V, LV L σ j r k d V := by
  obtain ⟨n, hN, e, fr, C, hC⟩ := hW.parts
  have hR := h.2.1
  refine ⟨evc (KQ (nmV σ j o d nb nm)) (C k), fun σ' s => ?_, fun σ' s => ?_⟩
  · obtain ⟨σ2, g1, g2, -⟩ := c_for (h.sc s) hk ((hC k hk).sc hR.lw s) (hb.sc h.2.2.1.1.2.1 s) hj hd
    rw [show nmV σ' j o d nb nm = nmV σ j o d nb nm from funext fun i => nmV_sc s j o d nb nm i] at g1
    exact ⟨σ2, g1, g2⟩
  · obtain ⟨σ2, g1, g2⟩ := r_for (h.sc s) hk (hN.sc s) ((hC k hk).sc hR.lw s) (hb.sc h.2.2.1.1.2.1 s) hj hd
    rw [show nmV σ' j o d nb nm = nmV σ j o d nb nm from funext fun i => nmV_sc s j o d nb nm i] at g1
    exact ⟨σ2, g1, g2⟩
theorem law_cases (h : INVP nb nm nl nB nN td nt nw lw w L σ) : (σ.1 0 8 = 0 ∧ σ.1 37 27 = 0) ∨ (σ.1 0 8 = 1 ∧ σ.1 37 27 = 1 ∧ LW lw σ) := h.2.2.2.2.2.2.2.2.2.2.2.2.2
/-- both say b, which is 0 or 1 -/
def SB (L : Lay) (σ : Sto) (x y : Sto → Option (Int32 × Sto)) (b : Int32) : Prop := (b = 0 ∨ b = 1) ∧ (∀ σ', SC σ σ' → ∃ σ2, x σ' = some (b, σ2) ∧ SC σ' σ2) ∧ (∀ σ', SC σ σ' → ∃ σ2, y σ' = some (b, σ2) ∧ SC σ' σ2)
theorem st_ex (h : INVP nb nm nl nB nN td nt nw lw w L σ) {j r o d : Nat} (hb : BAL1 nb nm td w L σ j r o) (hj : j < nB) (hd : d ≤ 400) : ∃ b, SB L σ (fun σ' => f_X11_isStanding L σ' 0 (some (r + 80)) (nI d)) (fun σ' => f_X12_standsOn L σ' 37 (nI j) (nI d)) b ∧ (b = 1 → LW lw σ) := by
  have hR := h.2.1
  have hS := h.1
  have hnB : nB ≤ 12 := h.2.2.1.1.2.2.2.1
  have rB : ∀ σ', SC σ σ' → σ'.2.1 37 19 = some 51 := fun σ' s => by rw [s.2]; exact hR.r37_19
  have r51 : ∀ σ', SC σ σ' → rI L σ' 51 (nI j) = some (σ.1 51 j) := fun σ' s => by rw [rI_nI hS.l51 (by omega) (by omega), s.at (a := 51) rfl]
  have r3 : ∀ σ', SC σ σ' → σ'.1 (r + 80) 3 = σ.1 (r + 80) 3 := fun σ' s => s.at (scr_hi (by omega))
  have r8 : ∀ σ', SC σ σ' → σ'.1 0 8 = σ.1 0 8 := fun σ' s => s.at rfl
  have r27 : ∀ σ', SC σ σ' → σ'.1 37 27 = σ.1 37 27 := fun σ' s => s.at rfl
  rcases law_cases h with ⟨a1, a2⟩ | ⟨a1, a2, hW⟩
  · refine ⟨0, ⟨Or.inl rfl, fun σ' s => ⟨σ', ?_, SC.rf _⟩, fun σ' s => ⟨σ', ?_, SC.rf _⟩⟩, fun u => absurd u (by decide)⟩
    · unfold f_X11_isStanding
      try dsimp only
      rw [r8 σ' s, a1, if_pos rfl, ck0, Option.bind_some]
    · unfold f_X12_standsOn
      try dsimp only
      rw [r27 σ' s, a2, if_pos rfl, ck0, Option.bind_some]
  · obtain ⟨V, hV1, hV2⟩ := lv_ex h hW (k := 0) (by omega) hb hj hd
    rcases hb.2.2.2.2.1 with ⟨z1, z2⟩ | ⟨dd, z1, z2, z3, z4⟩
    · refine ⟨0, ⟨Or.inl rfl, fun σ' s => ⟨σ', ?_, SC.rf _⟩, fun σ' s => ⟨σ', ?_, SC.rf _⟩⟩, fun u => absurd u (by decide)⟩
      · unfold f_X11_isStanding
        try dsimp only
        rw [r8 σ' s, a1, if_neg (by decide), Option.bind_some, r3 σ' s, z2, if_pos (show nI d < 401 from nI_lt (b := 401) (by omega) (by omega)), ck0, Option.bind_some]
      · unfold f_X12_standsOn
        try dsimp only
        rw [r27 σ' s, a2, if_neg (by decide), rB σ' s, Option.bind_some, r51 σ' s, Option.bind_some, z1, if_pos rfl, ck0, Option.bind_some]
    · have td4 : td ≤ 400 := h.2.2.1.1.2.2.2.2.2.1
      by_cases q : d < dd
      · refine ⟨0, ⟨Or.inl rfl, fun σ' s => ⟨σ', ?_, SC.rf _⟩, fun σ' s => ⟨σ', ?_, SC.rf _⟩⟩, fun u => absurd u (by decide)⟩
        · unfold f_X11_isStanding
          try dsimp only
          rw [r8 σ' s, a1, if_neg (by decide), Option.bind_some, r3 σ' s, z4, if_pos (nI_lt q (by omega)), ck0, Option.bind_some]
        · unfold f_X12_standsOn
          try dsimp only
          rw [r27 σ' s, a2, if_neg (by decide), rB σ' s, Option.bind_some, r51 σ' s, Option.bind_some, z3, if_neg (nI_nneg (by omega) (by decide)), Option.bind_some, r51 σ' s, Option.bind_some, z3, if_pos (nI_lt q (by omega)), ck0, Option.bind_some]
      · refine ⟨b3 (¬ V = 0), ⟨?_, fun σ' s => ?_, fun σ' s => ?_⟩, fun _ => hW⟩
        · by_cases y : V = 0
          · exact Or.inl (b3_f (fun u => u y))
          · exact Or.inr (b3_t y)
        · obtain ⟨σ2, g1, g2⟩ := hV1 σ' s
          have g1 : f_X11_lawFor L σ' 0 (some (r + 80)) 0 (nI d) = some (V, σ2) := g1
          refine ⟨σ2, ?_, g2⟩
          unfold f_X11_isStanding
          try dsimp only
          rw [r8 σ' s, a1, if_neg (by decide), Option.bind_some, r3 σ' s, z4, if_neg (nI_nlt (by omega) (by omega)), g1, Option.bind_some, ck0, ck1, Option.bind_some, Option.bind_some]
          by_cases y : V = 0
          · rw [b3_f (fun u => u y), if_pos y]
          · rw [b3_t y, if_neg y]
        · obtain ⟨σ2, g1, g2⟩ := hV2 σ' s
          have g1 : f_X12_saysOn L σ' 37 (nI j) 0 (nI d) = some (V, σ2) := g1
          refine ⟨σ2, ?_, g2⟩
          unfold f_X12_standsOn
          try dsimp only
          rw [r27 σ' s, a2, if_neg (by decide), rB σ' s, Option.bind_some, r51 σ' s, Option.bind_some, z3, if_neg (nI_nneg (by omega) (by decide)), Option.bind_some, r51 σ' s, Option.bind_some, z3, if_neg (nI_nlt (by omega) (by omega)), g1, Option.bind_some, ck0, ck1, Option.bind_some, Option.bind_some]
          by_cases y : V = 0
          · rw [b3_f (fun u => u y), if_pos y]
          · rw [b3_t y, if_neg y]
theorem liv_aux (σ : Sto) (z : Int32) (h8 p : Prop) [Decidable h8] [Decidable p] (q : Option (Int32 × Sto)) (T : Sto → Option (Int32 × Sto)) :
    (if h8 then (ckN 1 0).bind fun _ => some ((0 : Int32), σ) else (if p then (ckN 1 0).bind fun _ => some (0, σ) else q.bind fun r2 => (if r2.1 = 0 then (ckN 1 0).bind fun _ => some (0, r2.2) else T r2.2))) = (if p then (ckN 1 0).bind fun _ => some (0, σ) else ((if h8 then (ckN 1 0).bind fun _ => some ((0 : Int32), σ) else (if z < z then (ckN 1 0).bind fun _ => some (0, σ) else q.bind fun r2 => (if r2.1 = 0 then (ckN 1 0).bind fun _ => some (0, r2.2) else (ckN 1 1).bind fun _ => some (1, r2.2))))).bind fun r2 => (if r2.1 = 0 then (ckN 1 0).bind fun _ => some (0, r2.2) else T r2.2)) := by
  rw [ck0, ck1]
  by_cases a : h8
  · rw [if_pos a, if_pos a]
    by_cases b : p
    · rw [if_pos b]
    · rw [if_neg b]
      rfl
  · rw [if_neg a, if_neg a, if_neg (show ¬ z < z from Int32.lt_irrefl)]
    by_cases b : p
    · rw [if_pos b, if_pos b]
    · rw [if_neg b, if_neg b]
      cases q with
      | none => rfl
      | some r =>
        by_cases c : r.1 = 0
        · show (if r.1 = 0 then some ((0 : Int32), r.2) else T r.2) = ((if r.1 = 0 then some ((0 : Int32), r.2) else some (1, r.2)).bind fun r2 => (if r2.1 = 0 then some (0, r2.2) else T r2.2))
          rw [if_pos c, if_pos c]
          rfl
        · show (if r.1 = 0 then some ((0 : Int32), r.2) else T r.2) = ((if r.1 = 0 then some ((0 : Int32), r.2) else some (1, r.2)).bind fun r2 => (if r2.1 = 0 then some (0, r2.2) else T r2.2))
          rw [if_neg c, if_neg c]
          rfl
theorem x11_liv (L : Lay) (σ : Sto) (x : Nat) (d : Int32) : f_X11_isLiving L σ 0 (some x) d = (if d < σ.1 x 3 then (ckN 1 0).bind fun _ => some (0, σ) else (f_X11_isStanding L σ 0 (some x) (σ.1 x 3)).bind fun r2 => (if r2.1 = 0 then (ckN 1 0).bind fun _ => some (0, r2.2) else (f_X11_lawFor L r2.2 0 (some x) 2 (σ.1 x 3)).bind fun r3 => (if r3.1 < (d - (σ.1 x 3)) then (ckN 1 0).bind fun _ => some (0, r3.2) else (ckN 1 1).bind fun _ => some (1, r3.2)))) := by
  unfold f_X11_isLiving f_X11_isStanding
  rw [Option.bind_some, Option.bind_some]
  exact liv_aux σ (σ.1 x 3) _ _ _ (fun r => (f_X11_lawFor L r 0 (some x) 2 (σ.1 x 3)).bind fun r3 => (if r3.1 < (d - (σ.1 x 3)) then (ckN 1 0).bind fun _ => some (0, r3.2) else (ckN 1 1).bind fun _ => some (1, r3.2)))
theorem li_ex (h : INVP nb nm nl nB nN td nt nw lw w L σ) {j r o d : Nat} (hb : BAL1 nb nm td w L σ j r o) (hj : j < nB) (hd : d ≤ 400) : ∃ b, SB L σ (fun σ' => f_X11_isLiving L σ' 0 (some (r + 80)) (nI d)) (fun σ' => f_X12_livesOn L σ' 37 (nI j) (nI d)) b ∧ (b = 1 → LW lw σ) := by
  have hR := h.2.1
  have hS := h.1
  have hnB : nB ≤ 12 := h.2.2.1.1.2.2.2.1
  have td4 : td ≤ 400 := h.2.2.1.1.2.2.2.2.2.1
  have rB : ∀ σ', SC σ σ' → σ'.2.1 37 19 = some 51 := fun σ' s => by rw [s.2]; exact hR.r37_19
  have r51 : ∀ σ', SC σ σ' → rI L σ' 51 (nI j) = some (σ.1 51 j) := fun σ' s => by rw [rI_nI hS.l51 (by omega) (by omega), s.at (a := 51) rfl]
  have r3 : ∀ σ', SC σ σ' → σ'.1 (r + 80) 3 = σ.1 (r + 80) 3 := fun σ' s => s.at (scr_hi (by omega))
  rcases hb.2.2.2.2.1 with ⟨z1, z2⟩ | ⟨dd, z1, z2, z3, z4⟩
  · refine ⟨0, ⟨Or.inl rfl, fun σ' s => ⟨σ', ?_, SC.rf _⟩, fun σ' s => ⟨σ', ?_, SC.rf _⟩⟩, fun u => absurd u (by decide)⟩
    · try dsimp only
      rw [x11_liv, r3 σ' s, z2, if_pos (show nI d < 401 from nI_lt (b := 401) (by omega) (by omega)), ck0, Option.bind_some]
    · unfold f_X12_livesOn
      try dsimp only
      rw [rB σ' s, Option.bind_some, r51 σ' s, Option.bind_some, z1, if_pos rfl, ck0, Option.bind_some]
  · by_cases q : d < dd
    · refine ⟨0, ⟨Or.inl rfl, fun σ' s => ⟨σ', ?_, SC.rf _⟩, fun σ' s => ⟨σ', ?_, SC.rf _⟩⟩, fun u => absurd u (by decide)⟩
      · try dsimp only
        rw [x11_liv, r3 σ' s, z4, if_pos (nI_lt q (by omega)), ck0, Option.bind_some]
      · unfold f_X12_livesOn
        try dsimp only
        rw [rB σ' s, Option.bind_some, r51 σ' s, Option.bind_some, z3, if_neg (nI_nneg (by omega) (by decide)), Option.bind_some, r51 σ' s, Option.bind_some, z3, if_pos (nI_lt q (by omega)), ck0, Option.bind_some]
    · obtain ⟨b, ⟨hb01, hx, hy⟩, hbl⟩ := st_ex h hb hj (d := dd) (by omega)
      have X : ∀ σ', SC σ σ' → f_X11_isLiving L σ' 0 (some (r + 80)) (nI d) = (f_X11_isStanding L σ' 0 (some (r + 80)) (nI dd)).bind fun r2 => (if r2.1 = 0 then (ckN 1 0).bind fun _ => some (0, r2.2) else (f_X11_lawFor L r2.2 0 (some (r + 80)) 2 (nI dd)).bind fun r3 => (if r3.1 < (nI d - nI dd) then (ckN 1 0).bind fun _ => some (0, r3.2) else (ckN 1 1).bind fun _ => some (1, r3.2))) := fun σ' s => by
        rw [x11_liv, r3 σ' s, z4, if_neg (nI_nlt (by omega) (by omega))]
      have Y : ∀ σ', SC σ σ' → f_X12_livesOn L σ' 37 (nI j) (nI d) = (f_X12_standsOn L σ' 37 (nI j) (nI dd)).bind fun r7 => (if r7.1 = 0 then (ckN 1 0).bind fun _ => some (0, r7.2) else (r7.2.2.1 37 19).bind fun x8 => (rI L r7.2 x8 (nI j)).bind fun v9 => (r7.2.2.1 37 19).bind fun x10 => (rI L r7.2 x10 (nI j)).bind fun v11 => (f_X12_saysOn L r7.2 37 (nI j) 2 v11).bind fun r12 => (if r12.1 < (nI d - v9) then (ckN 1 0).bind fun _ => some (0, r12.2) else (ckN 1 1).bind fun _ => some (1, r12.2))) := fun σ' s => by
        unfold f_X12_livesOn
        try dsimp only
        rw [rB σ' s, Option.bind_some, r51 σ' s, Option.bind_some, z3, if_neg (nI_nneg (by omega) (by decide)), Option.bind_some, r51 σ' s, Option.bind_some, z3, if_neg (nI_nlt (by omega) (by omega)), Option.bind_some, r51 σ' s, Option.bind_some, z3]
      rcases hb01 with z | z
      · subst z
        refine ⟨0, ⟨Or.inl rfl, fun σ' s => ?_, fun σ' s => ?_⟩, fun u => absurd u (by decide)⟩
        · obtain ⟨σ2, g1, g2⟩ := hx σ' s
          refine ⟨σ2, ?_, g2⟩
          dsimp only at g1 ⊢
          rw [X σ' s, g1, Option.bind_some, if_pos rfl, ck0, Option.bind_some]
        · obtain ⟨σ2, g1, g2⟩ := hy σ' s
          refine ⟨σ2, ?_, g2⟩
          dsimp only at g1 ⊢
          rw [Y σ' s, g1, Option.bind_some, if_pos rfl, ck0, Option.bind_some]
      · subst z
        obtain ⟨V, hV1, hV2⟩ := lv_ex h (hbl rfl) (k := 2) (by omega) hb hj (d := dd) (by omega)
        refine ⟨b3 (¬ V < nI d - nI dd), ⟨?_, fun σ' s => ?_, fun σ' s => ?_⟩, fun _ => hbl rfl⟩
        · by_cases y : V < nI d - nI dd
          · exact Or.inl (b3_f (fun u => u y))
          · exact Or.inr (b3_t y)
        · obtain ⟨σ2, g1, g2⟩ := hx σ' s
          obtain ⟨σ3, k1, k2⟩ := hV1 σ2 (s.tr g2)
          have k1 : f_X11_lawFor L σ2 0 (some (r + 80)) 2 (nI dd) = some (V, σ3) := k1
          refine ⟨σ3, ?_, g2.tr k2⟩
          dsimp only at g1 ⊢
          rw [X σ' s, g1, Option.bind_some]
          dsimp only
          rw [if_neg (by decide), k1, Option.bind_some, ck0, ck1, Option.bind_some, Option.bind_some]
          by_cases y : V < nI d - nI dd
          · rw [b3_f (fun u => u y), if_pos y]
          · rw [b3_t y, if_neg y]
        · obtain ⟨σ2, g1, g2⟩ := hy σ' s
          obtain ⟨σ3, k1, k2⟩ := hV2 σ2 (s.tr g2)
          have k1 : f_X12_saysOn L σ2 37 (nI j) 2 (nI dd) = some (V, σ3) := k1
          refine ⟨σ3, ?_, g2.tr k2⟩
          dsimp only at g1 ⊢
          rw [Y σ' s, g1, Option.bind_some]
          dsimp only
          rw [if_neg (by decide), rB σ2 (s.tr g2), Option.bind_some, r51 σ2 (s.tr g2), Option.bind_some, Option.bind_some, r51 σ2 (s.tr g2), Option.bind_some, z3, k1, Option.bind_some, ck0, ck1, Option.bind_some, Option.bind_some]
          by_cases y : V < nI d - nI dd
          · rw [b3_f (fun u => u y), if_pos y]
          · rw [b3_t y, if_neg y]
theorem kd_in (h : INVP nb nm nl nB nN td nt nw lw w L σ) {j r o : Nat} (hb : BAL1 nb nm td w L σ j r o) (hj : j < nB) (z : Int32) : f_X11_isKnownDay L σ 0 (some (r + 80)) z = some (b3 (nI o ≤ z ∧ z ≤ nI td)) ∧ f_X12_isTime L σ 37 (nI j) z = some (b3 (nI o ≤ z ∧ z ≤ nI td)) := by
  obtain ⟨hS, hR, ⟨⟨hnb, hnm, hnl, hnB, hnN, htd, hnt, hnw⟩, ⟨eb, eb'⟩, ⟨em, em'⟩, ⟨el, el'⟩, ⟨eB, eB'⟩, ⟨eN, eN'⟩, ⟨et, et'⟩, ⟨ep, ep'⟩, ew, ew'⟩, hBR, hME, hLI, hBA, hTA, hNO, hHA, hRU, hWA, hSH, hLA⟩ := id h
  obtain ⟨b14, b15, b17, b18, b19⟩ := hb.2.2.2.1
  constructor
  · simp only [f_X11_isKnownDay, hR.r0_0, b17, et, wi, ckb, Option.bind_some]
  · simp (disch := omega) only [f_X12_isTime, hR.r37_18, rI_nI hS.l50, b18, et', x12_in, wi, ckb, Option.bind_some]
theorem op_says (h : INVP nb nm nl nB nN td nt nw lw w L σ) (x y z : Int32) : OPs L (f_X11_says L σ 0 x y z) (fun σ1 => f_X12_says L σ1 37 x y z) := by
  have h0 := h
  obtain ⟨hS, hR, ⟨⟨hnb, hnm, hnl, hnB, hnN, htd, hnt, hnw⟩, ⟨eb, eb'⟩, ⟨em, em'⟩, ⟨el, el'⟩, ⟨eB, eB'⟩, ⟨eN, eN'⟩, ⟨et, et'⟩, ⟨ep, ep'⟩, ew, ew'⟩, hBR, hME, hLI, hBA, hTA, hNO, hHA, hRU, hWA, hSH, hLA⟩ := id h
  rcases ixc x nB (by omega) with hx | ⟨j, hj, rfl⟩
  · refine ops_of (v := -1000000001) (σ1 := σ) (σ2 := σ) ?_ ?_ h.iv
    · unfold f_X11_says
      rw [bAt_out eB hnB hx]
      rfl
    · unfold f_X12_says
      rw [isBa_out eB' hnB hx]
      rfl
  obtain ⟨r, o, hb⟩ := hBA j hj
  obtain ⟨kd, it⟩ := kd_in h0 hb hj z
  have b1 := hb.1.1
  have U1 : f_X11_says L σ 0 (nI j) y z = (if b3 (0 ≤ y ∧ y ≤ 1) = 0 then some ((-1000000001), σ) else if b3 (nI o ≤ z ∧ z ≤ nI td) = 0 then some ((-1000000001), σ) else if σ.1 0 8 = 0 then some ((-1000000002), σ) else if y = 0 then f_X11_lawFor L σ 0 (some (r + 80)) 0 z else f_X11_lawFor L σ 0 (some (r + 80)) 2 z) := by
    unfold f_X11_says f_X11_says_56
    rw [bAt_in hS hR eB hnB hj, b1, Option.bind_some, Option.elim_some, wi, Option.bind_some, kd, Option.bind_some, Option.bind_fun_some, Option.bind_fun_some]
  have U2 : f_X12_says L σ 37 (nI j) y z = (if b3 (0 ≤ y ∧ y ≤ 1) = 0 then some ((-1000000001), σ) else if b3 (nI o ≤ z ∧ z ≤ nI td) = 0 then some ((-1000000001), σ) else if σ.1 37 27 = 0 then some ((-1000000002), σ) else if y = 0 then f_X12_saysOn L σ 37 (nI j) 0 z else f_X12_saysOn L σ 37 (nI j) 2 z) := by
    unfold f_X12_says f_X12_says_47
    rw [isBa_in eB' hnB hj, Option.bind_some, if_neg (by decide), x12_in, wi, Option.bind_some, it, Option.bind_some, Option.bind_fun_some, Option.bind_fun_some]
  by_cases q1 : 0 ≤ y ∧ y ≤ 1
  · rw [b3_t q1, if_neg (by decide)] at U1 U2
    by_cases q2 : nI o ≤ z ∧ z ≤ nI td
    · rw [b3_t q2, if_neg (by decide)] at U1 U2
      rcases law_cases h0 with ⟨a1, a2⟩ | ⟨a1, a2, hW⟩
      · rw [a1, if_pos rfl] at U1
        rw [a2, if_pos rfl] at U2
        exact ops_of U1 U2 h.iv
      · rw [a1, if_neg (by decide)] at U1
        have ho : o ≤ td := hb.2.2.2.1.2.2.2.2
        obtain ⟨d, hd1, hd2, rfl⟩ := of_btw q2 (by omega)
        have fin : ∀ k, k < 3 → f_X11_says L σ 0 (nI j) y (nI d) = f_X11_lawFor L σ 0 (some (r + 80)) (nI k) (nI d) → (∀ σ1, SC σ σ1 → f_X12_says L σ1 37 (nI j) y (nI d) = f_X12_saysOn L σ1 37 (nI j) (nI k) (nI d)) → OPs L (f_X11_says L σ 0 (nI j) y (nI d)) (fun σ1 => f_X12_says L σ1 37 (nI j) y (nI d)) := fun k hk e1 e2 => by
          obtain ⟨V, v1, v2⟩ := lv_ex h0 hW hk hb hj (d := d) (by omega)
          obtain ⟨σ1, g1, g2⟩ := v1 σ (SC.rf σ)
          obtain ⟨σ2, k1, k2⟩ := v2 σ1 g2
          exact ops_of (e1.trans g1) ((e2 σ1 g2).trans k1) (h0.sc (g2.tr k2)).iv
        have U3 : ∀ σ1, SC σ σ1 → f_X12_says L σ1 37 (nI j) y (nI d) = (if y = 0 then f_X12_saysOn L σ1 37 (nI j) 0 (nI d) else f_X12_saysOn L σ1 37 (nI j) 2 (nI d)) := fun σ1 s => by
          have it1 := (kd_in (h0.sc s) (hb.sc h0.2.2.1.1.2.1 s) hj (nI d)).2
          have e16 : σ1.1 37 16 = nI nB := (s.at rfl).trans eB'
          have e27 : σ1.1 37 27 = 1 := (s.at rfl).trans a2
          unfold f_X12_says f_X12_says_47
          rw [isBa_in e16 hnB hj, Option.bind_some, if_neg (by decide), x12_in, wi, b3_t q1, Option.bind_some, if_neg (by decide), it1, b3_t q2, Option.bind_some, if_neg (by decide), e27, if_neg (by decide), Option.bind_fun_some, Option.bind_fun_some]
        by_cases q3 : y = 0
        · rw [if_pos q3] at U1
          exact fin 0 (by omega) U1 (fun σ1 s => by rw [U3 σ1 s, if_pos q3]; rfl)
        · rw [if_neg q3] at U1
          exact fin 2 (by omega) U1 (fun σ1 s => by rw [U3 σ1 s, if_neg q3]; rfl)
    · rw [b3_f q2, if_pos rfl] at U1 U2
      exact ops_of U1 U2 h.iv
  · rw [b3_f q1, if_pos rfl] at U1 U2
    exact ops_of U1 U2 h.iv
theorem op_stands (h : INVP nb nm nl nB nN td nt nw lw w L σ) (x z : Int32) : OPs L (f_X11_stands L σ 0 x z) (fun σ1 => f_X12_stands L σ1 37 x z) := by
  have h0 := h
  obtain ⟨hS, hR, ⟨⟨hnb, hnm, hnl, hnB, hnN, htd, hnt, hnw⟩, ⟨eb, eb'⟩, ⟨em, em'⟩, ⟨el, el'⟩, ⟨eB, eB'⟩, ⟨eN, eN'⟩, ⟨et, et'⟩, ⟨ep, ep'⟩, ew, ew'⟩, hBR, hME, hLI, hBA, hTA, hNO, hHA, hRU, hWA, hSH, hLA⟩ := id h
  rcases ixc x nB (by omega) with hx | ⟨j, hj, rfl⟩
  · refine ops_of (v := -1000000001) (σ1 := σ) (σ2 := σ) ?_ ?_ h.iv
    · unfold f_X11_stands
      rw [bAt_out eB hnB hx]
      rfl
    · unfold f_X12_stands
      rw [isBa_out eB' hnB hx]
      rfl
  obtain ⟨r, o, hb⟩ := hBA j hj
  obtain ⟨kd, it⟩ := kd_in h0 hb hj z
  have b1 := hb.1.1
  by_cases q2 : nI o ≤ z ∧ z ≤ nI td
  · rw [b3_t q2] at kd it
    have ho : o ≤ td := hb.2.2.2.1.2.2.2.2
    obtain ⟨d, hd1, hd2, rfl⟩ := of_btw q2 (by omega)
    obtain ⟨b, ⟨hb01, hx, hy⟩, -⟩ := st_ex h0 hb hj (d := d) (by omega)
    obtain ⟨σ1, g1, g2⟩ := hx σ (SC.rf σ)
    obtain ⟨σ2, k1, k2⟩ := hy σ1 g2
    dsimp only at g1 k1
    refine ops_of (v := b) (σ1 := σ1) (σ2 := σ2) ?_ ?_ (h0.sc (g2.tr k2)).iv
    · unfold f_X11_stands
      rw [bAt_in hS hR eB hnB hj, b1, Option.bind_some, Option.elim_some, kd, Option.bind_some, if_neg (by decide), g1, Option.bind_some]
      rcases hb01 with z | z <;> subst z <;> rfl
    · have it1 := (kd_in (h0.sc g2) (hb.sc h0.2.2.1.1.2.1 g2) hj (nI d)).2
      rw [b3_t q2] at it1
      have e16 : σ1.1 37 16 = nI nB := (g2.at rfl).trans eB'
      unfold f_X12_stands
      rw [isBa_in e16 hnB hj, Option.bind_some, if_neg (by decide), it1, Option.bind_some, if_neg (by decide), k1, Option.bind_some]
      rcases hb01 with z | z <;> subst z <;> rfl
  · rw [b3_f q2] at kd it
    refine ops_of (v := -1000000001) (σ1 := σ) (σ2 := σ) ?_ ?_ h.iv
    · unfold f_X11_stands
      rw [bAt_in hS hR eB hnB hj, b1, Option.bind_some, Option.elim_some, kd, Option.bind_some, if_pos rfl]
    · unfold f_X12_stands
      rw [isBa_in eB' hnB hj, Option.bind_some, if_neg (by decide), it, Option.bind_some, if_pos rfl]
theorem op_lives (h : INVP nb nm nl nB nN td nt nw lw w L σ) (x z : Int32) : OPs L (f_X11_lives L σ 0 x z) (fun σ1 => f_X12_lives L σ1 37 x z) := by
  have h0 := h
  obtain ⟨hS, hR, ⟨⟨hnb, hnm, hnl, hnB, hnN, htd, hnt, hnw⟩, ⟨eb, eb'⟩, ⟨em, em'⟩, ⟨el, el'⟩, ⟨eB, eB'⟩, ⟨eN, eN'⟩, ⟨et, et'⟩, ⟨ep, ep'⟩, ew, ew'⟩, hBR, hME, hLI, hBA, hTA, hNO, hHA, hRU, hWA, hSH, hLA⟩ := id h
  rcases ixc x nB (by omega) with hx | ⟨j, hj, rfl⟩
  · refine ops_of (v := -1000000001) (σ1 := σ) (σ2 := σ) ?_ ?_ h.iv
    · unfold f_X11_lives
      rw [bAt_out eB hnB hx]
      rfl
    · unfold f_X12_lives
      rw [isBa_out eB' hnB hx]
      rfl
  obtain ⟨r, o, hb⟩ := hBA j hj
  have b1 := hb.1.1
  by_cases q2 : 0 ≤ z ∧ z ≤ 400
  · obtain ⟨d, hd, rfl⟩ := of_le (n := 400) q2 (by omega)
    have hc : (σ.1 51 j = -1 ∧ f_X0_hasClosed L σ (r + 80) = some 0) ∨ (¬ σ.1 51 j = -1 ∧ f_X0_hasClosed L σ (r + 80) = some 1) := by
      unfold f_X0_hasClosed
      rw [ck0, ck1, Option.bind_some, Option.bind_some]
      rcases hb.2.2.2.2.1 with ⟨z1, z2⟩ | ⟨dd, z1, z2, z3, z4⟩
      · exact Or.inl ⟨z1, by rw [z2, if_pos rfl]⟩
      · exact Or.inr ⟨by rw [z3]; exact nI_nneg (by omega) (by decide), by rw [z4, if_neg (show ¬ nI dd = 401 from fun u => by have := (nI_eq (b := 401) (by omega) (by omega)).mp u; omega)]⟩
    rcases hc with ⟨c1, c2⟩ | ⟨c1, c2⟩
    · refine ops_of (v := -1000000002) (σ1 := σ) (σ2 := σ) ?_ ?_ h.iv
      · unfold f_X11_lives
        rw [bAt_in hS hR eB hnB hj, b1, Option.bind_some, Option.elim_some, wi, b3_t q2, Option.bind_some, if_neg (by decide), Option.bind_some, c2, Option.bind_some, if_pos rfl]
      · unfold f_X12_lives
        rw [isBa_in eB' hnB hj, Option.bind_some, if_neg (by decide), x12_in, wi, b3_t q2, Option.bind_some, if_neg (by decide), hR.r37_19, Option.bind_some, rI_nI hS.l51 (by omega) (by omega), Option.bind_some, if_pos c1]
    · obtain ⟨b, ⟨hb01, hx, hy⟩, -⟩ := li_ex h0 hb hj (d := d) (by omega)
      obtain ⟨σ1, g1, g2⟩ := hx σ (SC.rf σ)
      obtain ⟨σ2, k1, k2⟩ := hy σ1 g2
      dsimp only at g1 k1
      refine ops_of (v := b) (σ1 := σ1) (σ2 := σ2) ?_ ?_ (h0.sc (g2.tr k2)).iv
      · unfold f_X11_lives
        rw [bAt_in hS hR eB hnB hj, b1, Option.bind_some, Option.elim_some, wi, b3_t q2, Option.bind_some, if_neg (by decide), Option.bind_some, c2, Option.bind_some, if_neg (by decide), g1, Option.bind_some]
        rcases hb01 with z | z <;> subst z <;> rfl
      · have e16 : σ1.1 37 16 = nI nB := (g2.at rfl).trans eB'
        have hR1 : RF lw σ1.2.1 := by rw [g2.2]; exact hR
        have c3 : ¬ σ1.1 51 j = -1 := by rw [g2.at (a := 51) rfl]; exact c1
        unfold f_X12_lives
        rw [isBa_in e16 hnB hj, Option.bind_some, if_neg (by decide), x12_in, wi, b3_t q2, Option.bind_some, if_neg (by decide), hR1.r37_19, Option.bind_some, rI_nI hS.l51 (by omega) (by omega), Option.bind_some, if_neg c3, k1, Option.bind_some]
        rcases hb01 with z | z <;> subst z <;> rfl
  · refine ops_of (v := -1000000001) (σ1 := σ) (σ2 := σ) ?_ ?_ h.iv
    · unfold f_X11_lives
      rw [bAt_in hS hR eB hnB hj, b1, Option.bind_some, Option.elim_some, wi, b3_f q2, Option.bind_some, if_pos rfl]
    · unfold f_X12_lives
      rw [isBa_in eB' hnB hj, Option.bind_some, if_neg (by decide), x12_in, wi, b3_f q2, Option.bind_some, if_pos rfl]
end
