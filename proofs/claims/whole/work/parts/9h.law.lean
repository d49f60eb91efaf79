/-! law: the reference reads three sections -/
theorem sps_stop {t : Nat → Int32} {n : Nat} : ∀ f p, n ≤ p + f → p ≤ n → ¬ (sps t n f p < n ∧ t (sps t n f p) = 32)
  | 0, p, h, _ => fun u => by
    have : p < n := u.1
    omega
  | f + 1, p, h, hp => by
    rw [show sps t n (f + 1) p = if p < n ∧ t p = 32 then sps t n f (p + 1) else p from rfl]
    by_cases q : p < n ∧ t p = 32
    · rw [if_pos q]
      exact sps_stop f (p + 1) (by omega) (by omega)
    · rw [if_neg q]
      exact q
theorem sps_fix {t : Nat → Int32} {n p : Nat} (h : ¬ (p < n ∧ t p = 32)) : ∀ f, sps t n f p = p
  | 0 => rfl
  | _ + 1 => if_neg h
theorem nx_1 {t : Nat → Int32} {n p : Nat} : (nx t n p).1 = sps t n 109 p := by
  unfold nx
  by_cases q : stk t n p (sps t n 109 p) (srt t n (sps t n 109 p)) = true
  · rw [if_pos q]; rfl
  · rw [if_neg q]; rfl
theorem nx_s {t : Nat → Int32} {n p : Nat} (hp : p ≤ n) (hn : n ≤ 108) : sps t n 109 (nx t n p).1 = (nx t n p).1 := by
  rw [nx_1]
  exact sps_fix (sps_stop 109 p (by omega) hp) 109
theorem nx_0 {t : Nat → Int32} {n : Nat} : nx t n 0 = nxf t n (sps t n 109 0) := by
  unfold nx stk
  rw [if_neg]
  simp
theorem wrd_5 {t : Nat → Int32} {s : TS} {k : Nat} (hk : k < 3) : wrd t s (k + 5) = wrd t s (k + 2) := by
  have h : ∀ k, k < 3 → cal 1 (k + 5) = cal 1 (k + 2) := by decide
  unfold wrd
  rw [h k hk]
def rts (a k : Nat) : Bool := (Nat.beq a 37 && (Nat.ble 53 k && Nat.ble k 60)) || Nat.beq a 57
theorem rqs_r : ∀ a k, rqs a k = true → rts a k = true := fun a k u => by
  simp [rqs] at u
  simp [rts]
  omega
section
variable {n p k q : Nat} {L : Lay} {t f : Nat → Int32} {s : TS} {σ : Sto}
theorem x12_wordL (h : RPE n L σ) (hp : p ≤ 1000) (e : σ.1 37 54 = nI p) {w : Nat} (hw : w < 8) : ∀ m i K a2, i + m = (cal 1 w).length → m < K → (a2 = 0 ∨ a2 = 1) → ∃ x, f_X12_isWord_32 K L σ 37 w a2 (nI i) = some x := by
  have hl : ∀ w, w < 8 → (cal 1 w).length ≤ 10 := by decide +kernel
  have hl := hl w hw
  intro m
  induction m with
  | zero =>
    intro i K a2 hi hK ha
    obtain ⟨K, rfl⟩ := Nat.exists_eq_add_one_of_ne_zero (show K ≠ 0 by omega)
    rw [f_X12_isWord_32]
    dsimp only
    rcases ha with rfl | rfl
    · rw [if_pos rfl, ck0]
      exact ⟨0, rfl⟩
    · rw [if_neg (by decide), j0_length L σ rfl (by omega), Option.bind_some, if_pos (nI_le (by omega) (by omega)), ck1]
      exact ⟨1, rfl⟩
  | succ m ih =>
    intro i K a2 hi hK ha
    obtain ⟨K, rfl⟩ := Nat.exists_eq_add_one_of_ne_zero (show K ≠ 0 by omega)
    rw [f_X12_isWord_32]
    dsimp only
    rcases ha with rfl | rfl
    · rw [if_pos rfl, ck0]
      exact ⟨0, rfl⟩
    · rw [if_neg (by decide), j0_length L σ rfl (by omega), Option.bind_some, if_neg (fun u => by have := (nI_leI (by omega) (by omega)).mp u; omega), e, nI_add, x12_at h (by omega), Option.bind_some, j0_charAt L σ hw (by omega), Option.bind_some]
      unfold f_X12_isWord_67
      rw [nI_1]
      by_cases y : (if p + i < n then rx n σ (p + i) else -1) = cnth (cal 1 w) i
      · rw [if_pos y]
        exact ih (i + 1) K 1 (by omega) (by omega) (Or.inr rfl)
      · rw [if_neg y]
        exact ih (i + 1) K 0 (by omega) (by omega) (Or.inl rfl)
theorem x12_wordW (h : RPE n L σ) (hp : p ≤ 1000) (e : σ.1 37 54 = nI p) {w : Nat} (hw : w < 8) : ∃ x, f_X12_isWord L σ 37 w = some x := by
  have hl : ∀ w, w < 8 → (cal 1 w).length ≤ 10 := by decide +kernel
  have hl := hl w hw
  have a0 : ∃ x, f_X12_isWord_28 L σ 37 w = some x := x12_wordL h hp e hw _ 0 FU 0 (Nat.zero_add _) (FU_lt (by omega)) (Or.inl rfl)
  have a1 : ∃ x, f_X12_isWord_29 L σ 37 w 1 = some x := x12_wordL h hp e hw _ 0 FU 1 (Nat.zero_add _) (FU_lt (by omega)) (Or.inr rfl)
  unfold f_X12_isWord
  rw [j0_length L σ rfl (by omega), Option.bind_some]
  by_cases y : σ.1 37 53 = 1
  · rw [if_pos y]
    by_cases x : σ.1 37 55 - σ.1 37 54 = nI (cal 1 w).length
    · rw [if_pos x]; exact a1
    · rw [if_neg x]; exact a0
  · rw [if_neg y]; exact a0
theorem x12_secW (h : RPE n L σ) (hp : p ≤ 1000) (hk : k < 3) (e : σ.1 37 54 = nI p) (w : σ.1 37 56 = 1) (x : Int32) : f_X12_reads L σ 37 (k + 5) x = some (sI σ 37 56 1) := by
  obtain ⟨y, hy⟩ := x12_wordW h hp e (w := k + 5) (by omega)
  unfold f_X12_reads
  rw [hy, Option.bind_some, x12_takeW (by rw [w]; decide) y, Option.bind_some, if_neg (by rw [sI_eq]; decide)]
theorem RRS.to (c : RRS n L t f p 0 0 q s σ) {σ2 : Sto} {p2 : Nat} (er : σ2.2.1 = σ.2.1) (ek : ∀ a k, rts a k = false → σ2.1 a k = σ.1 a k) (e : ∀ k, k ≠ 57 → σ2.1 37 k = σ.1 37 k) (e7 : σ2.1 37 57 = nI p2) : RRS n L t f p2 0 0 q s σ2 := by
  obtain ⟨⟨⟨h1, ⟨lw, h2⟩, h3, h4, h5⟩, c2, c3, c4⟩, ⟨⟨d1, d1', d1''⟩, d2, d3, d4⟩, e1, e2, e3⟩ := c
  have x55 : σ2.1 55 = σ.1 55 := funext fun i => ek 55 i rfl
  have x56 : σ2.1 56 = σ.1 56 := funext fun i => ek 56 i rfl
  have xr : rx n σ2 = rx n σ := by
    unfold rx
    rw [e 52 (by omega), x55, x56]
  refine ⟨⟨⟨h1, ⟨lw, by rw [er]; exact h2⟩, h3, by rw [xr]; exact h4, by rw [e 52 (by omega), e 25 (by omega), e 26 (by omega)]; exact h5⟩, xr.trans c2, (funext fun i => ek 73 i rfl : σ2.1 73 = σ.1 73).trans c3, e7⟩, ⟨⟨(e 54 (by omega)).trans d1, (e 55 (by omega)).trans d1', (e 53 (by omega)).trans d1''⟩, (e 56 (by omega)).trans d2, d3, d4⟩, (e 58 (by omega)).trans e1, (e 59 (by omega)).trans e2, (e 60 (by omega)).trans e3⟩
def GOOD (n : Nat) (L : Lay) (t f : Nat → Int32) (q k : Nat) (r : PR) (σ σ2 : Sto) : Prop := r.1 = true ∧ RRS n L t f k 0 0 (q + opn r.2.1) r.2.2 σ2 ∧ ∃ fr, fr ≤ n ∧ sps t n 109 fr = fr ∧ (pcg t n (Nat.beq k 1) 100).2 0 0 0 (nxf t n fr) = r ∧ ∀ j, σ2.1 57 j = if j = k then nI fr else σ.1 57 j
def BAD (r : PR) (σ2 : Sto) : Prop := (r.1 = false ∨ r.2.2.2.2 = 4) ∧ σ2.1 37 54 = nI r.2.2.1 ∧ σ2.1 37 56 = 1
theorem x12_sec (c : RRS n L t f p 0 0 q s σ) (hk : k < 3) : ∃ σ2, f_X12_reads L σ 37 (k + 5) (nI k) = some σ2 ∧ FR rts σ σ2 ∧ (GOOD n L t f q k (sec t n k s) σ σ2 ∨ BAD (sec t n k s) σ2) := by
  obtain ⟨⟨c1, c2, c3, c4⟩, ⟨d1, d2, d3, d4⟩, e1, e2, e3⟩ := id c
  have hw : f_X12_isWord L σ 37 (k + 5) = some (b3 (wrd t s (k + 2) = true)) := by
    have := x12_word c1 d1 d4.1 (w := k + 5) (by omega)
    rw [c2] at this
    rw [this, wrd_5 hk]
  unfold f_X12_reads
  rw [hw, Option.bind_some]
  by_cases z : wrd t s (k + 2) = true
  · have z1 : s.2.2 = 1 := (wrd_iff.mp z).1
    have es : sec t n k s = (pcg t n (Nat.beq k 1) 100).2 0 0 0 (nx t n s.2.1) := if_pos z
    rw [b3_t z]
    obtain ⟨σ2, g1, g2, g3⟩ := r_take c (by omega)
    rw [g1, Option.bind_some]
    rcases g3 with C | ⟨a1, a2, a3⟩
    · obtain ⟨⟨x1, x2, x3, x4⟩, ⟨y1, y2, y3, y4⟩, f1, f2, f3⟩ := id C
      have hS := x1.1
      obtain ⟨lw, hR⟩ := x1.2.1
      have w4 : wI L σ2 57 (nI k) (nI (nx t n s.2.1).1) = some (sI σ2 57 k (nI (nx t n s.2.1).1)) := wI_nI hS.l57 hk (by omega)
      rw [if_pos y2, hR.r37_28, Option.bind_some, y1.1, w4, Option.bind_some]
      unfold putI
      rw [Option.bind_some]
      have C5 : RRS n L t f k 0 0 q (nx t n s.2.1) (sI (sI σ2 57 k (nI (nx t n s.2.1).1)) 37 57 (nI k)) := C.to rfl (fun a j u => by
        rw [sI_at, if_neg (fun v => by rw [v.1, v.2] at u; cases u), sI_at, if_neg (fun v => by rw [v.1] at u; simp [rts] at u)]) (fun j hj => by
        rw [sI_nk hj, sI_ne (by omega)]) (sI_eq _ _ _ _)
      obtain ⟨v, σ6, m1, m2, m3⟩ := (r_read (p := k) (n := n) (L := L) (t := t) (f := f) (by omega) 100 100 0 0 0 (by omega) (by omega) (by omega) (by omega) (by omega)).1 _ _ q C5
      have m1 : f_X12_or L (sI (sI σ2 57 k (nI (nx t n s.2.1).1)) 37 57 (nI k)) 37 = some (v, σ6) := m1
      rw [← es] at m3
      rw [m1, Option.bind_some]
      have F : FR rts σ σ6 := ((((FR.sub g2 rqs_r).wr (a := 57) (k := k) (v := nI (nx t n s.2.1).1) (by simp [rts]))).wr (a := 37) (k := 57) (v := nI k) rfl).tr (FR.sub m2 rqs_r)
      refine ⟨σ6, rfl, F, ?_⟩
      rcases m3 with ⟨m3, m4, -⟩ | m3
      · refine Or.inl ⟨m3, m4, (nx t n s.2.1).1, ?_, nx_s d4.1.2.1 c1.2.2.1, ?_, fun j => ?_⟩
        · have := y4.1.1
          have := y4.1.2.1
          omega
        · rw [es, ← y4.2 y3]
        · rw [m2.at rfl, sI_ne (by omega)]
          by_cases v : j = k
          · subst v
            rw [if_pos rfl, sI_eq]
          · rw [if_neg v, sI_nk v, g2.at rfl]
      · exact Or.inr m3
    · have e4 : sec t n k s = (false, [], nx t n s.2.1) := es.trans ((pcg_4 a1 100).2 0 0 0)
      rw [if_neg (by rw [a3]; decide), e4]
      exact ⟨σ2, rfl, FR.sub g2 rqs_r, Or.inr ⟨Or.inl rfl, a2, a3⟩⟩
  · have es : sec t n k s = (false, [], s) := if_neg z
    rw [b3_f z, x12_take0 d2, Option.bind_some, if_neg (by rw [sI_eq]; decide), es]
    exact ⟨sI σ 37 56 1, rfl, (FR.rf _ _).wr rfl, Or.inr ⟨Or.inl rfl, (sI_nk (by omega)).trans d1.1, sI_eq _ _ _ _⟩⟩
end
def scn (t : Nat → Int32) (n : Nat) : Nat → PR
  | 0 => sc0 t n
  | 1 => sc1 t n
  | _ => sc2 t n
section
variable {n p k q : Nat} {L : Lay} {t f : Nat → Int32} {s : TS} {σ : Sto}
def RALL (n : Nat) (t : Nat → Int32) (σ : Sto) : Prop := ∃ fr : Nat → Nat, ∀ k, k < 3 → (fr k ≤ n ∧ sps t n 109 (fr k) = fr k ∧ (pcg t n (Nat.beq k 1) 100).2 0 0 0 (nxf t n (fr k)) = scn t n k) ∧ (scn t n k).1 = true ∧ (scn t n k).2.2.2.2 ≤ 3 ∧ σ.1 57 k = nI (fr k)
theorem RPE.rt (h : RPE n L σ) {σ2 : Sto} (g : FR rts σ σ2) : RPE n L σ2 := by
  obtain ⟨h1, ⟨lw, h2⟩, h3, h4, h5⟩ := h
  have x55 : σ2.1 55 = σ.1 55 := funext fun i => g.at rfl
  have x56 : σ2.1 56 = σ.1 56 := funext fun i => g.at rfl
  have x52 : σ2.1 37 52 = σ.1 37 52 := g.at rfl
  have x25 : σ2.1 37 25 = σ.1 37 25 := g.at rfl
  have x26 : σ2.1 37 26 = σ.1 37 26 := g.at rfl
  have xr : rx n σ2 = rx n σ := by
    unfold rx
    rw [x52, x55, x56]
  exact ⟨h1, ⟨lw, by rw [g.2]; exact h2⟩, h3, by rw [xr]; exact h4, by rw [x52, x25, x26]; exact h5⟩
theorem x12_three (c : RRS n L t f p 0 0 0 (nx t n 0) σ) : ∃ σ1 σ2 σ3, f_X12_reads L σ 37 5 0 = some σ1 ∧ f_X12_reads L σ1 37 6 1 = some σ2 ∧ f_X12_reads L σ2 37 7 2 = some σ3 ∧ FR rts σ σ3 ∧ ((lok t n = Nat.beq (sc2 t n).2.2.2.2 0 ∧ lps t n = (sc2 t n).2.2.1 ∧ RRS n L t f 2 0 0 (opn (sc0 t n).2.1 + opn (sc1 t n).2.1 + opn (sc2 t n).2.1) (sc2 t n).2.2 σ3 ∧ RALL n t σ3) ∨ (lok t n = false ∧ σ3.1 37 54 = nI (lps t n) ∧ σ3.1 37 56 = 1)) := by
  obtain ⟨P0, P1, P2⟩ := sc_pp t n
  have hn : n ≤ 108 := c.1.1.2.2.1
  have p0 := P0.1.1
  have p1 := P1.1.1
  have p2 := P2.1.1
  have q0 : (sc0 t n).2.2.1 ≤ 1000 := by have := p0.1; have := p0.2.1; omega
  have q1 : (sc1 t n).2.2.1 ≤ 1000 := by have := p1.1; have := p1.2.1; omega
  have q2 : (sc2 t n).2.2.1 ≤ 1000 := by have := p2.1; have := p2.2.1; omega
  have bad1 : ∀ {r : PR}, (r.1 = false ∨ r.2.2.2.2 = 4) → r.1 = true → r.2.2.2.2 = 4 := fun h g => by
    rcases h with h | h
    · rw [g] at h; cases h
    · exact h
  obtain ⟨σ1, a1, a2, a3⟩ := x12_sec c (k := 0) (by omega)
  have a1 : f_X12_reads L σ 37 5 0 = some σ1 := a1
  have R1 := c.1.1.rt a2
  rcases a3 with ⟨g1, g2, fr0, g3, g4, g5, g6⟩ | ⟨b1, b2, b3'⟩
  · have g1 : (sc0 t n).1 = true := g1
    have g2 : RRS n L t f 0 0 0 (0 + opn (sc0 t n).2.1) (sc0 t n).2.2 σ1 := g2
    rw [Nat.zero_add] at g2
    obtain ⟨σ2, d1, d2, d3⟩ := x12_sec g2 (k := 1) (by omega)
    have d1 : f_X12_reads L σ1 37 6 1 = some σ2 := d1
    have R2 := R1.rt d2
    rcases d3 with ⟨h1, h2, fr1, h3, h4, h5, h6⟩ | ⟨b1, b2, b3'⟩
    · have h1 : (sc1 t n).1 = true := h1
      have h2 : RRS n L t f 1 0 0 (opn (sc0 t n).2.1 + opn (sc1 t n).2.1) (sc1 t n).2.2 σ2 := h2
      have lp : lps t n = (sc2 t n).2.2.1 := by
        unfold lps
        rw [if_pos g1, if_pos h1]
      obtain ⟨σ3, i1, i2, i3⟩ := x12_sec h2 (k := 2) (by omega)
      have i1 : f_X12_reads L σ2 37 7 2 = some σ3 := i1
      refine ⟨σ1, σ2, σ3, a1, d1, i1, (a2.tr d2).tr i2, ?_⟩
      rcases i3 with ⟨j1, j2, fr2, j3, j4, j5, j6⟩ | ⟨b1, b2, b3'⟩
      · have j1 : (sc2 t n).1 = true := j1
        have j2 : RRS n L t f 2 0 0 (opn (sc0 t n).2.1 + opn (sc1 t n).2.1 + opn (sc2 t n).2.1) (sc2 t n).2.2 σ3 := j2
        refine Or.inl ⟨?_, lp, j2, fun k => if k = 0 then fr0 else if k = 1 then fr1 else fr2, fun k hk => ?_⟩
        · unfold lok
          rw [g1, h1, j1]
          rfl
        · rcases (show k = 0 ∨ k = 1 ∨ k = 2 by omega) with rfl | rfl | rfl
          · exact ⟨⟨g3, g4, g5⟩, g1, g2.2.1.2.2.1, by rw [j6 0, if_neg (by omega), h6 0, if_neg (by omega), g6 0]; rfl⟩
          · exact ⟨⟨h3, h4, h5⟩, h1, h2.2.1.2.2.1, by rw [j6 1, if_neg (by omega), h6 1]; rfl⟩
          · exact ⟨⟨j3, j4, j5⟩, j1, j2.2.1.2.2.1, by rw [j6 2]; rfl⟩
      · have b1 : (sc2 t n).1 = false ∨ (sc2 t n).2.2.2.2 = 4 := b1
        refine Or.inr ⟨?_, by rw [lp]; exact b2, b3'⟩
        unfold lok
        rcases b1 with b1 | b1
        · rw [g1, h1, b1]; rfl
        · rw [g1, h1, b1]
          cases (sc2 t n).1 <;> rfl
    · have b1 : (sc1 t n).1 = false ∨ (sc1 t n).2.2.2.2 = 4 := b1
      have b2 : σ2.1 37 54 = nI (sc1 t n).2.2.1 := b2
      have i1 : f_X12_reads L σ2 37 7 2 = some (sI σ2 37 56 1) := x12_secW R2 q1 (k := 2) (by omega) b2 b3' 2
      have F : FR rts σ (sI σ2 37 56 1) := (a2.tr d2).wr rfl
      refine ⟨σ1, σ2, _, a1, d1, i1, F, Or.inr ⟨?_, ?_, sI_eq _ _ _ _⟩⟩
      · unfold lok
        rcases b1 with b1 | b1
        · rw [g1, b1]; rfl
        · have : sc2 t n = (false, [], (sc1 t n).2.2) := sec_4 b1
          rw [this]
          simp
      · rw [sI_nk (by omega), b2]
        unfold lps
        rw [if_pos g1]
        by_cases y : (sc1 t n).1 = true
        · have : sc2 t n = (false, [], (sc1 t n).2.2) := sec_4 (bad1 b1 y)
          rw [if_pos y, this]
        · rw [if_neg y]
  · have b1 : (sc0 t n).1 = false ∨ (sc0 t n).2.2.2.2 = 4 := b1
    have b2 : σ1.1 37 54 = nI (sc0 t n).2.2.1 := b2
    have d1 : f_X12_reads L σ1 37 6 1 = some (sI σ1 37 56 1) := x12_secW R1 q0 (k := 1) (by omega) b2 b3' 1
    have F1 : FR rts σ1 (sI σ1 37 56 1) := (FR.rf _ _).wr rfl
    have b22 : (sI σ1 37 56 1).1 37 54 = nI (sc0 t n).2.2.1 := (sI_nk (by omega)).trans b2
    have i1 : f_X12_reads L (sI σ1 37 56 1) 37 7 2 = some (sI (sI σ1 37 56 1) 37 56 1) := x12_secW (R1.rt F1) q0 (k := 2) (by omega) b22 (sI_eq _ _ _ _) 2
    refine ⟨σ1, _, _, a1, d1, i1, (a2.tr F1).wr rfl, Or.inr ⟨?_, ?_, sI_eq _ _ _ _⟩⟩
    · unfold lok
      rcases b1 with b1 | b1
      · rw [b1]; rfl
      · have : sc1 t n = (false, [], (sc0 t n).2.2) := sec_4 b1
        rw [this]
        simp
    · rw [sI_nk (by omega), b22]
      unfold lps
      by_cases y : (sc0 t n).1 = true
      · have : sc1 t n = (false, [], (sc0 t n).2.2) := sec_4 (bad1 b1 y)
        rw [if_pos y, this, if_neg (fun u => by cases u)]
      · rw [if_neg y]
end
