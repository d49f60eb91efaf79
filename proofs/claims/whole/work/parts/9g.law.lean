/-! law: three sections are read, the law that was is kept or changed -/
def rch (a k : Nat) : Bool := (Nat.beq a 0 && (Nat.beq k 6 || Nat.beq k 7))
theorem RF.to {lw lw' : Nat} {r r' : Nat → Nat → Option Nat} (h : RF lw r) (e : ∀ a k, rch a k = false → r' a k = r a k) (h1 : lw' = 17 ∨ lw' = 21) (h2 : r' 0 6 = some lw') (h3 : r' 0 7 = some (38 - lw')) : RF lw' r' := ⟨(e _ _ rfl).trans h.r0_0, (e _ _ rfl).trans h.r0_1, (e _ _ rfl).trans h.r0_2, (e _ _ rfl).trans h.r0_4, (e _ _ rfl).trans h.r0_5, (e _ _ rfl).trans h.r0_9, (e _ _ rfl).trans h.r0_10, (e _ _ rfl).trans h.r0_12, (e _ _ rfl).trans h.r0_13, (e _ _ rfl).trans h.r0_14, (e _ _ rfl).trans h.r1_0, (e _ _ rfl).trans h.r1_2, (e _ _ rfl).trans h.r4_0, (e _ _ rfl).trans h.r4_1, (e _ _ rfl).trans h.r4_2, (e _ _ rfl).trans h.r4_4, (e _ _ rfl).trans h.r4_5, (e _ _ rfl).trans h.r10_0, (e _ _ rfl).trans h.r10_1, (e _ _ rfl).trans h.r10_2, (e _ _ rfl).trans h.r10_3, (e _ _ rfl).trans h.r15_0, (e _ _ rfl).trans h.r17_0, (e _ _ rfl).trans h.r17_2, (e _ _ rfl).trans h.r17_4, (e _ _ rfl).trans h.r17_6, (e _ _ rfl).trans h.r21_0, (e _ _ rfl).trans h.r21_2, (e _ _ rfl).trans h.r21_4, (e _ _ rfl).trans h.r21_6, (e _ _ rfl).trans h.r25_0, (e _ _ rfl).trans h.r28_0, (e _ _ rfl).trans h.r28_1, (e _ _ rfl).trans h.r28_2, (e _ _ rfl).trans h.r28_4, (e _ _ rfl).trans h.r33_0, (e _ _ rfl).trans h.r35_0, (e _ _ rfl).trans h.r37_3, (e _ _ rfl).trans h.r37_5, (e _ _ rfl).trans h.r37_6, (e _ _ rfl).trans h.r37_7, (e _ _ rfl).trans h.r37_8, (e _ _ rfl).trans h.r37_9, (e _ _ rfl).trans h.r37_10, (e _ _ rfl).trans h.r37_11, (e _ _ rfl).trans h.r37_12, (e _ _ rfl).trans h.r37_14, (e _ _ rfl).trans h.r37_15, (e _ _ rfl).trans h.r37_17, (e _ _ rfl).trans h.r37_18, (e _ _ rfl).trans h.r37_19, (e _ _ rfl).trans h.r37_20, (e _ _ rfl).trans h.r37_21, (e _ _ rfl).trans h.r37_22, (e _ _ rfl).trans h.r37_23, (e _ _ rfl).trans h.r37_24, (e _ _ rfl).trans h.r37_28, (e _ _ rfl).trans h.r37_30, (e _ _ rfl).trans h.r37_31, (e _ _ rfl).trans h.r37_32, (e _ _ rfl).trans h.r37_33, (e _ _ rfl).trans h.r37_34, (e _ _ rfl).trans h.r37_35, (e _ _ rfl).trans h.r37_36, (e _ _ rfl).trans h.r37_37, (e _ _ rfl).trans h.r37_38, (e _ _ rfl).trans h.r37_40, (e _ _ rfl).trans h.r37_41, (e _ _ rfl).trans h.r37_42, (e _ _ rfl).trans h.r37_43, (e _ _ rfl).trans h.r37_44, (e _ _ rfl).trans h.r37_45, (e _ _ rfl).trans h.r37_46, (e _ _ rfl).trans h.r37_48, (e _ _ rfl).trans h.r37_49, (e _ _ rfl).trans h.r37_50, (e _ _ rfl).trans h.r37_51, (e _ _ rfl).trans h.r37_61, (e _ _ rfl).trans h.r37_62, h1, h2, h3⟩
def eps (dw a k : Nat) : Bool := (Nat.beq a 15 && Nat.ble 2 k) || (Nat.beq a dw || (Nat.beq a (dw + 1) || Nat.beq a (dw + 2)))
theorem eps_t {dw a k : Nat} (h : (a = 15 ∧ 2 ≤ k) ∨ a = dw ∨ a = dw + 1 ∨ a = dw + 2) : eps dw a k = true := by
  simp [eps]
  omega
theorem eps_c {dw a k : Nat} (u : eps dw a k = true) : (a = 15 ∧ 2 ≤ k) ∨ a = dw ∨ a = dw + 1 ∨ a = dw + 2 := by
  simp [eps] at u
  omega
theorem eps_f {dw a k : Nat} (h : ¬ ((a = 15 ∧ 2 ≤ k) ∨ a = dw ∨ a = dw + 1 ∨ a = dw + 2)) : eps dw a k = false := pf_of (fun u => h (eps_c u))
theorem dps_e {dw : Nat} : ∀ a k, dps dw a k = true → eps dw a k = true := fun a k u => eps_t (by
  simp [dps] at u
  omega)
/-- a section: its word, then its row -/
def sec (t : Nat → Int32) (n k : Nat) (s : TS) : PR := if wrd t s (k + 2) = true then (pcg t n (Nat.beq k 1) 100).2 0 0 0 (nx t n s.2.1) else (false, [], s)
theorem sec_pp {t : Nat → Int32} {n k : Nat} {s : TS} (h : TK t n s) : PP t n s (sec t n k s) := by
  unfold sec
  by_cases z : wrd t s (k + 2) = true
  · rw [if_pos z]
    have z1 : s.2.2 = 1 := (wrd_iff.mp z).1
    obtain ⟨g1, g2⟩ := pp_go h (by omega) (by omega)
    have p := (pcg_pp (t := t) (n := n) (pt := Nat.beq k 1) 100).2 0 0 0 _ g1
    exact ⟨p.1, by have := p.2.1; omega, p.2.2.1, p.2.2.2⟩
  · rw [if_neg z]
    exact ⟨h, Nat.le_refl _, (fun x hx => by cases hx), (fun u => by cases u)⟩
theorem sec_4 {t : Nat → Int32} {n k : Nat} {s : TS} (h : s.2.2 = 4) : sec t n k s = (false, [], s) := if_neg (fun z => by
  have := (wrd_iff.mp z).1
  omega)
def sc0 (t : Nat → Int32) (n : Nat) : PR := sec t n 0 (nx t n 0)
def sc1 (t : Nat → Int32) (n : Nat) : PR := sec t n 1 (sc0 t n).2.2
def sc2 (t : Nat → Int32) (n : Nat) : PR := sec t n 2 (sc1 t n).2.2
def lok (t : Nat → Int32) (n : Nat) : Bool := (sc0 t n).1 && ((sc1 t n).1 && ((sc2 t n).1 && Nat.beq (sc2 t n).2.2.2.2 0))
def lps (t : Nat → Int32) (n : Nat) : Nat := if (sc0 t n).1 = true then (if (sc1 t n).1 = true then (sc2 t n).2.2.1 else (sc1 t n).2.2.1) else (sc0 t n).2.2.1
theorem sc_pp (t : Nat → Int32) (n : Nat) : PP t n (nx t n 0) (sc0 t n) ∧ PP t n (sc0 t n).2.2 (sc1 t n) ∧ PP t n (sc1 t n).2.2 (sc2 t n) := by
  have h0 : PP t n (nx t n 0) (sc0 t n) := sec_pp (nx_k (Nat.zero_le n))
  have h1 : PP t n (sc0 t n).2.2 (sc1 t n) := sec_pp h0.1
  exact ⟨h0, h1, sec_pp h1.1⟩
section
variable {dw n p m q : Nat} {L : Lay} {t : Nat → Int32} {s : TS} {σ : Sto}
theorem CRS.to (c : CRS dw n L t p m q s σ) {σ2 : Sto} {p2 m2 q2 : Nat} (er : σ2.2.1 = σ.2.1) (e15 : ∀ k, σ2.1 15 k = σ.1 15 k) (e16 : ∀ k, σ2.1 16 k = σ.1 16 k) (e1 : σ2.1 dw 1 = nI m2) (e3 : σ2.1 dw 3 = nI q2) (e5 : σ2.1 dw 5 = nI p2) : CRS dw n L t p2 m2 q2 s σ2 := by
  obtain ⟨⟨⟨h1, ⟨lw, h2⟩, h3, h4, h5⟩, c2, c3, c4, c5⟩, ⟨c6, c7, c8⟩, c9, c10, c11⟩ := c
  refine ⟨⟨⟨h1, ⟨lw, by rw [er]; exact h2⟩, h3, (e15 1).trans h4, fun i hi => by rw [e16]; exact h5 i hi⟩, ?_, c3, by rw [er]; exact c4, e5⟩, ⟨(e15 2).trans c6, (e15 3).trans c7, (e15 4).trans c8⟩, e1, e3, c11⟩
  rw [← c2]
  exact clp_congr (fun i _ => e16 i)
theorem x1_sec (c : CRS dw n L t p m q s σ) {k : Nat} (hk : k < 3) (hm : m ≤ s.1) : ∃ σ2, f_X1_readSection L σ dw (k + 2) (nI k) = some (b3 ((sec t n k s).1 = true), σ2) ∧ FR (eps dw) σ σ2 ∧ σ2.1 15 2 = nI (sec t n k s).2.2.1 ∧ ((sec t n k s).1 = true → CRS dw n L t k (m + (sec t n k s).2.1.length) (q + opn (sec t n k s).2.1) (sec t n k s).2.2 σ2 ∧ σ2.1 (dw + 1) = wrs (σ.1 (dw + 1)) m (sec t n k s).2.1 ∧ ∀ j, σ2.1 (dw + 2) j = if j = k then nI (m + (sec t n k s).2.1.length) else σ.1 (dw + 2) j) := by
  obtain ⟨⟨c1, c2, c3, c4, c5⟩, c6, c7, c8, c9⟩ := id c
  have hw := x9_word c1 c6 c9.1 (w := k + 2) (by omega)
  rw [c2] at hw
  unfold f_X1_readSection
  rw [c4, Option.bind_some, hw, Option.bind_some]
  by_cases z : wrd t s (k + 2) = true
  · have z1 : s.2.2 = 1 := (wrd_iff.mp z).1
    have es : sec t n k s = (pcg t n (Nat.beq k 1) 100).2 0 0 0 (nx t n s.2.1) := if_pos z
    obtain ⟨y1, y2⟩ := pp_go c9 (by omega) (by omega)
    obtain ⟨σ4, g1, g2⟩ := x1_go c
    obtain ⟨g3, g4, g5⟩ := g2 true
    have g4 : CRS dw n L t p m q (nx t n s.2.1) σ4 := g4
    have g5 : σ4.1 (dw + 1) = σ.1 (dw + 1) := g5.trans (wrs_nil _ _)
    have C5 : CRS dw n L t k m q (nx t n s.2.1) (sI σ4 dw 5 (nI k)) := g4.to rfl (fun i => sI_ne (by omega)) (fun i => sI_ne (by omega)) ((sI_nk (by omega)).trans g4.2.2.1) ((sI_nk (by omega)).trans g4.2.2.2.1) (sI_eq _ _ _ _)
    obtain ⟨σ6, h1, h2, h3, h4⟩ := (x1_read (p := k) (by omega) 100).2 0 0 0 (by omega) (by omega) (by omega) (by omega) _ _ m q C5 (by omega)
    rw [← es] at h1 h3 h4
    have h1 : f_X1_readLevel L (sI σ4 dw 5 (nI k)) dw 0 0 0 = some (b3 ((sec t n k s).1 = true), σ6) := h1
    have hS := c1.1
    obtain ⟨lw', hR6⟩ := h3.1.1.2.1
    have r2 : σ6.2.1 dw 2 = some (dw + 2) := by
      rcases c3 with rfl | rfl
      · exact hR6.r17_2
      · exact hR6.r21_2
    have l2 : L.2.1 (dw + 2) = 3 := by
      rcases c3 with rfl | rfl
      · exact hS.l19
      · exact hS.l23
    have w8 : wI L σ6 (dw + 2) (nI k) (σ6.1 dw 1) = some (sI σ6 (dw + 2) k (σ6.1 dw 1)) := wI_nI l2 hk (by omega)
    have F1 : FR (eps dw) σ σ4 := FR.sub g3 dps_e
    have F2 : FR (eps dw) (sI σ4 dw 5 (nI k)) σ6 := FR.sub h2 dps_e
    refine ⟨sI σ6 (dw + 2) k (σ6.1 dw 1), ?_, ((F1.wr (eps_t (by omega))).tr F2).wr (eps_t (by omega)), (sI_ne (by omega)).trans h3.2.1.1, fun u => ⟨?_, ?_, fun j => ?_⟩⟩
    · rw [if_neg (by rw [b3_t z]; decide), Option.bind_some, g1, Option.bind_some]
      unfold putI
      rw [Option.bind_some, h1, Option.bind_some]
      dsimp only
      rw [r2, Option.bind_some, w8, Option.bind_some, ckb, Option.bind_some]
    · exact h3.to rfl (fun i => sI_ne (by omega)) (fun i => sI_ne (by omega)) ((sI_ne (by omega)).trans h3.2.2.1) ((sI_ne (by omega)).trans h3.2.2.2.1) ((sI_ne (by omega)).trans h3.1.2.2.2.2)
    · have a1 : (sI σ6 (dw + 2) k (σ6.1 dw 1)).1 (dw + 1) = σ6.1 (dw + 1) := funext fun i => sI_ne (by omega)
      have a2 : (sI σ4 dw 5 (nI k)).1 (dw + 1) = σ4.1 (dw + 1) := funext fun i => sI_ne (by omega)
      rw [a1, h4, a2, g5]
    · by_cases v : j = k
      · subst v
        rw [if_pos rfl, sI_eq]
        exact h3.2.2.1
      · rw [if_neg v, sI_nk v, h2.at (dps_f (by omega)), sI_ne (by omega), g3.at (dps_f (by omega))]
  · have es : sec t n k s = (false, [], s) := if_neg z
    rw [es]
    refine ⟨σ, ?_, FR.rf _ _, c6.1, fun u => by cases u⟩
    rw [b3_f z, if_pos rfl, ck0, Option.bind_some]
    rfl
end
section
variable {dw lw n : Nat} {L : Lay} {t : Nat → Int32} {σ : Sto}
theorem x1_tape (hS : SF L) (hR : RF lw σ.2.1) (hn : n ≤ 108) (e1 : σ.1 15 1 = nI n) (e16 : ∀ i, i < n → ∃ b, b < 256 ∧ σ.1 16 i = nI b) (hd : dw = 17 ∨ dw = 21) (ht : tx n σ = t) : ∃ σ2, f_X1_readTape L σ dw = some (b3 (lok t n = true), σ2) ∧ FR (eps dw) σ σ2 ∧ σ2.1 15 2 = nI (lps t n) ∧ (lok t n = true → σ2.1 dw 3 = nI (opn (sc0 t n).2.1 + opn (sc1 t n).2.1 + opn (sc2 t n).2.1) ∧ σ2.1 (dw + 1) = wrs (wrs (wrs (σ.1 (dw + 1)) 0 (sc0 t n).2.1) (sc0 t n).2.1.length (sc1 t n).2.1) ((sc0 t n).2.1.length + (sc1 t n).2.1.length) (sc2 t n).2.1 ∧ σ2.1 (dw + 2) 0 = nI (sc0 t n).2.1.length ∧ σ2.1 (dw + 2) 1 = nI ((sc0 t n).2.1.length + (sc1 t n).2.1.length) ∧ σ2.1 (dw + 2) 2 = nI ((sc0 t n).2.1.length + (sc1 t n).2.1.length + (sc2 t n).2.1.length)) := by
  obtain ⟨P0, P1, P2⟩ := sc_pp t n
  obtain ⟨pq, hpq⟩ := nI_ex (σ.1 dw 5)
  have r4 : σ.2.1 dw 4 = some 15 := by
    rcases hd with rfl | rfl
    · exact hR.r17_4
    · exact hR.r21_4
  let σ3 : Sto := sI (sI σ dw 1 0) dw 3 0
  have R3 : RF lw σ3.2.1 := hR
  have F3 : FR (eps dw) σ σ3 := ((FR.rf _ _).wr (eps_t (by omega))).wr (eps_t (by omega))
  have x16 : ∀ i, σ3.1 16 i = σ.1 16 i := fun i => F3.at (eps_f (by omega))
  have T3 : TPE n L σ3 := ⟨hS, ⟨lw, R3⟩, hn, (F3.at (eps_f (by omega))).trans e1, fun i hi => by rw [x16]; exact e16 i hi⟩
  have tx3 : tx n σ3 = t := by
    rw [← ht]
    exact clp_congr (fun i _ => x16 i)
  obtain ⟨σ5, g1, g2, g3⟩ := x9_rewind T3
  rw [tx3] at g3
  have tf : ∀ k, tps dw k = false := fun k => by rcases hd with rfl | rfl <;> rfl
  have tf1 : ∀ k, tps (dw + 1) k = false := fun k => by rcases hd with rfl | rfl <;> rfl
  have C5 : CRS dw n L t pq 0 0 (nx t n 0) σ5 := ⟨⟨T3.sc g2, (tx_sc g2).trans tx3, hd, by rw [g2.2]; exact r4, by
    rw [g2.at (tf 5), ← hpq]
    exact (sI_nk (by omega)).trans (sI_nk (by omega))⟩, g3, by
    rw [g2.at (tf 1)]
    exact (sI_nk (by omega)).trans (sI_eq _ _ _ _), by
    rw [g2.at (tf 3)]
    exact sI_eq _ _ _ _, nx_k (Nat.zero_le n)⟩
  have F5 : FR (eps dw) σ σ5 := F3.tr (FR.sub g2 (fun a k u => eps_t (Or.inl (by simp [tps] at u; omega))))
  have w5 : σ5.1 (dw + 1) = σ.1 (dw + 1) := funext fun i => by
    rw [g2.at (tf1 i)]
    exact (sI_ne (by omega)).trans (sI_ne (by omega))
  have U : f_X1_readTape L σ dw = (f_X1_readSection L σ5 dw 2 0).bind fun r6 => (if r6.1 = 0 then (ckN 1 0).bind fun _ => some (0, r6.2) else (f_X1_readSection L r6.2 dw 3 1).bind fun r7 => (if r7.1 = 0 then (ckN 1 0).bind fun _ => some (0, r7.2) else (f_X1_readSection L r7.2 dw 4 2).bind fun r8 => (if r8.1 = 0 then (ckN 1 0).bind fun _ => some (0, r8.2) else (r8.2.2.1 dw 4).bind fun x9 => (f_X9_isAtEnd L r8.2 x9).bind fun r10 => (if r10 = 0 then (ckN 1 0).bind fun _ => some (0, r8.2) else (ckN 1 1).bind fun _ => some (1, r8.2))))) := by
    unfold f_X1_readTape putI
    simp only [Option.bind_some]
    have r4' : (sI (sI σ dw 1 0) dw 3 0).2.1 dw 4 = some 15 := r4
    have g1' : f_X9_rewind L (sI (sI σ dw 1 0) dw 3 0) 15 = some σ5 := g1
    rw [r4', Option.bind_some, g1', Option.bind_some]
  rw [U]
  obtain ⟨σ6, a1, a2, a3, a4⟩ := x1_sec C5 (k := 0) (by omega) (Nat.zero_le _)
  have a1 : f_X1_readSection L σ5 dw 2 0 = some (b3 ((sc0 t n).1 = true), σ6) := a1
  have a3 : σ6.1 15 2 = nI (sc0 t n).2.2.1 := a3
  rw [a1, Option.bind_some]
  by_cases z0 : (sc0 t n).1 = true
  · obtain ⟨C6, w6, v6⟩ := a4 z0
    have C6 : CRS dw n L t 0 (0 + (sc0 t n).2.1.length) (0 + opn (sc0 t n).2.1) (sc0 t n).2.2 σ6 := C6
    rw [Nat.zero_add, Nat.zero_add] at C6
    have l0 := P0.2.1
    obtain ⟨σ7, b1, b2, b3', b4⟩ := x1_sec C6 (k := 1) (by omega) (by omega)
    have b1 : f_X1_readSection L σ6 dw 3 1 = some (b3 ((sc1 t n).1 = true), σ7) := b1
    have b3' : σ7.1 15 2 = nI (sc1 t n).2.2.1 := b3'
    dsimp only
    rw [if_neg (by rw [b3_t z0]; decide), b1, Option.bind_some]
    by_cases z1 : (sc1 t n).1 = true
    · obtain ⟨C7, w7, v7⟩ := b4 z1
      have C7 : CRS dw n L t 1 ((sc0 t n).2.1.length + (sc1 t n).2.1.length) (opn (sc0 t n).2.1 + opn (sc1 t n).2.1) (sc1 t n).2.2 σ7 := C7
      have l1 := P1.2.1
      obtain ⟨σ8, d1, d2, d3, d4⟩ := x1_sec C7 (k := 2) (by omega) (by omega)
      have d1 : f_X1_readSection L σ7 dw 4 2 = some (b3 ((sc2 t n).1 = true), σ8) := d1
      have d3 : σ8.1 15 2 = nI (sc2 t n).2.2.1 := d3
      dsimp only
      rw [if_neg (by rw [b3_t z1]; decide), d1, Option.bind_some]
      have F8 := ((F5.tr a2).tr b2).tr d2
      have ep : lps t n = (sc2 t n).2.2.1 := by
        unfold lps
        rw [if_pos z0, if_pos z1]
      by_cases z2 : (sc2 t n).1 = true
      · obtain ⟨C8, w8, v8⟩ := d4 z2
        have C8 : CRS dw n L t 2 ((sc0 t n).2.1.length + (sc1 t n).2.1.length + (sc2 t n).2.1.length) (opn (sc0 t n).2.1 + opn (sc1 t n).2.1 + opn (sc2 t n).2.1) (sc2 t n).2.2 σ8 := C8
        have s4 := C8.2.2.2.2.1.2.2.1
        have v4 : σ8.1 15 4 = nI (sc2 t n).2.2.2.2 := C8.2.1.2.2
        dsimp only
        rw [if_neg (by rw [b3_t z2]; decide), C8.1.2.2.2.1, Option.bind_some]
        unfold f_X9_isAtEnd
        rw [v4, ck1, ck0, Option.bind_some, Option.bind_some]
        by_cases z3 : (sc2 t n).2.2.2.2 = 0
        · have hk : lok t n = true := by
            unfold lok
            rw [z0, z1, z2, z3]
            rfl
          refine ⟨σ8, ?_, F8, by rw [ep]; exact d3, fun _ => ⟨C8.2.2.2.1, ?_, ?_, ?_, ?_⟩⟩
          · rw [if_pos (show nI (sc2 t n).2.2.2.2 = 0 by rw [z3]; rfl), Option.bind_some, if_neg (by decide), b3_t hk]
            rfl
          · have w8 : σ8.1 (dw + 1) = wrs (σ7.1 (dw + 1)) ((sc0 t n).2.1.length + (sc1 t n).2.1.length) (sc2 t n).2.1 := w8
            have w7 : σ7.1 (dw + 1) = wrs (σ6.1 (dw + 1)) (sc0 t n).2.1.length (sc1 t n).2.1 := w7
            have w6 : σ6.1 (dw + 1) = wrs (σ5.1 (dw + 1)) 0 (sc0 t n).2.1 := w6
            rw [w8, w7, w6, w5]
          · rw [v8 0, if_neg (by omega), v7 0, if_neg (by omega), v6 0, if_pos rfl, Nat.zero_add]
            rfl
          · rw [v8 1, if_neg (by omega), v7 1, if_pos rfl]
            rfl
          · rw [v8 2, if_pos rfl]
            rfl
        · have hk : ¬ lok t n = true := fun u => z3 (by
            unfold lok at u
            simp only [Bool.and_eq_true] at u
            exact Nat.eq_of_beq_eq_true u.2.2.2)
          refine ⟨σ8, ?_, F8, by rw [ep]; exact d3, fun u => absurd u hk⟩
          rw [if_neg (show ¬ nI (sc2 t n).2.2.2.2 = 0 from fun u => z3 ((nI_eq (b := 0) (by omega) (by omega)).mp u)), Option.bind_some, if_pos rfl, b3_f hk]
          rfl
      · have hk : ¬ lok t n = true := fun u => z2 (by
          unfold lok at u
          simp only [Bool.and_eq_true] at u
          exact u.2.2.1)
        refine ⟨σ8, ?_, F8, by rw [ep]; exact d3, fun u => absurd u hk⟩
        dsimp only
        rw [b3_f z2, if_pos rfl, ck0, Option.bind_some, b3_f hk]
    · have hk : ¬ lok t n = true := fun u => z1 (by
        unfold lok at u
        simp only [Bool.and_eq_true] at u
        exact u.2.1)
      refine ⟨σ7, ?_, (F5.tr a2).tr b2, ?_, fun u => absurd u hk⟩
      · dsimp only
        rw [b3_f z1, if_pos rfl, ck0, Option.bind_some, b3_f hk]
      · unfold lps
        rw [if_pos z0, if_neg z1]
        exact b3'
  · have hk : ¬ lok t n = true := fun u => z0 (by
      unfold lok at u
      simp only [Bool.and_eq_true] at u
      exact u.1)
    refine ⟨σ6, ?_, F5.tr a2, ?_, fun u => absurd u hk⟩
    · dsimp only
      rw [b3_f z0, if_pos rfl, ck0, Option.bind_some, b3_f hk]
    · unfold lps
      rw [if_neg z0]
      exact a3
end
