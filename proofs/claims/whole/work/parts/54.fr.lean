/-! Agreement of stores on places, frames of the invariant's modules -/
def AG (P : Nat → Nat → Bool) (σ σ' : Sto) : Prop := ∀ a k, P a k = true → σ'.1 a k = σ.1 a k
theorem AG.rf (P : Nat → Nat → Bool) (σ : Sto) : AG P σ σ := fun _ _ _ => rfl
theorem AG.tr {P : Nat → Nat → Bool} {σ σ1 σ2 : Sto} (h : AG P σ σ1) (k : AG P σ1 σ2) : AG P σ σ2 := fun a i p => (k a i p).trans (h a i p)
theorem AG.sub {P Q : Nat → Nat → Bool} {σ σ' : Sto} (h : AG P σ σ') (hq : ∀ a k, Q a k = true → P a k = true) : AG Q σ σ' := fun a k p => h a k (hq a k p)
theorem AG.wr {P : Nat → Nat → Bool} {σ σ' : Sto} {a k : Nat} {v : Int32} (h : AG P σ σ') (hp : P a k = false) : AG P σ (sI σ' a k v) := fun a' k' p => by
  rw [sI_at, if_neg (fun e => by rw [e.1, e.2, hp] at p; cases p)]
  exact h a' k' p
theorem AG.wR {P : Nat → Nat → Bool} {σ σ' : Sto} {a k : Nat} {v : Option Nat} (h : AG P σ σ') : AG P σ (sR σ' a k v) := h
theorem AG.wJ {P : Nat → Nat → Bool} {σ σ' : Sto} {a k : Nat} {v : Int64} (h : AG P σ σ') : AG P σ (sJ σ' a k v) := h
theorem sI_eq (σ : Sto) (a k : Nat) (v : Int32) : (sI σ a k v).1 a k = v := if_pos ⟨rfl, rfl⟩
theorem sI_ne {σ : Sto} {a k a' k' : Nat} {v : Int32} (h : a' ≠ a) : (sI σ a k v).1 a' k' = σ.1 a' k' := if_neg (fun e => h e.1)
theorem sI_nk {σ : Sto} {a k a' k' : Nat} {v : Int32} (h : k' ≠ k) : (sI σ a k v).1 a' k' = σ.1 a' k' := if_neg (fun e => h e.2)
theorem sR_eq (σ : Sto) (a k : Nat) (v : Option Nat) : (sR σ a k v).2.1 a k = v := if_pos ⟨rfl, rfl⟩
theorem sR_ne {σ : Sto} {a k a' k' : Nat} {v : Option Nat} (h : a' ≠ a) : (sR σ a k v).2.1 a' k' = σ.2.1 a' k' := if_neg (fun e => h e.1)
theorem sR_nk {σ : Sto} {a k a' k' : Nat} {v : Option Nat} (h : k' ≠ k) : (sR σ a k v).2.1 a' k' = σ.2.1 a' k' := if_neg (fun e => h e.2)
theorem sJ_21 (σ : Sto) (a k : Nat) (v : Int64) : (sJ σ a k v).2.1 = σ.2.1 := rfl
theorem sI_21 (σ : Sto) (a k : Nat) (v : Int32) : (sI σ a k v).2.1 = σ.2.1 := rfl
theorem sI_22 (σ : Sto) (a k : Nat) (v : Int32) : (sI σ a k v).2.2 = σ.2.2 := rfl
theorem sJ_eq (σ : Sto) (a k : Nat) (v : Int64) : (sJ σ a k v).2.2 a k = v := if_pos ⟨rfl, rfl⟩
/-- places that nobody keeps -/
def scr (a k : Nat) : Bool := Nat.beq a 7 || Nat.beq a 8 || Nat.beq a 10 || Nat.beq a 11 || Nat.beq a 12 || Nat.beq a 13 || Nat.beq a 14 || Nat.beq a 17 || Nat.beq a 20 || Nat.beq a 21 || Nat.beq a 24 || Nat.beq a 26 || Nat.beq a 32 || (Nat.ble 70 a && Nat.ble a 79) || (Nat.beq a 15 && Nat.ble 2 k) || (Nat.beq a 28 && Nat.ble 5 k) || (Nat.beq a 37 && (Nat.beq k 47 || Nat.ble 52 k))
def psv (a k : Nat) : Bool := !scr a k
/-- alike but for what nobody keeps -/
def SC (σ σ' : Sto) : Prop := AG psv σ σ' ∧ σ'.2.1 = σ.2.1
theorem SC.rf (σ : Sto) : SC σ σ := ⟨AG.rf _ _, rfl⟩
theorem SC.tr {σ σ1 σ2 : Sto} (h : SC σ σ1) (k : SC σ1 σ2) : SC σ σ2 := ⟨h.1.tr k.1, k.2.trans h.2⟩
theorem SC.wr {σ σ' : Sto} {a k : Nat} {v : Int32} (h : SC σ σ') (hp : scr a k = true) : SC σ (sI σ' a k v) := ⟨h.1.wr (by unfold psv; rw [hp]; rfl), h.2⟩
theorem SC.wJ {σ σ' : Sto} {a k : Nat} {v : Int64} (h : SC σ σ') : SC σ (sJ σ' a k v) := h
theorem SC.at {σ σ' : Sto} (h : SC σ σ') {a k : Nat} (hp : scr a k = false) : σ'.1 a k = σ.1 a k := h.1 a k (by unfold psv; rw [hp]; rfl)
theorem scr_cases {a k : Nat} (h : scr a k = true) : (a = 7 ∨ a = 8 ∨ a = 10 ∨ a = 11 ∨ a = 12 ∨ a = 13 ∨ a = 14 ∨ a = 17 ∨ a = 20 ∨ a = 21 ∨ a = 24 ∨ a = 26 ∨ a = 32 ∨ (70 ≤ a ∧ a ≤ 79)) ∨ (a = 15 ∧ 2 ≤ k) ∨ (a = 28 ∧ 5 ≤ k) ∨ (a = 37 ∧ (k = 47 ∨ 52 ≤ k)) := by
  simp [scr] at h
  omega
theorem pf_of {b : Bool} (h : ¬ b = true) : b = false := by
  cases b
  · rfl
  · exact absurd rfl h
theorem scr_hi {a k : Nat} (h : 80 ≤ a) : scr a k = false := pf_of (fun q => by have := scr_cases q; omega)
theorem SC.hi {σ σ' : Sto} (h : SC σ σ') (r k c : Nat) : σ'.1 (r + 80 + c) k = σ.1 (r + 80 + c) k := h.at (scr_hi (by omega))
/-! each module's places -/
def pNUM (a k : Nat) : Bool := (Nat.beq a 1 && (Nat.beq k 1 || Nat.beq k 3 || Nat.beq k 4)) || (Nat.beq a 37 && (Nat.beq k 1 || Nat.beq k 2 || Nat.beq k 4 || Nat.beq k 13 || Nat.beq k 16 || Nat.beq k 25 || Nat.beq k 29 || Nat.beq k 39)) || (Nat.beq a 4 && Nat.beq k 3) || (Nat.beq a 0 && (Nat.beq k 3 || Nat.beq k 11)) || (Nat.beq a 15 && Nat.beq k 1) || (Nat.beq a 28 && Nat.beq k 3)
theorem NUM.fr {nb nm nl nB nN td nt nw : Nat} {σ σ' : Sto} (h : NUM nb nm nl nB nN td nt nw σ) (e : AG pNUM σ σ') : NUM nb nm nl nB nN td nt nw σ' := by
  obtain ⟨h0, ⟨a1, a2⟩, ⟨b1, b2⟩, ⟨c1, c2⟩, ⟨d1, d2⟩, ⟨e1, e2⟩, ⟨f1, f2⟩, ⟨g1, g2⟩, i1, i2⟩ := h
  exact ⟨h0, ⟨(e _ _ rfl).trans a1, (e _ _ rfl).trans a2⟩, ⟨(e _ _ rfl).trans b1, (e _ _ rfl).trans b2⟩, ⟨(e _ _ rfl).trans c1, (e _ _ rfl).trans c2⟩, ⟨(e _ _ rfl).trans d1, (e _ _ rfl).trans d2⟩, ⟨(e _ _ rfl).trans e1, (e _ _ rfl).trans e2⟩, ⟨(e _ _ rfl).trans f1, (e _ _ rfl).trans f2⟩, ⟨(e _ _ rfl).trans g1, (e _ _ rfl).trans g2⟩, (e _ _ rfl).trans i1, (e _ _ rfl).trans i2⟩
def pBRA (a _k : Nat) : Bool := Nat.beq a 2 || Nat.beq a 38
theorem BRA.fr {nb : Nat} {σ σ' : Sto} (h : BRA nb σ) (e : AG pBRA σ σ') : BRA nb σ' := fun i hi => by
  rw [e 2 i rfl, e 38 i rfl]; exact h i hi
def pLIN (a _k : Nat) : Bool := Nat.beq a 5 || Nat.beq a 6 || Nat.beq a 47 || Nat.beq a 48
theorem LIN.fr {nl : Nat} {σ σ' : Sto} (h : LIN nl σ) (e : AG pLIN σ σ') : LIN nl σ' := fun i hi => by
  rw [e 5 i rfl, e 6 i rfl, e 47 i rfl, e 48 i rfl]; exact h i hi
def pTAP (a _k : Nat) : Bool := Nat.beq a 16 || Nat.beq a 55
theorem TAP.fr {nt : Nat} {σ σ' : Sto} (h : TAP nt σ) (e : AG pTAP σ σ') : TAP nt σ' := fun i hi => by
  rw [e 16 i rfl, e 55 i rfl]; exact h i hi
def pHAR (a _k : Nat) : Bool := Nat.beq a 29 || Nat.beq a 63
theorem HAR.fr {σ σ' : Sto} (h : HAR σ) (e : AG pHAR σ σ') : HAR σ' := fun i hi => by
  rw [e 29 i rfl, e 63 i rfl]; exact h i hi
def pRUL (a _k : Nat) : Bool := Nat.beq a 30 || Nat.beq a 64 || Nat.beq a 65 || Nat.beq a 66
theorem RUL.fr {σ σ' : Sto} (h : RUL σ) (e : AG pRUL σ σ') : RUL σ' := fun i hi => by
  rw [e 30 i rfl, e 64 i rfl, e 65 i rfl, e 66 i rfl]; exact h i hi
def pWAI (a _k : Nat) : Bool := Nat.beq a 31 || Nat.beq a 67
theorem WAI.fr {nw : Nat} {σ σ' : Sto} (h : WAI nw σ) (e : AG pWAI σ σ') : WAI nw σ' := fun i hi => by
  rw [e 31 i rfl, e 67 i rfl]; exact h i hi
def pSHE (a _k : Nat) : Bool := Nat.beq a 33 || Nat.beq a 34 || Nat.beq a 35 || Nat.beq a 36 || Nat.beq a 68 || Nat.beq a 69
theorem SHE.fr {σ σ' : Sto} (h : SHE σ) (e : AG pSHE σ σ') : SHE σ' := by
  obtain ⟨⟨⟨a1, a2⟩, a3⟩, ⟨⟨b1, b2⟩, b3⟩⟩ := h
  refine ⟨⟨⟨?_, ?_⟩, fun i hi => ?_⟩, ⟨⟨?_, ?_⟩, fun i hi => ?_⟩⟩
  · rw [e 33 1 rfl, e 68 0 rfl]; exact a1
  · rw [e 68 0 rfl]; exact a2
  · rw [e 34 i rfl, e 69 _ rfl]; exact a3 i hi
  · rw [e 35 1 rfl, e 68 1 rfl]; exact b1
  · rw [e 68 1 rfl]; exact b2
  · rw [e 36 i rfl, e 69 _ rfl]; exact b3 i hi
def pMEM1 (w : Nat → Nat) (N i a k : Nat) : Bool := ((Nat.ble 39 a && Nat.ble a 44) && Nat.beq k i) || ((Nat.beq a 45 || Nat.beq a 46) && (Nat.ble (7 * i) k && Nat.ble k (7 * i + 6))) || ((Nat.ble 80 a && Nat.blt a N) && Nat.beq (w (a - 80)) i)
theorem pMEM1_d {w : Nat → Nat} {N i r k : Nat} (h : w r = i) (hN : r + 80 < N) : pMEM1 w N i (r + 80) k = true := by
  simp [pMEM1, h, hN]
theorem pMEM1_r {w : Nat → Nat} {N i a k : Nat} (ha : a = 45 ∨ a = 46) (h1 : 7 * i ≤ k) (h2 : k ≤ 7 * i + 6) : pMEM1 w N i a k = true := by
  simp [pMEM1, ha, h1, h2]
theorem pMEM1_a {w : Nat → Nat} {N i a : Nat} (h1 : 39 ≤ a) (h2 : a ≤ 44) : pMEM1 w N i a i = true := by
  simp [pMEM1, h1, h2]
theorem MEM1.fr {nb td nb' td' : Nat} {w w' : Nat → Nat} {L L' : Lay} {σ σ' : Sto} {i r mv c : Nat} (h : MEM1 nb td w L σ i r mv c) (hl : LE L L') (hw : ∀ q, q + 80 < L.2.2.1 → w' q = w q) (hb : nb ≤ nb') (ht : td ≤ td') (e : AG (pMEM1 w L.2.2.1 i) σ σ') (er : σ'.2.1 3 i = σ.2.1 3 i) (ed : ∀ a k, 80 ≤ a → a < L.2.2.1 → σ'.2.1 a k = σ.2.1 a k) : MEM1 nb' td' w' L' σ' i r mv c := by
  obtain ⟨⟨m1, m2, m3, m4, m5⟩, ⟨m6, m7, m8, m9⟩, ⟨m10, m11, m12, m13, m14, m15⟩, m16, ⟨m17, m18, m19, m20, m21⟩, m22, m23, m24⟩ := h
  have e0 : ∀ k, σ'.1 (r + 80) k = σ.1 (r + 80) k := fun k => e _ _ (pMEM1_d m3 (by omega))
  have e1 : ∀ k, σ'.1 (r + 81) k = σ.1 (r + 81) k := fun k => e _ _ (pMEM1_d (r := r + 1) m4 (by omega))
  have e2 : ∀ k, σ'.1 (r + 82) k = σ.1 (r + 82) k := fun k => e _ _ (pMEM1_d (r := r + 2) m5 (by omega))
  have f : ∀ a, 39 ≤ a → a ≤ 44 → σ'.1 a i = σ.1 a i := fun a h1 h2 => e _ _ (pMEM1_a h1 h2)
  have g5 : ∀ k, k ≤ 6 → σ'.1 45 (7 * i + k) = σ.1 45 (7 * i + k) := fun k hk => e _ _ (pMEM1_r (Or.inl rfl) (by omega) (by omega))
  have g6 : ∀ k, k ≤ 6 → σ'.1 46 (7 * i + k) = σ.1 46 (7 * i + k) := fun k hk => e _ _ (pMEM1_r (Or.inr rfl) (by omega) (by omega))
  have g50 := g5 0 (by omega)
  have g60 := g6 0 (by omega)
  rw [Nat.add_zero] at g50 g60
  have hl0 := hl.1
  refine ⟨⟨er.trans m1, by omega, (hw _ (by omega)).trans m3, (hw _ (by omega)).trans m4, (hw _ (by omega)).trans m5⟩, ⟨(ed _ _ (by omega) (by omega)).trans m6, (ed _ _ (by omega) (by omega)).trans m7, ((hl.2.2 _ (by omega)).2).trans m8, ((hl.2.2 _ (by omega)).2).trans m9⟩, ?_, ?_, ?_, ?_, ?_, ?_⟩
  · rw [e0, e0, e0, e0, f 39 (by omega) (by omega), f 40 (by omega) (by omega), f 41 (by omega) (by omega), f 42 (by omega) (by omega)]
    exact ⟨m10, m11, m12, m13, m14, by omega⟩
  · rw [e0, f 43 (by omega) (by omega)]
    rcases m16 with q | ⟨d, q1, q2⟩
    · exact Or.inl q
    · exact Or.inr ⟨d, by omega, q2⟩
  · rw [e0, e0, f 44 (by omega) (by omega), g50, g60]
    exact ⟨m17, m18, m19, m20, m21⟩
  · intro k hk
    obtain ⟨q1, q2, d, q3, q4, q5⟩ := m22 k hk
    have g5k := g5 (k + 1) (by omega)
    have g6k := g6 (k + 1) (by omega)
    rw [← Nat.add_assoc] at g5k g6k
    rw [e1, e2, g5k, g6k]
    exact ⟨q1, q2, d, q3, by omega, q5⟩
  · intro k hk
    obtain ⟨b, q1, q2⟩ := m23 k hk
    exact ⟨b, by omega, (g5 k (by omega)).trans q2⟩
  · rw [f 40 (by omega) (by omega), f 41 (by omega) (by omega)]
    exact m24
theorem MEM.fr {nb nm td nb' td' : Nat} {w w' : Nat → Nat} {L L' : Lay} {σ σ' : Sto} (h : MEM nb nm td w L σ) (hl : LE L L') (hw : ∀ q, q + 80 < L.2.2.1 → w' q = w q) (hb : nb ≤ nb') (ht : td ≤ td') (e : ∀ i, i < nm → AG (pMEM1 w L.2.2.1 i) σ σ') (er : ∀ i, i < nm → σ'.2.1 3 i = σ.2.1 3 i) (ed : ∀ a k, 80 ≤ a → a < L.2.2.1 → σ'.2.1 a k = σ.2.1 a k) : MEM nb' nm td' w' L' σ' := fun i hi => by
  obtain ⟨r, mv, c, q⟩ := h i hi
  exact ⟨r, mv, c, q.fr hl hw hb ht (e i hi) (er i hi) ed⟩
/-- the simple case: nothing new, references as they were -/
theorem MEM.f {nb nm td nb' td' : Nat} {w : Nat → Nat} {L : Lay} {σ σ' : Sto} (h : MEM nb nm td w L σ) (hb : nb ≤ nb') (ht : td ≤ td') (e : ∀ i, i < nm → AG (pMEM1 w L.2.2.1 i) σ σ') (er : σ'.2.1 = σ.2.1) : MEM nb' nm td' w L σ' := h.fr (LE.rf L) (fun _ _ => rfl) hb ht e (fun i _ => by rw [er]) (fun a k _ _ => by rw [er])
def pBAL1 (w : Nat → Nat) (N j a k : Nat) : Bool := ((Nat.ble 49 a && Nat.ble a 51) && Nat.beq k j) || ((Nat.ble 52 a && Nat.ble a 54) && (Nat.ble (40 * j) k && Nat.ble k (40 * j + 39))) || ((Nat.ble 80 a && Nat.blt a N) && Nat.beq (w (a - 80)) (40 + j))
theorem pBAL1_d {w : Nat → Nat} {N j r k : Nat} (h : w r = 40 + j) (hN : r + 80 < N) : pBAL1 w N j (r + 80) k = true := by
  simp [pBAL1, h, hN]
theorem pBAL1_r {w : Nat → Nat} {N j a k : Nat} (h0 : 52 ≤ a) (h3 : a ≤ 54) (h1 : 40 * j ≤ k) (h2 : k ≤ 40 * j + 39) : pBAL1 w N j a k = true := by
  simp [pBAL1, h0, h3, h1, h2]
theorem pBAL1_a {w : Nat → Nat} {N j a : Nat} (h1 : 49 ≤ a) (h2 : a ≤ 51) : pBAL1 w N j a j = true := by
  simp [pBAL1, h1, h2]
theorem itr_congr {α : Type} {f g : Nat → α → α} : ∀ n a, (∀ i, i < n → ∀ x, f i x = g i x) → itr f n a = itr g n a
  | 0, _, _ => rfl
  | n + 1, a, h => by
    unfold itr
    rw [itr_congr n a (fun i hi => h i (Nat.lt_succ_of_lt hi)), h n (Nat.lt_succ_self n)]
theorem cps_congr {σ σ' : Sto} {j n : Nat} (h : ∀ m, m < n → (σ'.1 52 (40 * j + m) = -1 ↔ σ.1 52 (40 * j + m) = -1)) : cps σ' j n = cps σ j n :=
  itr_congr n 0 (fun m hm x => by
    by_cases q : σ.1 52 (40 * j + m) = -1
    · rw [b3_f (p := ¬ σ'.1 52 (40 * j + m) = -1) (fun z => z ((h m hm).mpr q)), b3_f (p := ¬ σ.1 52 (40 * j + m) = -1) (fun z => z q)]
    · rw [b3_t (p := ¬ σ'.1 52 (40 * j + m) = -1) (fun z => q ((h m hm).mp z)), b3_t q])
theorem PAP.fr {nm td nm' td' o : Nat} {σ σ' : Sto} {j r m : Nat} (h : PAP nm td o σ j r m) (hm : nm ≤ nm') (ht : td ≤ td') (a1 : σ'.1 52 (40 * j + m) = σ.1 52 (40 * j + m)) (a2 : σ'.1 53 (40 * j + m) = σ.1 53 (40 * j + m)) (a3 : σ'.1 54 (40 * j + m) = σ.1 54 (40 * j + m)) (b1 : σ'.1 (r + 81) m = σ.1 (r + 81) m) (b2 : σ'.1 (r + 82) m = σ.1 (r + 82) m) (b3 : σ'.1 (r + 83) m = σ.1 (r + 83) m) : PAP nm' td' o σ' j r m := by
  unfold PAP
  rw [a1, a2, a3, b1, b2, b3]
  rcases h with h | ⟨q1, d, q2, q3, q4, q5, q6⟩
  · exact Or.inl h
  · refine Or.inr ⟨by omega, d, q2, by omega, q4, q5, ?_⟩
    rcases q6 with q | ⟨h, e, z1, z2, z3, z4⟩
    · exact Or.inl q
    · exact Or.inr ⟨h, e, z1, z2, by omega, z4⟩
theorem BAL1.fr {nb nm td nb' td' : Nat} {w w' : Nat → Nat} {L L' : Lay} {σ σ' : Sto} {j r o : Nat} (h : BAL1 nb nm td w L σ j r o) (hn : nm ≤ 40) (hl : LE L L') (hw : ∀ q, q + 80 < L.2.2.1 → w' q = w q) (hb : nb ≤ nb') (ht : td ≤ td') (e : AG (pBAL1 w L.2.2.1 j) σ σ') (er : σ'.2.1 9 j = σ.2.1 9 j) (ed : ∀ a k, 80 ≤ a → a < L.2.2.1 → σ'.2.1 a k = σ.2.1 a k) : BAL1 nb' nm td' w' L' σ' j r o := by
  obtain ⟨⟨m1, m2, m3, m4, m5, m6⟩, ⟨m7, m8, m9, m10⟩, ⟨m11, m12, m13⟩, ⟨m14, ⟨z, m15, m16⟩, m17, m18, m19⟩, m20, m21, m22⟩ := h
  have e0 : ∀ k, σ'.1 (r + 80) k = σ.1 (r + 80) k := fun k => e _ _ (pBAL1_d m3 (by omega))
  have e1 : ∀ k, σ'.1 (r + 81) k = σ.1 (r + 81) k := fun k => e _ _ (pBAL1_d (r := r + 1) m4 (by omega))
  have e2 : ∀ k, σ'.1 (r + 82) k = σ.1 (r + 82) k := fun k => e _ _ (pBAL1_d (r := r + 2) m5 (by omega))
  have e3 : ∀ k, σ'.1 (r + 83) k = σ.1 (r + 83) k := fun k => e _ _ (pBAL1_d (r := r + 3) m6 (by omega))
  have f : ∀ a, 49 ≤ a → a ≤ 51 → σ'.1 a j = σ.1 a j := fun a h1 h2 => e _ _ (pBAL1_a h1 h2)
  have g : ∀ a m, 52 ≤ a → a ≤ 54 → m < 40 → σ'.1 a (40 * j + m) = σ.1 a (40 * j + m) := fun a m h1 h2 hm => e _ _ (pBAL1_r h1 h2 (by omega) (by omega))
  have hl0 := hl.1
  have hz : 2 ^ nb ≤ 2 ^ nb' := Nat.pow_le_pow_right (by omega) hb
  refine ⟨⟨er.trans m1, by omega, (hw _ (by omega)).trans m3, (hw _ (by omega)).trans m4, (hw _ (by omega)).trans m5, (hw _ (by omega)).trans m6⟩, ⟨(ed _ _ (by omega) (by omega)).trans m7, (ed _ _ (by omega) (by omega)).trans m8, (ed _ _ (by omega) (by omega)).trans m9, (ed _ _ (by omega) (by omega)).trans m10⟩, ⟨((hl.2.2 _ (by omega)).2).trans m11, ((hl.2.2 _ (by omega)).2).trans m12, ((hl.2.2 _ (by omega)).2).trans m13⟩, ?_, ?_, ?_, ?_⟩
  · rw [e0, e0, f 49 (by omega) (by omega), f 50 (by omega) (by omega)]
    exact ⟨m14, ⟨z, by omega, m16⟩, m17, m18, by omega⟩
  · rw [e0, f 51 (by omega) (by omega)]
    rcases m20 with q | ⟨d, q1, q2, q3⟩
    · exact Or.inl q
    · exact Or.inr ⟨d, q1, by omega, q3⟩
  · rw [e0, m21]
    exact (cps_congr (fun m hm => by rw [g 52 m (by omega) (by omega) (by omega)])).symm
  · intro m hm
    exact (m22 m hm).fr (Nat.le_refl _) ht (g 52 m (by omega) (by omega) hm) (g 53 m (by omega) (by omega) hm) (g 54 m (by omega) (by omega) hm) (e1 m) (e2 m) (e3 m)
theorem BAL.fr {nb nm nB td nb' td' : Nat} {w w' : Nat → Nat} {L L' : Lay} {σ σ' : Sto} (h : BAL nb nm nB td w L σ) (hn : nm ≤ 40) (hl : LE L L') (hw : ∀ q, q + 80 < L.2.2.1 → w' q = w q) (hb : nb ≤ nb') (ht : td ≤ td') (e : ∀ j, j < nB → AG (pBAL1 w L.2.2.1 j) σ σ') (er : ∀ j, j < nB → σ'.2.1 9 j = σ.2.1 9 j) (ed : ∀ a k, 80 ≤ a → a < L.2.2.1 → σ'.2.1 a k = σ.2.1 a k) : BAL nb' nm nB td' w' L' σ' := fun j hj => by
  obtain ⟨r, o, q⟩ := h j hj
  exact ⟨r, o, q.fr hn hl hw hb ht (e j hj) (er j hj) ed⟩
theorem BAL.f {nb nm nB td nb' td' : Nat} {w : Nat → Nat} {L : Lay} {σ σ' : Sto} (h : BAL nb nm nB td w L σ) (hn : nm ≤ 40) (hb : nb ≤ nb') (ht : td ≤ td') (e : ∀ j, j < nB → AG (pBAL1 w L.2.2.1 j) σ σ') (er : σ'.2.1 = σ.2.1) : BAL nb' nm nB td' w L σ' := h.fr hn (LE.rf L) (fun _ _ => rfl) hb ht e (fun i _ => by rw [er]) (fun a k _ _ => by rw [er])
def pNOT1 (w : Nat → Nat) (N j a k : Nat) : Bool := ((Nat.ble 58 a && Nat.ble a 62) && Nat.beq k j) || ((Nat.ble 80 a && Nat.blt a N) && Nat.beq (w (a - 80)) (52 + j))
theorem NOT1.fr {nB td nB' td' : Nat} {w w' : Nat → Nat} {L L' : Lay} {σ σ' : Sto} {j r b g f : Nat} (h : NOT1 nB td w L σ j r b g f) (hl : LE L L') (hw : ∀ q, q + 80 < L.2.2.1 → w' q = w q) (hb : nB ≤ nB') (ht : td ≤ td') (e : AG (pNOT1 w L.2.2.1 j) σ σ') (er : σ'.2.1 27 j = σ.2.1 27 j) : NOT1 nB' td' w' L' σ' j r b g f := by
  obtain ⟨⟨m1, m2, m3⟩, ⟨m4, m5, m6, m7⟩, ⟨m8, m9⟩, ⟨m10, m11⟩, ⟨m12, m13⟩, m14, m15⟩ := h
  have hN : r + 80 < L.2.2.1 := by omega
  have e0 : ∀ k, σ'.1 (r + 80) k = σ.1 (r + 80) k := fun k => e _ _ (by simp [pNOT1, m3, hN])
  have f : ∀ a, 58 ≤ a → a ≤ 62 → σ'.1 a j = σ.1 a j := fun a h1 h2 => e _ _ (by simp [pNOT1, h1, h2])
  have hl0 := hl.1
  refine ⟨⟨er.trans m1, by omega, (hw _ (by omega)).trans m3⟩, ⟨by omega, by omega, m6, m7⟩, ?_⟩
  rw [e0, e0, e0, e0, e0, f 58 (by omega) (by omega), f 59 (by omega) (by omega), f 60 (by omega) (by omega), f 61 (by omega) (by omega), f 62 (by omega) (by omega)]
  exact ⟨⟨m8, m9⟩, ⟨m10, m11⟩, ⟨m12, m13⟩, m14, m15⟩
theorem NOT.fr {nB nN td nB' td' : Nat} {w w' : Nat → Nat} {L L' : Lay} {σ σ' : Sto} (h : NOT nB nN td w L σ) (hl : LE L L') (hw : ∀ q, q + 80 < L.2.2.1 → w' q = w q) (hb : nB ≤ nB') (ht : td ≤ td') (e : ∀ j, j < nN → AG (pNOT1 w L.2.2.1 j) σ σ') (er : ∀ j, j < nN → σ'.2.1 27 j = σ.2.1 27 j) : NOT nB' nN td' w' L' σ' := fun j hj => by
  obtain ⟨r, b, g, f, q⟩ := h j hj
  exact ⟨r, b, g, f, q.fr hl hw hb ht (e j hj) (er j hj)⟩
theorem NOT.f {nB nN td nB' td' : Nat} {w : Nat → Nat} {L : Lay} {σ σ' : Sto} (h : NOT nB nN td w L σ) (hb : nB ≤ nB') (ht : td ≤ td') (e : ∀ j, j < nN → AG (pNOT1 w L.2.2.1 j) σ σ') (er : σ'.2.1 = σ.2.1) : NOT nB' nN td' w L σ' := h.fr (LE.rf L) (fun _ _ => rfl) hb ht e (fun i _ => by rw [er])
