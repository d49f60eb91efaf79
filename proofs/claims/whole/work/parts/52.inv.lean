/-! More of numbers -/
theorem mul_lit (n m : Nat) : (no_index (OfNat.ofNat n) : Int32) * nI m = nI (OfNat.ofNat n * m) := pk_mul n m
theorem add_lit (m n : Nat) : nI m + (no_index (OfNat.ofNat n) : Int32) = nI (m + OfNat.ofNat n) := nI_add m n
theorem nle_l {a n : Nat} (ha : a < 2 ^ 31) (hn : OfNat.ofNat n < 2 ^ 31) : (nI a ≤ (no_index (OfNat.ofNat n) : Int32)) ↔ a ≤ OfNat.ofNat n := nI_leI ha hn
theorem nle_r {a n : Nat} (ha : a < 2 ^ 31) (hn : OfNat.ofNat n < 2 ^ 31) : ((no_index (OfNat.ofNat n) : Int32) ≤ nI a) ↔ OfNat.ofNat n ≤ a := nI_leI hn ha
theorem nlt_l {a n : Nat} (ha : a < 2 ^ 31) (hn : OfNat.ofNat n < 2 ^ 31) : (nI a < (no_index (OfNat.ofNat n) : Int32)) ↔ a < OfNat.ofNat n := nI_ltI ha hn
theorem nlt_r {a n : Nat} (ha : a < 2 ^ 31) (hn : OfNat.ofNat n < 2 ^ 31) : ((no_index (OfNat.ofNat n) : Int32) < nI a) ↔ OfNat.ofNat n < a := nI_ltI hn ha
theorem neq_l {a n : Nat} (ha : a < 2 ^ 31) (hn : OfNat.ofNat n < 2 ^ 31) : (nI a = (no_index (OfNat.ofNat n) : Int32)) ↔ a = OfNat.ofNat n := nI_eq ha hn
theorem neq_r {a n : Nat} (ha : a < 2 ^ 31) (hn : OfNat.ofNat n < 2 ^ 31) : ((no_index (OfNat.ofNat n) : Int32) = nI a) ↔ OfNat.ofNat n = a := nI_eq hn ha
theorem nI_nneg {a : Nat} (ha : a < 2 ^ 31) {x : Int32} (hx : x < 0) : ¬ nI a = x := fun e => nI_pos ha (e ▸ hx)
theorem nI_m1 {a : Nat} (ha : a < 2 ^ 31) : (nI a = -1) ↔ False := iff_false_intro (nI_nneg ha (by decide))
theorem nI_mN {a : Nat} (ha : a < 2 ^ 31) : (nI a = -1000000005) ↔ False := iff_false_intro (nI_nneg ha (by decide))
theorem nI_lt0 {a : Nat} (ha : a < 2 ^ 31) : (nI a < 0) ↔ False := iff_false_intro (nI_pos ha)
/-! What holds between class and reference: counts, branches, members, lines, ballots, tape, notices, plan, sheets -/
def NUM (nb nm nl nB nN td nt nw : Nat) (σ : Sto) : Prop :=
  (nb ≤ 6 ∧ nm ≤ 40 ∧ nl ≤ 40 ∧ nB ≤ 12 ∧ nN ≤ 12 ∧ td ≤ 400 ∧ nt ≤ 108 ∧ nw ≤ 30) ∧
  (σ.1 1 1 = nI nb ∧ σ.1 37 2 = nI nb) ∧ (σ.1 1 3 = nI nm ∧ σ.1 37 4 = nI nm) ∧ (σ.1 4 3 = nI nl ∧ σ.1 37 13 = nI nl) ∧
  (σ.1 0 3 = nI nB ∧ σ.1 37 16 = nI nB) ∧ (σ.1 0 11 = nI nN ∧ σ.1 37 29 = nI nN) ∧ (σ.1 1 4 = nI td ∧ σ.1 37 1 = nI td) ∧
  (σ.1 15 1 = nI nt ∧ σ.1 37 25 = nI nt) ∧ (σ.1 28 3 = nI nw ∧ σ.1 37 39 = nI nw)
def BRA (nb : Nat) (σ : Sto) : Prop := ∀ i, i < nb → σ.1 2 i = σ.1 38 i
def MEM1 (nb td : Nat) (w : Nat → Nat) (L : Lay) (σ : Sto) (i r mv c : Nat) : Prop :=
  (σ.2.1 3 i = some (r + 80) ∧ r + 83 ≤ L.2.2.1 ∧ w r = i ∧ w (r + 1) = i ∧ w (r + 2) = i) ∧
  (σ.2.1 (r + 80) 6 = some (r + 81) ∧ σ.2.1 (r + 80) 7 = some (r + 82) ∧ L.2.1 (r + 81) = 6 ∧ L.2.1 (r + 82) = 6) ∧
  (σ.1 (r + 80) 0 = σ.1 39 i ∧ σ.1 (r + 80) 1 = σ.1 40 i ∧ σ.1 (r + 80) 2 = σ.1 41 i ∧ σ.1 (r + 80) 3 = nI c ∧ σ.1 42 i = nI c ∧ c ≤ td) ∧
  ((σ.1 43 i = -1 ∧ σ.1 (r + 80) 4 = 401) ∨ ∃ d, d ≤ td ∧ σ.1 43 i = nI d ∧ σ.1 (r + 80) 4 = nI d) ∧
  (mv ≤ 6 ∧ σ.1 (r + 80) 8 = nI mv ∧ σ.1 44 i = nI (mv + 1) ∧ σ.1 (r + 80) 5 = σ.1 45 (7 * i) ∧ σ.1 46 (7 * i) = nI c) ∧
  (∀ k, k < mv → σ.1 (r + 81) k = σ.1 46 (7 * i + k + 1) ∧ σ.1 (r + 82) k = σ.1 45 (7 * i + k + 1) ∧ ∃ d, c ≤ d ∧ d ≤ td ∧ σ.1 46 (7 * i + k + 1) = nI d) ∧
  (∀ k, k ≤ mv → ∃ b, b < nb ∧ σ.1 45 (7 * i + k) = nI b) ∧
  (∃ h g, h ≤ 48 ∧ g ≤ 999 ∧ σ.1 40 i = nI h ∧ σ.1 41 i = nI g)
def MEM (nb nm td : Nat) (w : Nat → Nat) (L : Lay) (σ : Sto) : Prop := ∀ i, i < nm → ∃ r mv c, MEM1 nb td w L σ i r mv c
def LIN (nl : Nat) (σ : Sto) : Prop := ∀ i, i < nl → σ.1 5 i = σ.1 47 i ∧ σ.1 6 i = σ.1 48 i
/-- papers sent -/
def cps (σ : Sto) (j n : Nat) : Int32 := itr (fun m a => a + b3 (¬ σ.1 52 (40 * j + m) = -1)) n 0
def PAP (nm td o : Nat) (σ : Sto) (j r m : Nat) : Prop :=
  (σ.1 52 (40 * j + m) = -1 ∧ σ.1 (r + 81) m = 401 ∧ σ.1 53 (40 * j + m) = -1 ∧ σ.1 (r + 82) m = 401) ∨
  (m < nm ∧ ∃ d, o ≤ d ∧ d ≤ td ∧ σ.1 52 (40 * j + m) = nI d ∧ σ.1 (r + 81) m = nI d ∧
    ((σ.1 53 (40 * j + m) = -1 ∧ σ.1 (r + 82) m = 401) ∨
     ∃ h e, h ≤ 3 ∧ d ≤ e ∧ e ≤ td ∧ σ.1 53 (40 * j + m) = nI h ∧ σ.1 (r + 83) m = nI h ∧ σ.1 54 (40 * j + m) = nI e ∧ σ.1 (r + 82) m = nI e))
def BAL1 (nb nm td : Nat) (w : Nat → Nat) (L : Lay) (σ : Sto) (j r o : Nat) : Prop :=
  (σ.2.1 9 j = some (r + 80) ∧ r + 84 ≤ L.2.2.1 ∧ w r = 40 + j ∧ w (r + 1) = 40 + j ∧ w (r + 2) = 40 + j ∧ w (r + 3) = 40 + j) ∧
  (σ.2.1 (r + 80) 0 = some 1 ∧ σ.2.1 (r + 80) 5 = some (r + 81) ∧ σ.2.1 (r + 80) 6 = some (r + 82) ∧ σ.2.1 (r + 80) 7 = some (r + 83)) ∧
  (L.2.1 (r + 81) = 40 ∧ L.2.1 (r + 82) = 40 ∧ L.2.1 (r + 83) = 40) ∧
  (σ.1 (r + 80) 1 = σ.1 49 j ∧ (∃ z, z < 2 ^ nb ∧ σ.1 49 j = nI z) ∧ σ.1 (r + 80) 2 = nI o ∧ σ.1 50 j = nI o ∧ o ≤ td) ∧
  ((σ.1 51 j = -1 ∧ σ.1 (r + 80) 3 = 401) ∨ ∃ d, o ≤ d ∧ d ≤ td ∧ σ.1 51 j = nI d ∧ σ.1 (r + 80) 3 = nI d) ∧
  σ.1 (r + 80) 4 = cps σ j nm ∧ (∀ m, m < 40 → PAP nm td o σ j r m)
def BAL (nb nm nB td : Nat) (w : Nat → Nat) (L : Lay) (σ : Sto) : Prop := ∀ j, j < nB → ∃ r o, BAL1 nb nm td w L σ j r o
def TAP (nt : Nat) (σ : Sto) : Prop := ∀ i, i < nt → ∃ b, b < 256 ∧ σ.1 16 i = nI b ∧ σ.1 55 i = nI b
def NOT1 (nB td : Nat) (w : Nat → Nat) (L : Lay) (σ : Sto) (j r b g f : Nat) : Prop :=
  (σ.2.1 27 j = some (r + 80) ∧ r + 81 ≤ L.2.2.1 ∧ w r = 52 + j) ∧ (b < nB ∧ g ≤ td ∧ g ≤ f ∧ f ≤ 400) ∧
  (σ.1 (r + 80) 0 = nI b ∧ σ.1 58 j = nI b) ∧ (σ.1 (r + 80) 1 = nI g ∧ σ.1 59 j = nI g) ∧ (σ.1 (r + 80) 2 = nI f ∧ σ.1 60 j = nI f) ∧
  σ.1 (r + 80) 3 = σ.1 61 j ∧ σ.1 (r + 80) 4 = σ.1 62 j
def NOT (nB nN td : Nat) (w : Nat → Nat) (L : Lay) (σ : Sto) : Prop := ∀ j, j < nN → ∃ r b g f, NOT1 nB td w L σ j r b g f
def HAR (σ : Sto) : Prop := ∀ i, i < 12 → ∃ h, h ≤ 999 ∧ σ.1 29 i = nI h ∧ σ.1 63 i = nI h
def lo5 (i : Nat) : Nat := if i < 3 then 0 else 1
def hi5 (i : Nat) : Nat := if i = 0 then 1000000 else if i = 1 then 100 else if i = 2 then 9999 else if i = 3 then 12 else 20
def RUL (σ : Sto) : Prop := ∀ i, i < 5 → (σ.1 65 i = nI (lo5 i) ∧ σ.1 66 i = nI (hi5 i)) ∧ ∃ v, lo5 i ≤ v ∧ v ≤ hi5 i ∧ σ.1 30 i = nI v ∧ σ.1 64 i = nI v
def WAI (nw : Nat) (σ : Sto) : Prop := ∀ i, i < nw → σ.1 31 i = σ.1 67 i
/-- a sheet: its cell, its row, its number -/
def SHE1 (σ : Sto) (x y s : Nat) : Prop := (σ.1 x 1 = σ.1 68 s ∧ (σ.1 68 s = -1 ∨ ∃ n, n ≤ 40 ∧ σ.1 68 s = nI n)) ∧ ∀ i, i < 40 → σ.1 y i = σ.1 69 (40 * s + i) ∧ fits .short (.int (σ.1 y i)) = true ∧ nSh (σ.1 y i) = σ.1 y i
def SHE (σ : Sto) : Prop := SHE1 σ 33 34 0 ∧ SHE1 σ 35 36 1
