/-! The law's text: words and signs, a reader of it, its steps -/
abbrev TS : Type := Nat × Nat × Nat
abbrev PR : Type := Bool × List Int32 × TS
def clp (n : Nat) (t : Nat → Int32) : Nat → Int32 := fun i => if i < n then t i else 0
theorem clp_at {n i : Nat} (t : Nat → Int32) (h : i < n) : clp n t i = t i := if_pos h
theorem clp_congr {n : Nat} {t t' : Nat → Int32} (h : ∀ i, i < n → t i = t' i) : clp n t = clp n t' := funext (fun i => by
  unfold clp
  by_cases q : i < n
  · rw [if_pos q, if_pos q, h i q]
  · rw [if_neg q, if_neg q])
def srt (t : Nat → Int32) (n i : Nat) : Nat := if i < n then (if 97 ≤ t i ∧ t i ≤ 122 then 1 else if 48 ≤ t i ∧ t i ≤ 57 then 2 else 3) else 0
/-- blanks are passed -/
def sps (t : Nat → Int32) (n : Nat) : Nat → Nat → Nat
  | 0, p => p
  | f + 1, p => if p < n ∧ t p = 32 then sps t n f (p + 1) else p
def rns (t : Nat → Int32) (n s : Nat) : Nat → Nat → Nat
  | 0, p => p
  | f + 1, p => if srt t n p = s then rns t n s f (p + 1) else p
def row (s : Nat) : Bool := Nat.beq s 1 || Nat.beq s 2
def tke (t : Nat → Int32) (n fr so : Nat) : Nat := if row so = true then rns t n so 109 fr else if so = 3 then fr + 1 else fr
def stk (t : Nat → Int32) (n p fr so : Nat) : Bool := row so && Nat.beq fr p && (!Nat.beq p 0 && row (srt t n (p - 1)))
def nxf (t : Nat → Int32) (n fr : Nat) : TS := (fr, tke t n fr (srt t n fr), srt t n fr)
def nx (t : Nat → Int32) (n p : Nat) : TS := if stk t n p (sps t n 109 p) (srt t n (sps t n 109 p)) = true then ((nxf t n (sps t n 109 p)).1, (nxf t n (sps t n 109 p)).2.1, 4) else nxf t n (sps t n 109 p)
def sgn (t : Nat → Int32) (s : TS) : Int32 := if s.2.2 = 3 then t s.1 else 0
def lvl (c : Int32) : Nat := if c = 38 then 1 else if c = 42 then 4 else if c = 43 then 3 else if c = 45 then 3 else if c = 47 then 4 else if c = 60 then 2 else if c = 61 then 2 else if c = 62 then 2 else if c = 124 then 0 else 9
def num (t : Nat → Int32) (fr : Nat) : Nat → Int32
  | 0 => 0
  | k + 1 => num t fr k * 10 + t (fr + k) - 48
def nmB (c : Int32) : Bool := c == 101 || c == 112 || c == 109 || c == 120 || c == 98 || c == 114 || c == 121 || c == 110 || c == 118 || c == 100
def nmN (c : Int32) : Bool := c == 97 || c == 108 || c == 99
def nmo (pt : Bool) (c : Int32) : Bool := nmB c || (pt && nmN c)
def lpl (t : Nat → Int32) (n : Nat) (g : TS → PR) (lv : Nat) : Nat → PR → PR
  | 0, r => r
  | f + 1, r => if r.1 = true ∧ lvl (sgn t r.2.2) = lv then lpl t n g lv f ((g (nx t n r.2.2.2.1)).1, r.2.1 ++ (g (nx t n r.2.2.2.1)).2.1 ++ [-(sgn t r.2.2)], (g (nx t n r.2.2.2.1)).2.2) else r
abbrev G1 : Type := Nat → Nat → TS → PR
abbrev G2 : Type := Nat → Nat → Nat → TS → PR
def pcp (t : Nat → Int32) (n : Nat) (pt : Bool) (g1 : G1) (g2 : G2) (br nt : Nat) (s : TS) : PR :=
  if s.2.2 = 2 ∧ s.2.1 - s.1 ≤ 4 then (true, [num t s.1 (s.2.1 - s.1)], nx t n s.2.1)
  else if (s.2.2 = 1 ∧ s.2.1 - s.1 = 1) ∧ nmo pt (t s.1) = true then (true, [10000 + t s.1], nx t n s.2.1)
  else if sgn t s = 33 ∧ nt < 8 then ((g1 br (nt + 1) (nx t n s.2.1)).1, (g1 br (nt + 1) (nx t n s.2.1)).2.1 ++ [-33], (g1 br (nt + 1) (nx t n s.2.1)).2.2)
  else if sgn t s = 40 ∧ br < 8 then (if (g2 0 (br + 1) nt (nx t n s.2.1)).1 = true ∧ sgn t (g2 0 (br + 1) nt (nx t n s.2.1)).2.2 = 41 then (true, (g2 0 (br + 1) nt (nx t n s.2.1)).2.1, nx t n (g2 0 (br + 1) nt (nx t n s.2.1)).2.2.2.1) else (false, (g2 0 (br + 1) nt (nx t n s.2.1)).2.1, (g2 0 (br + 1) nt (nx t n s.2.1)).2.2))
  else (false, [], s)
def pcl (t : Nat → Int32) (n : Nat) (g1 : G1) (g2 : G2) (lv br nt : Nat) (s : TS) : PR :=
  if lv < 5 then lpl t n (g2 (lv + 1) br nt) lv (if lv = 2 then 1 else 108) (g2 (lv + 1) br nt s) else g1 br nt s
def pcg (t : Nat → Int32) (n : Nat) (pt : Bool) : Nat → G1 × G2
  | 0 => (fun _ _ s => (false, [], s), fun _ _ _ s => (false, [], s))
  | k + 1 => (pcp t n pt (pcg t n pt k).1 (pcg t n pt k).2, pcl t n (pcg t n pt k).1 (pcg t n pt k).2)
/-! what steps give -/
def ap2 (c a b : Int32) : Int32 := if c = 38 then b3 (¬ a = 0 ∧ ¬ b = 0) else if c = 42 then a * b else if c = 43 then a + b else if c = 45 then a - b else if c = 60 then b3 (a < b) else if c = 61 then b3 (a = b) else if c = 62 then b3 (b < a) else if c = 124 then b3 (¬ a = 0 ∨ ¬ b = 0) else if b = 0 then 0 else a / b
def evs (K : Int32 → Int32) : List Int32 → List Int32 → List Int32
  | [], st => st
  | x :: r, st => evs K r (if x < 10000 then (if x < 0 then (if x = -33 then b3 (st.headD 0 = 0) :: st.tail else ap2 (-x) (st.tail.headD 0) (st.headD 0) :: st.tail.tail) else x :: st) else K (x - 10000) :: st)
def evc (K : Int32 → Int32) (c : List Int32) : Int32 := (evs K c []).headD 0
def WFc (c : List Int32) : Prop := ∀ K st, evs K c st = evc K c :: st
/-- part k of the law: where it begins, what was read there -/
def LWk (lw n : Nat) (e : Nat → Nat) (σ : Sto) (k : Nat) : Prop := e k ≤ e (k + 1) ∧ e (k + 1) ≤ 108 ∧ σ.1 (lw + 2) k = nI (e (k + 1)) ∧ ∃ (fr : Nat) (c : List Int32) (s : TS), σ.1 57 k = nI fr ∧ fr ≤ n ∧ sps (clp n (σ.1 56)) n 109 fr = fr ∧ (pcg (clp n (σ.1 56)) n (Nat.beq k 1) 100).2 0 0 0 (nxf (clp n (σ.1 56)) n fr) = (true, c, s) ∧ s.2.2 ≠ 4 ∧ c.length = e (k + 1) - e k ∧ (∀ j, j < c.length → σ.1 (lw + 1) (e k + j) = c.getD j 0) ∧ WFc c
def LW (lw : Nat) (σ : Sto) : Prop := ∃ (n : Nat) (e : Nat → Nat), n ≤ 108 ∧ σ.1 37 26 = nI n ∧ (∀ i, i < n → ∃ b, b < 256 ∧ σ.1 56 i = nI b) ∧ e 0 = 0 ∧ ∀ k, k < 3 → LWk lw n e σ k
def LAW (lw : Nat) (σ : Sto) : Prop := (σ.1 0 8 = 0 ∧ σ.1 37 27 = 0) ∨ (σ.1 0 8 = 1 ∧ σ.1 37 27 = 1 ∧ LW lw σ)
def pLAW (a k : Nat) : Bool := (Nat.beq a 0 && Nat.beq k 8) || (Nat.beq a 37 && (Nat.beq k 26 || Nat.beq k 27)) || Nat.beq a 56 || Nat.beq a 57 || Nat.beq a 18 || Nat.beq a 19 || Nat.beq a 22 || Nat.beq a 23
theorem LAW.fr {lw : Nat} {σ σ' : Sto} (h : LAW lw σ) (hl : lw = 17 ∨ lw = 21) (e : AG pLAW σ σ') : LAW lw σ' := by
  have a1 := e 0 8 rfl
  have a2 := e 37 27 rfl
  rcases h with ⟨h1, h2⟩ | ⟨h1, h2, n, ee, h3, h4, h5, h6, h7⟩
  · exact Or.inl ⟨a1.trans h1, a2.trans h2⟩
  · have q1 : ∀ k, σ'.1 (lw + 1) k = σ.1 (lw + 1) k := fun k => by
      rcases hl with rfl | rfl
      · exact e 18 k rfl
      · exact e 22 k rfl
    have q2 : ∀ k, σ'.1 (lw + 2) k = σ.1 (lw + 2) k := fun k => by
      rcases hl with rfl | rfl
      · exact e 19 k rfl
      · exact e 23 k rfl
    have q3 : ∀ k, σ'.1 56 k = σ.1 56 k := fun k => e 56 k rfl
    have q3' : σ'.1 56 = σ.1 56 := funext q3
    refine Or.inr ⟨a1.trans h1, a2.trans h2, n, ee, h3, (e 37 26 rfl).trans h4, ?_, h6, ?_⟩
    · rw [q3']; exact h5
    · intro k hk
      obtain ⟨b1, b2, b3, fr, c, s, b4, b5⟩ := h7 k hk
      refine ⟨b1, b2, (q2 k).trans b3, fr, c, s, (e 57 k rfl).trans b4, ?_⟩
      rw [q3']
      simp only [q1]
      exact b5
/-! The invariant -/
def INVP (nb nm nl nB nN td nt nw lw : Nat) (w : Nat → Nat) (L : Lay) (σ : Sto) : Prop := SF L ∧ RF lw σ.2.1 ∧ NUM nb nm nl nB nN td nt nw σ ∧ BRA nb σ ∧ MEM nb nm td w L σ ∧ LIN nl σ ∧ BAL nb nm nB td w L σ ∧ TAP nt σ ∧ NOT nB nN td w L σ ∧ HAR σ ∧ RUL σ ∧ WAI nw σ ∧ SHE σ ∧ LAW lw σ
def IV (L : Lay) (σ : Sto) : Prop := ∃ nb nm nl nB nN td nt nw lw w, INVP nb nm nl nB nN td nt nw lw w L σ
theorem psv_of {P : Nat → Nat → Bool} (h : ∀ a k, scr a k = true → P a k = false) : ∀ a k, P a k = true → psv a k = true := fun a k p => by
  unfold psv
  cases q : scr a k with
  | false => rfl
  | true => rw [h a k q] at p; cases p
theorem INVP.sc {nb nm nl nB nN td nt nw lw : Nat} {w : Nat → Nat} {L : Lay} {σ σ' : Sto} (h : INVP nb nm nl nB nN td nt nw lw w L σ) (s : SC σ σ') : INVP nb nm nl nB nN td nt nw lw w L σ' := by
  obtain ⟨hS, hR, hN, hB, hM, hL, hA, hT, hO, hH, hU, hW, hE, hG⟩ := h
  have key : ∀ P : Nat → Nat → Bool, (∀ a k, scr a k = true → ¬ P a k = true) → AG P σ σ' := fun P hp => s.1.sub (psv_of (fun a k q => pf_of (hp a k q)))
  have k1 : ∀ i, AG (pMEM1 w L.2.2.1 i) σ σ' := fun i => key _ (fun a k q z => by have := scr_cases q; simp [pMEM1] at z; omega)
  have k2 : ∀ j, AG (pBAL1 w L.2.2.1 j) σ σ' := fun j => key _ (fun a k q z => by have := scr_cases q; simp [pBAL1] at z; omega)
  have k3 : ∀ j, AG (pNOT1 w L.2.2.1 j) σ σ' := fun j => key _ (fun a k q z => by have := scr_cases q; simp [pNOT1] at z; omega)
  have hn : nm ≤ 40 := hN.1.2.1
  refine ⟨hS, by rw [s.2]; exact hR, hN.fr (key _ (fun a k q z => by have := scr_cases q; simp [pNUM] at z; omega)), hB.fr (key _ (fun a k q z => by have := scr_cases q; simp [pBRA] at z; omega)), hM.f (Nat.le_refl _) (Nat.le_refl _) (fun i _ => k1 i) s.2, hL.fr (key _ (fun a k q z => by have := scr_cases q; simp [pLIN] at z; omega)), hA.f hn (Nat.le_refl _) (Nat.le_refl _) (fun i _ => k2 i) s.2, hT.fr (key _ (fun a k q z => by have := scr_cases q; simp [pTAP] at z; omega)), hO.f (Nat.le_refl _) (Nat.le_refl _) (fun i _ => k3 i) s.2, hH.fr (key _ (fun a k q z => by have := scr_cases q; simp [pHAR] at z; omega)), hU.fr (key _ (fun a k q z => by have := scr_cases q; simp [pRUL] at z; omega)), hW.fr (key _ (fun a k q z => by have := scr_cases q; simp [pWAI] at z; omega)), hE.fr (key _ (fun a k q z => by have := scr_cases q; simp [pSHE] at z; omega)), hG.fr hR.lw (key _ (fun a k q z => by have := scr_cases q; simp [pLAW] at z; omega))⟩
