section
variable {nb nm nl nB nN td nt nw lw : Nat} {w : Nat → Nat} {L : Lay} {σ : Sto}
theorem nmV_c {σ : Sto} {j o d nb nm k : Nat} (h1 : k ≠ 21) (h2 : k ≠ 3) : nmV σ j o d nb nm k = cnt (cc σ j o d k) nm := by
  unfold nmV
  rw [if_neg h1, if_neg h2]
theorem x0_tellNames (h : INVP nb nm nl nB nN td nt nw lw w L σ) {j r o d : Nat} (hb : BAL1 nb nm td w L σ j r o) (hj : j < nB) (hd : d ≤ 400) : OK (f_X0_tellNames L σ (r + 80) (some 25) (nI d)) (fun q => SC σ q ∧ ∀ k, k < 26 → q.1 26 k = nmV σ j o d nb nm k) := by
  have h0 := h
  obtain ⟨hS, hR, ⟨⟨hnb, hnm, hnl, hnB, hnN, htd, hnt, hnw⟩, ⟨eb, eb'⟩, ⟨em, em'⟩, ⟨el, el'⟩, ⟨eB, eB'⟩, ⟨eN, eN'⟩, ⟨et, et'⟩, ⟨ep, ep'⟩, ew, ew'⟩, hBR, hME, hLI, hBA, hTA, hNO, hHA, hRU, hWA, hSH, hLA⟩ := id h
  obtain ⟨⟨b1, b2, b3', b4, b5, b6⟩, ⟨b7, b8, b9, b10⟩, ⟨b11, b12, b13⟩, ⟨b14, b15, b17, b18, b19⟩, b20, b21, b22⟩ := id hb
  have lp : ∃ t, f_X0_tellNames_6 FU L (wS σ 26 0 26 (fun _ => 0)) (r + 80) (some 25) (nI d) 0 = f_X0_tellNames_74 L t (r + 80) (some 25) (nI d) ∧ (SC σ t ∧ ∀ k, k < 26 → t.1 26 k = cnt (cc σ j o d k) nm) := by
    refine loopE (F := fun k q => f_X0_tellNames_6 k L q.1 (r + 80) (some 25) (nI d) q.2) (E := fun t => f_X0_tellNames_74 L t (r + 80) (some 25) (nI d)) (s := (wS σ 26 0 26 (fun _ => 0), 0)) (I := fun i q => q.2 = nI i ∧ SC σ q.1 ∧ ∀ k, k < 26 → q.1.1 26 k = cnt (cc σ j o d k) i) (Q := fun t => SC σ t ∧ ∀ k, k < 26 → t.1 26 k = cnt (cc σ j o d k) nm) nm ?_ ?_ (FU_lt (by omega)) ?_
    · rintro i K ⟨σ', t⟩ hi ⟨et1, js, hI⟩
      dsimp only at et1 js hI
      subst et1
      have h' := h0.sc js
      have hR' : RF lw σ'.2.1 := h'.2.1
      obtain ⟨t, e, q1, q2⟩ := x0_tell1 h0 js hb hj hd hi hI (f_X0_tellNames_6 K)
      have ea := x10_isAmong h'.rd hi (d := o) (by omega) (σ.1 49 j)
      rw [b3_c (q := inS σ i (σ.1 49 j) (nI o)) (by rw [inS_sc js])] at ea
      have w0 : σ'.2.1 (r + 80) 0 = some 1 := by rw [js.2]; exact b7
      have v1 : σ'.1 (r + 80) 1 = σ.1 49 j := (js.at (scr_hi (by omega))).trans b14
      have v2 : σ'.1 (r + 80) 2 = nI o := (js.at (scr_hi (by omega))).trans b17
      have em1 : σ'.1 1 3 = nI nm := (js.at rfl).trans em
      refine Or.inl ⟨(t, nI (i + 1)), ?_, rfl, q1, q2⟩
      rw [← e]
      simp (disch := omega) only [f_X0_tellNames_6, f_X0_tellNames_68, w0, em1, nI_leI, show ¬ nm ≤ i by omega, nle_r, show ¬ 40 ≤ i by omega, v1, v2, ea, nI_1, if_false, Option.bind_some]
    · rintro K ⟨σ', t⟩ ⟨et1, js, hI⟩
      dsimp only at et1 js hI
      subst et1
      have w0 : σ'.2.1 (r + 80) 0 = some 1 := by rw [js.2]; exact b7
      have em1 : σ'.1 1 3 = nI nm := (js.at rfl).trans em
      refine ⟨σ', ?_, js, hI⟩
      simp (disch := omega) only [f_X0_tellNames_6, w0, em1, nI_leI, Nat.le_refl, if_true, Option.bind_some]
    · dsimp only
      refine ⟨nI_0.symm, (SC.rf σ).ws (fun _ => rfl), fun k hk => ?_⟩
      have := wS_in (σ := σ) (a := 26) (off := 0) (f := fun _ => (0 : Int32)) hk
      rw [Nat.zero_add] at this
      exact this
  obtain ⟨t, e, js, hI⟩ := lp
  have h' := h0.sc js
  have hR' : RF lw t.2.1 := h'.2.1
  have w0 : t.2.1 (r + 80) 0 = some 1 := by rw [js.2]; exact b7
  have v1 : t.1 (r + 80) 1 = σ.1 49 j := (js.at (scr_hi (by omega))).trans b14
  have v2 : t.1 (r + 80) 2 = nI o := (js.at (scr_hi (by omega))).trans b17
  have ev := x10_hasVital h'.rd (σ.1 49 j)
  have p1 : f_X3_put L t 25 118 (any1 (vtB t (σ.1 49 j)) nb) = some (sI t 26 21 (any1 (vtB t (σ.1 49 j)) nb)) := x3_put hS hR'.r25_0 (k := 21) (by omega) _
  have p2 : f_X3_put L (sI t 26 21 (any1 (vtB t (σ.1 49 j)) nb)) 25 100 (nI d - nI o) = some (sI (sI t 26 21 (any1 (vtB t (σ.1 49 j)) nb)) 26 3 (nI d - nI o)) := x3_put (σ := sI t 26 21 (any1 (vtB t (σ.1 49 j)) nb)) hS hR'.r25_0 (k := 3) (by omega) _
  have v2' : (sI t 26 21 (any1 (vtB t (σ.1 49 j)) nb)).1 (r + 80) 2 = nI o := by rw [sI_ne (by omega)]; exact v2
  refine ⟨sI (sI t 26 21 (any1 (vtB t (σ.1 49 j)) nb)) 26 3 (nI d - nI o), ?_, (js.wr rfl).wr rfl, fun k hk => ?_⟩
  · simp only [f_X0_tellNames, f_X3_clear, f_X0_tellNames_74, hR.r25_0, fill_i hS.l26 (show 26 < 4000 by omega), e, w0, v1, v2', ev, any1_one, p1, p2, Option.bind_some]
  · by_cases q1 : k = 3
    · subst q1
      rw [sI_eq]
      rfl
    · rw [sI_nk q1]
      by_cases q2 : k = 21
      · subst q2
        rw [sI_eq]
        show _ = any1 (vtB σ (σ.1 49 j)) nb
        exact any1_congr nb (fun i _ => by unfold vtB; rw [js.at (a := 38) rfl])
      · rw [sI_nk q2, nmV_c q2 q1]
        exact hI k hk
/-- the reference's numbers behind i members -/
def kI (σ : Sto) (j o d i q : Nat) : Int32 := if q = 2 then 0 else cnt (cc σ j o d (ltr q)) i
theorem q13 {q : Nat} (h : q < 13) : q = 0 ∨ q = 1 ∨ q = 2 ∨ q = 3 ∨ q = 4 ∨ q = 5 ∨ q = 6 ∨ q = 7 ∨ q = 8 ∨ q = 9 ∨ q = 10 ∨ q = 11 ∨ q = 12 := by omega
theorem x12_know1 (h : INVP nb nm nl nB nN td nt nw lw w L σ) {σ' : Sto} (js : SC σ σ') {j r o d : Nat} (hb : BAL1 nb nm td w L σ j r o) (hj : j < nB) (hd : d ≤ 400) {i : Nat} (hi : i < nm) (hI : ∀ q, q < 13 → σ'.1 73 q = kI σ j o d i q) (c23 : Lay → Sto → Nat → Int32 → Int32 → Int32 → Option Sto) : ∃ t, f_X12_knows_100 c23 L σ' 37 (nI j) (nI d) (nI i) (nI (40 * j + i)) (b3 (snP σ j d i)) (b3 (teP σ j d i)) = c23 L t 37 (nI j) (nI d) (nI (i + 1)) ∧ SC σ t ∧ ∀ q, q < 13 → t.1 73 q = kI σ j o d (i + 1) q := by
  have hS := h.1
  have h' := h.sc js
  have hR' : RF lw σ'.2.1 := h'.2.1
  have hnm : nm ≤ 40 := h.2.2.1.1.2.1
  have hnB : nB ≤ 12 := h.2.2.1.1.2.2.2.1
  have htd : td ≤ 400 := h.2.2.1.1.2.2.2.2.2.1
  obtain ⟨⟨b1, b2, b3', b4, b5, b6⟩, ⟨b7, b8, b9, b10⟩, ⟨b11, b12, b13⟩, ⟨b14, b15, b17, b18, b19⟩, b20, b21, b22⟩ := id hb
  obtain ⟨p1, p2, p3⟩ := pap_cls (d := d) (b22 i (by omega)) htd hd
  have ee := x12_isEntitled h'.rd hi (show j < 12 by omega)
  rw [js.at (a := 49) rfl, js.at (a := 50) rfl, b18, b3_c (q := inS σ i (σ.1 49 j) (nI o)) (by rw [inS_sc js])] at ee
  have v53 : σ'.1 53 (40 * j + i) = σ.1 53 (40 * j + i) := js.at rfl
  have rr : ∀ (s : Sto) (n : Nat), n < 13 → rI L s 73 (nI n) = some (s.1 73 n) := fun s n hn => rI_nI hS.l73 hn (by omega)
  have ww : ∀ (s : Sto) (n : Nat) (v : Int32), n < 13 → wI L s 73 (nI n) v = some (sI s 73 n v) := fun s n v hn => wI_nI hS.l73 hn (by omega)
  obtain ⟨hw, ehw⟩ : ∃ x, x = σ.1 53 (40 * j + i) := ⟨_, rfl⟩
  obtain ⟨TE, eTE⟩ : ∃ x, x = b3 (teP σ j d i) := ⟨_, rfl⟩
  have ok53 : ∀ s : Sto, s.2.1 = σ'.2.1 → s.1 53 (40 * j + i) = hw → (s.2.1 37 46 = some 73 ∧ s.2.1 37 21 = some 53 ∧ rI L s 53 (nI (40 * j + i)) = some hw) := fun s h1 h2 => ⟨by rw [h1]; exact hR'.r37_46, by rw [h1]; exact hR'.r37_21, by rw [rI_nI hS.l53 (by omega) (by omega), h2]⟩
  have v53' : σ'.1 53 (40 * j + i) = hw := v53.trans ehw.symm
  have k258 : ∀ (s : Sto) (a v : Int32), f_X12_knows_258 c23 L s 37 (nI j) (nI d) (nI i) a v 7 (some 73) = c23 L (sI s 73 7 (v + a)) 37 (nI j) (nI d) (nI (i + 1)) := fun s a v => by
    unfold f_X12_knows_258 f_X12_knows_282
    rw [Option.bind_some, show (7 : Int32) = nI 7 from rfl, ww s 7 _ (by omega), Option.bind_some, nI_1]
  have k227 : ∀ (s : Sto), s.2.1 = σ'.2.1 → s.1 53 (40 * j + i) = hw → ∀ (a v : Int32), f_X12_knows_227 c23 L s 37 (nI j) (nI d) (nI i) (nI (40 * j + i)) TE a v 6 (some 73) = c23 L (sI (sI s 73 6 (v + a)) 73 7 (s.1 73 7 + b3 (¬ TE = 0 ∧ hw = 2))) 37 (nI j) (nI d) (nI (i + 1)) := fun s h1 h2 a v => by
    have e7 : (sI s 73 6 (v + a)).1 73 7 = s.1 73 7 := sI_nk (by omega)
    obtain ⟨o1, o2, o3⟩ := ok53 (sI s 73 6 (v + a)) h1 (by rw [sI_ne (by omega)]; exact h2)
    unfold f_X12_knows_227 f_X12_knows_257
    rw [Option.bind_some, show (6 : Int32) = nI 6 from rfl, ww s 6 _ (by omega), Option.bind_some, o1, Option.bind_some, show rI L (sI s 73 6 (v + a)) 73 7 = some ((sI s 73 6 (v + a)).1 73 7) from rr _ 7 (by omega), Option.bind_some, e7, o2, Option.bind_some, o3, Option.bind_some, k258, k258]
    by_cases q1 : TE = 0
    · rw [if_pos q1, b3_f (p := ¬ TE = 0 ∧ hw = 2) (fun u => u.1 q1)]
    · rw [if_neg q1]
      by_cases q2 : hw = 2
      · rw [if_pos q2, b3_t (p := ¬ TE = 0 ∧ hw = 2) ⟨q1, q2⟩]
      · rw [if_neg q2, b3_f (p := ¬ TE = 0 ∧ hw = 2) (fun u => q2 u.2)]
  have k196 : ∀ (s : Sto), s.2.1 = σ'.2.1 → s.1 53 (40 * j + i) = hw → ∀ (a v : Int32), f_X12_knows_196 c23 L s 37 (nI j) (nI d) (nI i) (nI (40 * j + i)) TE a v 5 (some 73) = c23 L (sI (sI (sI s 73 5 (v + a)) 73 6 (s.1 73 6 + b3 (¬ TE = 0 ∧ hw = 1))) 73 7 (s.1 73 7 + b3 (¬ TE = 0 ∧ hw = 2))) 37 (nI j) (nI d) (nI (i + 1)) := fun s h1 h2 a v => by
    have e6 : (sI s 73 5 (v + a)).1 73 6 = s.1 73 6 := sI_nk (by omega)
    have e7 : (sI s 73 5 (v + a)).1 73 7 = s.1 73 7 := sI_nk (by omega)
    have h2' : (sI s 73 5 (v + a)).1 53 (40 * j + i) = hw := by rw [sI_ne (by omega)]; exact h2
    obtain ⟨o1, o2, o3⟩ := ok53 (sI s 73 5 (v + a)) h1 h2'
    have kk := k227 (sI s 73 5 (v + a)) h1 h2'
    unfold f_X12_knows_196 f_X12_knows_226
    rw [Option.bind_some, show (5 : Int32) = nI 5 from rfl, ww s 5 _ (by omega), Option.bind_some, o1, Option.bind_some, show rI L (sI s 73 5 (v + a)) 73 6 = some ((sI s 73 5 (v + a)).1 73 6) from rr _ 6 (by omega), Option.bind_some, e6, o2, Option.bind_some, o3, Option.bind_some, kk, kk, e7]
    by_cases q1 : TE = 0
    · rw [if_pos q1, b3_f (p := ¬ TE = 0 ∧ hw = 1) (fun u => u.1 q1)]
    · rw [if_neg q1]
      by_cases q2 : hw = 1
      · rw [if_pos q2, b3_t (p := ¬ TE = 0 ∧ hw = 1) ⟨q1, q2⟩]
      · rw [if_neg q2, b3_f (p := ¬ TE = 0 ∧ hw = 1) (fun u => q2 u.2)]
  have k167 : ∀ (s : Sto), s.2.1 = σ'.2.1 → s.1 53 (40 * j + i) = hw → ∀ (a v : Int32), f_X12_knows_167 c23 L s 37 (nI j) (nI d) (nI i) (nI (40 * j + i)) TE a v 4 (some 73) = c23 L (sI (sI (sI (sI s 73 4 (v + a)) 73 5 (s.1 73 5 + b3 (¬ TE = 0 ∧ ¬ hw ≤ 0))) 73 6 (s.1 73 6 + b3 (¬ TE = 0 ∧ hw = 1))) 73 7 (s.1 73 7 + b3 (¬ TE = 0 ∧ hw = 2))) 37 (nI j) (nI d) (nI (i + 1)) := fun s h1 h2 a v => by
    have e5 : (sI s 73 4 (v + a)).1 73 5 = s.1 73 5 := sI_nk (by omega)
    have e6 : (sI s 73 4 (v + a)).1 73 6 = s.1 73 6 := sI_nk (by omega)
    have e7 : (sI s 73 4 (v + a)).1 73 7 = s.1 73 7 := sI_nk (by omega)
    have h2' : (sI s 73 4 (v + a)).1 53 (40 * j + i) = hw := by rw [sI_ne (by omega)]; exact h2
    obtain ⟨o1, o2, o3⟩ := ok53 (sI s 73 4 (v + a)) h1 h2'
    have kk := k196 (sI s 73 4 (v + a)) h1 h2'
    unfold f_X12_knows_167 f_X12_knows_195
    rw [Option.bind_some, show (4 : Int32) = nI 4 from rfl, ww s 4 _ (by omega), Option.bind_some, o1, Option.bind_some, show rI L (sI s 73 4 (v + a)) 73 5 = some ((sI s 73 4 (v + a)).1 73 5) from rr _ 5 (by omega), Option.bind_some, e5, o2, Option.bind_some, o3, Option.bind_some, kk, kk, e6, e7]
    by_cases q1 : TE = 0
    · rw [if_pos q1, b3_f (p := ¬ TE = 0 ∧ ¬ hw ≤ 0) (fun u => u.1 q1)]
    · rw [if_neg q1]
      by_cases q2 : hw ≤ 0
      · rw [if_pos q2, b3_f (p := ¬ TE = 0 ∧ ¬ hw ≤ 0) (fun u => u.2 q2)]
      · rw [if_neg q2, b3_t (p := ¬ TE = 0 ∧ ¬ hw ≤ 0) ⟨q1, q2⟩]
  have k138 : ∀ (s : Sto), s.2.1 = σ'.2.1 → s.1 53 (40 * j + i) = hw → ∀ (a v : Int32), f_X12_knows_138 c23 L s 37 (nI j) (nI d) (nI i) (nI (40 * j + i)) TE a v 1 (some 73) = c23 L (sI (sI (sI (sI (sI s 73 1 (v + a)) 73 4 (s.1 73 4 + b3 (¬ TE = 0 ∧ hw = 0))) 73 5 (s.1 73 5 + b3 (¬ TE = 0 ∧ ¬ hw ≤ 0))) 73 6 (s.1 73 6 + b3 (¬ TE = 0 ∧ hw = 1))) 73 7 (s.1 73 7 + b3 (¬ TE = 0 ∧ hw = 2))) 37 (nI j) (nI d) (nI (i + 1)) := fun s h1 h2 a v => by
    have e4 : (sI s 73 1 (v + a)).1 73 4 = s.1 73 4 := sI_nk (by omega)
    have e5 : (sI s 73 1 (v + a)).1 73 5 = s.1 73 5 := sI_nk (by omega)
    have e6 : (sI s 73 1 (v + a)).1 73 6 = s.1 73 6 := sI_nk (by omega)
    have e7 : (sI s 73 1 (v + a)).1 73 7 = s.1 73 7 := sI_nk (by omega)
    have h2' : (sI s 73 1 (v + a)).1 53 (40 * j + i) = hw := by rw [sI_ne (by omega)]; exact h2
    obtain ⟨o1, o2, o3⟩ := ok53 (sI s 73 1 (v + a)) h1 h2'
    have kk := k167 (sI s 73 1 (v + a)) h1 h2'
    unfold f_X12_knows_138 f_X12_knows_166
    rw [Option.bind_some, show wI L s 73 1 (v + a) = some (sI s 73 1 (v + a)) from ww s 1 _ (by omega), Option.bind_some, o1, Option.bind_some, show rI L (sI s 73 1 (v + a)) 73 4 = some ((sI s 73 1 (v + a)).1 73 4) from rr _ 4 (by omega), Option.bind_some, e4, o2, Option.bind_some, o3, Option.bind_some, kk, kk, e5, e6, e7]
    by_cases q1 : TE = 0
    · rw [if_pos q1, b3_f (p := ¬ TE = 0 ∧ hw = 0) (fun u => u.1 q1)]
    · rw [if_neg q1]
      by_cases q2 : hw = 0
      · rw [if_pos q2, b3_t (p := ¬ TE = 0 ∧ hw = 0) ⟨q1, q2⟩]
      · rw [if_neg q2, b3_f (p := ¬ TE = 0 ∧ hw = 0) (fun u => q2 u.2)]
  have teI : (¬ TE = 0) ↔ teP σ j d i := by
    rw [eTE, b3_z]
    exact Classical.not_not
  have h0le : teP σ j d i → (hw ≤ 0 ↔ hw = 0) := fun u => by
    obtain ⟨-, g, hg, q4⟩ := p3 u
    rw [ehw, q4]
    rcases (show g = 0 ∨ g = 1 ∨ g = 2 ∨ g = 3 by omega) with rfl | rfl | rfl | rfl <;> decide
  rw [← eTE]
  have aI : ∀ q, q < 13 → kI σ j o d (i + 1) q = σ'.1 73 q + (if q = 2 then 0 else b3 (cc σ j o d (ltr q) i = true)) := fun q hq => by
    rw [hI q hq]
    unfold kI
    by_cases e : q = 2
    · rw [if_pos e, if_pos e, if_pos e]; rfl
    · rw [if_neg e, if_neg e, if_neg e, cnt_succ]
  unfold f_X12_knows_100
  rw [ee, Option.bind_some]
  have no : ∀ k, ¬ (k = 4 ∨ k = 15 ∨ k = 12 ∨ k = 23 ∨ k = 1 ∨ k = 17 ∨ k = 24 ∨ k = 13) → b3 (cc σ j o d k i = true) = 0 := fun k hk => b3_f (fun u => by rw [cc_iff] at u; rcases u with q | q | q | q | q | q | q | q <;> exact hk (by have := q.1; omega))
  have is : ∀ {k : Nat} {p : Prop} [Decidable p], (cq k (inS σ i (σ.1 49 j) (nI o)) (snP σ j d i) (teP σ j d i) hw ↔ p) → b3 (cc σ j o d k i = true) = b3 p := fun h => b3_c (by rw [cc_iff, ← ehw]; exact h)
  by_cases hE : inS σ i (σ.1 49 j) (nI o)
  · rw [b3_t hE, if_neg (by decide)]
    have fl : ∀ (s : Sto) (a v : Int32), s.2.1 = σ'.2.1 → True := fun _ _ _ _ => trivial
    obtain ⟨s1, es1⟩ : ∃ s, s = sI σ' 73 0 (σ'.1 73 0 + 1) := ⟨_, rfl⟩
    have g1 : ∀ k, k ≠ 0 → s1.1 73 k = σ'.1 73 k := fun k hk => by rw [es1]; exact sI_nk hk
    have m138 := k138 s1 (by rw [es1]; rfl) (by rw [es1, sI_ne (by omega)]; exact v53')
    refine ⟨sI (sI (sI (sI (sI s1 73 1 (s1.1 73 1 + b3 (snP σ j d i))) 73 4 (s1.1 73 4 + b3 (¬ TE = 0 ∧ hw = 0))) 73 5 (s1.1 73 5 + b3 (¬ TE = 0 ∧ ¬ hw ≤ 0))) 73 6 (s1.1 73 6 + b3 (¬ TE = 0 ∧ hw = 1))) 73 7 (s1.1 73 7 + b3 (¬ TE = 0 ∧ hw = 2)), ?_, (((((by rw [es1]; exact js.wr rfl : SC σ s1).wr rfl).wr rfl).wr rfl).wr rfl).wr rfl, ?_⟩
    · have o46 : s1.2.1 37 46 = some 73 := by rw [es1]; exact hR'.r37_46
      rw [hR'.r37_46, Option.bind_some, show rI L σ' 73 0 = some (σ'.1 73 0) from rr _ 0 (by omega), Option.bind_some, Option.bind_some, show wI L σ' 73 0 (σ'.1 73 0 + 1) = some (sI σ' 73 0 (σ'.1 73 0 + 1)) from ww _ 0 _ (by omega), Option.bind_some, ← es1, o46, Option.bind_some, show rI L s1 73 1 = some (s1.1 73 1) from rr _ 1 (by omega), Option.bind_some, m138, m138]
      by_cases q : snP σ j d i
      · rw [b3_t q, if_neg (by decide)]
      · rw [b3_f q, if_pos rfl]
    · intro q hq
      rw [aI q hq]
      rcases q13 hq with rfl | rfl | rfl | rfl | rfl | rfl | rfl | rfl | rfl | rfl | rfl | rfl | rfl
      · simp (disch := omega) only [sI_nk]
        rw [es1, sI_eq, show ltr 0 = 4 from rfl, is (p := True) ⟨fun _ => trivial, fun _ => Or.inl ⟨rfl, hE⟩⟩]
        rfl
      · simp (disch := omega) only [sI_nk, sI_eq]
        rw [g1 1 (by omega), show ltr 1 = 15 from rfl, is (p := snP σ j d i) ⟨fun u => by rcases u with q | q | q | q | q | q | q | q <;> first | (exact absurd q.1 (by decide)) | (exact q.2.2), fun u => Or.inr (Or.inl ⟨rfl, hE, u⟩)⟩]
        rfl
      · simp (disch := omega) only [sI_nk]
        rw [g1 2 (by omega)]
        exact (Int32.add_zero _).symm
      · simp (disch := omega) only [sI_nk]
        rw [g1 3 (by omega), show ltr 3 = 23 from rfl, is (p := False) ⟨fun u => by rcases u with q | q | q | q | q | q | q | q <;> first | (exact absurd q.1 (by decide)) | (exact q.2.1 hE), fun u => u.elim⟩]
        exact (Int32.add_zero _).symm
      · simp (disch := omega) only [sI_nk, sI_eq]
        rw [g1 4 (by omega), show ltr 4 = 1 from rfl, is (p := ¬ TE = 0 ∧ hw = 0) ⟨fun u => by rcases u with q | q | q | q | q | q | q | q <;> first | (exact absurd q.1 (by decide)) | (exact ⟨teI.mpr q.2.2.1, q.2.2.2⟩), fun u => Or.inr (Or.inr (Or.inr (Or.inr (Or.inl ⟨rfl, hE, teI.mp u.1, u.2⟩))))⟩]
        rfl
      · simp (disch := omega) only [sI_nk, sI_eq]
        rw [g1 5 (by omega), show ltr 5 = 17 from rfl, is (p := ¬ TE = 0 ∧ ¬ hw ≤ 0) ⟨fun u => by rcases u with q | q | q | q | q | q | q | q <;> first | (exact absurd q.1 (by decide)) | (exact ⟨teI.mpr q.2.2.1, fun z => q.2.2.2 ((h0le q.2.2.1).mp z)⟩), fun u => Or.inr (Or.inr (Or.inr (Or.inr (Or.inr (Or.inl ⟨rfl, hE, teI.mp u.1, fun z => u.2 ((h0le (teI.mp u.1)).mpr z)⟩)))))⟩]
        rfl
      · simp (disch := omega) only [sI_nk, sI_eq]
        rw [g1 6 (by omega), show ltr 6 = 24 from rfl, is (p := ¬ TE = 0 ∧ hw = 1) ⟨fun u => by rcases u with q | q | q | q | q | q | q | q <;> first | (exact absurd q.1 (by decide)) | (exact ⟨teI.mpr q.2.2.1, q.2.2.2⟩), fun u => Or.inr (Or.inr (Or.inr (Or.inr (Or.inr (Or.inr (Or.inl ⟨rfl, hE, teI.mp u.1, u.2⟩))))))⟩]
        rfl
      · simp (disch := omega) only [sI_eq]
        rw [g1 7 (by omega), show ltr 7 = 13 from rfl, is (p := ¬ TE = 0 ∧ hw = 2) ⟨fun u => by rcases u with q | q | q | q | q | q | q | q <;> first | (exact absurd q.1 (by decide)) | (exact ⟨teI.mpr q.2.2.1, q.2.2.2⟩), fun u => Or.inr (Or.inr (Or.inr (Or.inr (Or.inr (Or.inr (Or.inr ⟨rfl, hE, teI.mp u.1, u.2⟩))))))⟩]
        rfl
      all_goals
        simp (disch := omega) only [sI_nk]
        rw [g1 _ (by omega), no _ (by decide)]
        exact (Int32.add_zero _).symm
  · rw [b3_f hE, if_pos rfl]
    refine ⟨sI σ' 73 3 (σ'.1 73 3 + b3 (snP σ j d i)), ?_, js.wr rfl, ?_⟩
    · unfold f_X12_knows_280 f_X12_knows_282
      rw [hR'.r37_46, Option.bind_some, show rI L σ' 73 3 = some (σ'.1 73 3) from rr _ 3 (by omega), Option.bind_some, Option.bind_some, Option.bind_some, show ∀ v, wI L σ' 73 3 v = some (sI σ' 73 3 v) from fun v => ww _ 3 v (by omega), show ∀ v, wI L σ' 73 3 v = some (sI σ' 73 3 v) from fun v => ww _ 3 v (by omega), Option.bind_some, Option.bind_some, nI_1]
      by_cases q : snP σ j d i
      · rw [b3_t q, if_neg (by decide)]
      · rw [b3_f q, if_pos rfl]
    · intro q hq
      rw [aI q hq]
      rcases q13 hq with rfl | rfl | rfl | rfl | rfl | rfl | rfl | rfl | rfl | rfl | rfl | rfl | rfl
      · rw [sI_nk (by omega), show ltr 0 = 4 from rfl, is (p := False) ⟨fun u => by rcases u with q | q | q | q | q | q | q | q <;> first | (exact absurd q.1 (by decide)) | (exact hE q.2), fun u => u.elim⟩]
        exact (Int32.add_zero _).symm
      · rw [sI_nk (by omega), show ltr 1 = 15 from rfl, is (p := False) ⟨fun u => by rcases u with q | q | q | q | q | q | q | q <;> first | (exact absurd q.1 (by decide)) | (exact hE q.2.1), fun u => u.elim⟩]
        exact (Int32.add_zero _).symm
      · rw [sI_nk (by omega)]
        exact (Int32.add_zero _).symm
      · rw [sI_eq, show ltr 3 = 23 from rfl, is (p := snP σ j d i) ⟨fun u => by rcases u with q | q | q | q | q | q | q | q <;> first | (exact absurd q.1 (by decide)) | (exact q.2.2), fun u => Or.inr (Or.inr (Or.inr (Or.inl ⟨rfl, hE, u⟩)))⟩]
        rfl
      · rw [sI_nk (by omega), show ltr 4 = 1 from rfl, is (p := False) ⟨fun u => by rcases u with q | q | q | q | q | q | q | q <;> first | (exact absurd q.1 (by decide)) | (exact hE q.2.1), fun u => u.elim⟩]
        exact (Int32.add_zero _).symm
      · rw [sI_nk (by omega), show ltr 5 = 17 from rfl, is (p := False) ⟨fun u => by rcases u with q | q | q | q | q | q | q | q <;> first | (exact absurd q.1 (by decide)) | (exact hE q.2.1), fun u => u.elim⟩]
        exact (Int32.add_zero _).symm
      · rw [sI_nk (by omega), show ltr 6 = 24 from rfl, is (p := False) ⟨fun u => by rcases u with q | q | q | q | q | q | q | q <;> first | (exact absurd q.1 (by decide)) | (exact hE q.2.1), fun u => u.elim⟩]
        exact (Int32.add_zero _).symm
      · rw [sI_nk (by omega), show ltr 7 = 13 from rfl, is (p := False) ⟨fun u => by rcases u with q | q | q | q | q | q | q | q <;> first | (exact absurd q.1 (by decide)) | (exact hE q.2.1), fun u => u.elim⟩]
        exact (Int32.add_zero _).symm
      all_goals
        rw [sI_nk (by omega), no _ (by decide)]
        exact (Int32.add_zero _).symm
theorem ee_sub (σ : Sto) (j o d n : Nat) : cnt (cc σ j o d 4) n - cnt (cc σ j o d 15) n = cnt (cc σ j o d 12) n := by
  have key : ∀ n, cnt (cc σ j o d 4) n = cnt (cc σ j o d 15) n + cnt (cc σ j o d 12) n := by
    intro n
    induction n with
    | zero => rfl
    | succ n ih =>
      rw [cnt_succ, cnt_succ, cnt_succ, ih]
      have e : b3 (cc σ j o d 4 n = true) = b3 (cc σ j o d 15 n = true) + b3 (cc σ j o d 12 n = true) := by
        by_cases hE : inS σ n (σ.1 49 j) (nI o)
        · by_cases hSn : snP σ j d n
          · rw [b3_t (p := cc σ j o d 4 n = true) (by rw [cc_iff]; exact Or.inl ⟨rfl, hE⟩), b3_t (p := cc σ j o d 15 n = true) (by rw [cc_iff]; exact Or.inr (Or.inl ⟨rfl, hE, hSn⟩)), b3_f (p := cc σ j o d 12 n = true) (by rw [cc_iff]; unfold cq; rintro (q | q | q | q | q | q | q | q) <;> first | (exact q.2.2 hSn) | (exact absurd q.1 (by decide)))]
            rfl
          · rw [b3_t (p := cc σ j o d 4 n = true) (by rw [cc_iff]; exact Or.inl ⟨rfl, hE⟩), b3_t (p := cc σ j o d 12 n = true) (by rw [cc_iff]; exact Or.inr (Or.inr (Or.inl ⟨rfl, hE, hSn⟩))), b3_f (p := cc σ j o d 15 n = true) (by rw [cc_iff]; unfold cq; rintro (q | q | q | q | q | q | q | q) <;> first | (exact absurd q.1 (by decide)) | (exact hSn q.2.2))]
            rfl
        · rw [b3_f (p := cc σ j o d 4 n = true) (by rw [cc_iff]; unfold cq; rintro (q | q | q | q | q | q | q | q) <;> first | (exact absurd q.1 (by decide)) | (exact hE q.2)), b3_f (p := cc σ j o d 15 n = true) (by rw [cc_iff]; unfold cq; rintro (q | q | q | q | q | q | q | q) <;> first | (exact absurd q.1 (by decide)) | (exact hE q.2.1)), b3_f (p := cc σ j o d 12 n = true) (by rw [cc_iff]; unfold cq; rintro (q | q | q | q | q | q | q | q) <;> first | (exact absurd q.1 (by decide)) | (exact hE q.2.1))]
          rfl
      rw [e, Int32.add_assoc, Int32.add_assoc]
      congr 1
      rw [← Int32.add_assoc, ← Int32.add_assoc, Int32.add_comm (cnt (cc σ j o d 12) n)]
  rw [key n, sub_cancel32]
theorem cc_no {σ : Sto} {j o d k : Nat} (hk : k = 21 ∨ k = 3 ∨ k = 0 ∨ k = 11 ∨ k = 2) (n : Nat) : cnt (cc σ j o d k) n = 0 := cnt_zero n (fun i _ => by
  rw [cc_iff]
  unfold cq
  rintro (q | q | q | q | q | q | q | q) <;> have := q.1 <;> omega)
theorem x12_knows (h : INVP nb nm nl nB nN td nt nw lw w L σ) {j r o d : Nat} (hb : BAL1 nb nm td w L σ j r o) (hj : j < nB) (hd : d ≤ 400) : OK (f_X12_knows L σ 37 (nI j) (nI d)) (fun q => SC σ q ∧ ∀ t, t < 13 → q.1 73 t = nmV σ j o d nb nm (ltr t)) := by
  have h0 := h
  obtain ⟨hS, hR, ⟨⟨hnb, hnm, hnl, hnB, hnN, htd, hnt, hnw⟩, ⟨eb, eb'⟩, ⟨em, em'⟩, ⟨el, el'⟩, ⟨eB, eB'⟩, ⟨eN, eN'⟩, ⟨et, et'⟩, ⟨ep, ep'⟩, ew, ew'⟩, hBR, hME, hLI, hBA, hTA, hNO, hHA, hRU, hWA, hSH, hLA⟩ := id h
  obtain ⟨⟨b1, b2, b3', b4, b5, b6⟩, ⟨b7, b8, b9, b10⟩, ⟨b11, b12, b13⟩, ⟨b14, b15, b17, b18, b19⟩, b20, b21, b22⟩ := id hb
  have r0 : ∀ s : Sto, rI L s 73 0 = some (s.1 73 0) := fun s => rI_nI (i := 0) hS.l73 (by omega) (by omega)
  have r1 : ∀ s : Sto, rI L s 73 1 = some (s.1 73 1) := fun s => rI_nI (i := 1) hS.l73 (by omega) (by omega)
  have r8 : ∀ s : Sto, rI L s 73 8 = some (s.1 73 8) := fun s => rI_nI (i := 8) hS.l73 (by omega) (by omega)
  have w2 : ∀ (s : Sto) (v : Int32), wI L s 73 2 v = some (sI s 73 2 v) := fun s v => wI_nI (i := 2) hS.l73 (by omega) (by omega)
  have w8 : ∀ (s : Sto) (v : Int32), wI L s 73 8 v = some (sI s 73 8 v) := fun s v => wI_nI (i := 8) hS.l73 (by omega) (by omega)
  have w9 : ∀ (s : Sto) (v : Int32), wI L s 73 9 v = some (sI s 73 9 v) := fun s v => wI_nI (i := 9) hS.l73 (by omega) (by omega)
  -- zeros
  have e1 : f_X12_knows L σ 37 (nI j) (nI d) = f_X12_knows_23 FU L (wS σ 73 0 13 (fun _ => 0)) 37 (nI j) (nI d) 0 := by
    unfold f_X12_knows
    refine loop (F := fun k q => f_X12_knows_2 k L q.1 37 (nI j) (nI d) q.2) (s := fun m => (wS σ 73 0 m (fun _ => 0), nI m)) 13 _ ?_ ?_ (FU_lt (by omega)) |> (fun z => by rw [wS_0] at z; exact z)
    · intro m K hm
      show f_X12_knows_2 (K + 1) L (wS σ 73 0 m (fun _ => 0)) 37 (nI j) (nI d) (nI m) = f_X12_knows_2 K L (wS σ 73 0 (m + 1) (fun _ => 0)) 37 (nI j) (nI d) (nI (m + 1))
      have e := wS_step σ 73 0 m (fun _ => 0)
      rw [Nat.zero_add] at e
      simp (disch := omega) only [f_X12_knows_2, nle_r, show ¬ 13 ≤ m by omega, wS_21, hR.r37_46, wI_nI hS.l73, e, nI_1, if_false, Option.bind_some]
    · intro K
      show f_X12_knows_2 (K + 1) L (wS σ 73 0 13 (fun _ => 0)) 37 (nI j) (nI d) (nI 13) = _
      simp (disch := omega) only [f_X12_knows_2, nle_r, Nat.le_refl, if_true]
  -- members
  have lp : ∃ t, f_X12_knows_23 FU L (wS σ 73 0 13 (fun _ => 0)) 37 (nI j) (nI d) 0 = f_X12_knows_309 FU L t 37 (nI j) (nI d) 0 ∧ (SC σ t ∧ ∀ q, q < 13 → t.1 73 q = cnt (cc σ j o d (ltr q)) nm) := by
    refine loopE (F := fun k q => f_X12_knows_23 k L q.1 37 (nI j) (nI d) q.2) (E := fun t => f_X12_knows_309 FU L t 37 (nI j) (nI d) 0) (s := (wS σ 73 0 13 (fun _ => 0), 0)) (I := fun i q => q.2 = nI i ∧ SC σ q.1 ∧ ∀ q', q' < 13 → q.1.1 73 q' = kI σ j o d i q') (Q := fun t => SC σ t ∧ ∀ q, q < 13 → t.1 73 q = cnt (cc σ j o d (ltr q)) nm) nm ?_ ?_ (FU_lt (by omega)) ?_
    · rintro i K ⟨σ', t⟩ hi ⟨et1, js, hI⟩
      dsimp only at et1 js hI
      subst et1
      have hR' : RF lw σ'.2.1 := (h0.sc js).2.1
      obtain ⟨t, e, q1, q2⟩ := x12_know1 h0 js hb hj hd hi hI (f_X12_knows_23 K)
      have em1 : σ'.1 37 4 = nI nm := (js.at rfl).trans em'
      have v52 : σ'.1 52 (40 * j + i) = σ.1 52 (40 * j + i) := js.at rfl
      have v53 : σ'.1 53 (40 * j + i) = σ.1 53 (40 * j + i) := js.at rfl
      have v54 : σ'.1 54 (40 * j + i) = σ.1 54 (40 * j + i) := js.at rfl
      refine Or.inl ⟨(t, nI (i + 1)), ?_, rfl, q1, q2⟩
      rw [← e]
      simp (disch := omega) only [f_X12_knows_23, f_X12_knows_65, f_X12_knows_66, f_X12_knows_99, em1, nI_leI, show ¬ nm ≤ i by omega, hR'.r37_20, hR'.r37_21, hR'.r37_22, mul_lit, nI_add, rI_nI hS.l52, rI_nI hS.l53, rI_nI hS.l54, v52, v53, v54, if_false, if_true, Option.bind_some, one_ne0, zero_eq0]
      by_cases k1 : σ.1 52 (40 * j + i) = -1
      · rw [if_pos k1, b3_f (p := snP σ j d i) (fun u => u.1 k1), b3_f (p := teP σ j d i) (fun u => u.1.1 k1)]
      · rw [if_neg k1]
        by_cases k2 : nI d < σ.1 52 (40 * j + i)
        · have n1 : ¬ snP σ j d i := fun u => Int32.not_le.mpr k2 u.2
          rw [if_pos k2, b3_f n1, b3_f (p := teP σ j d i) (fun u => n1 u.1)]
        · have y1 : snP σ j d i := ⟨k1, Int32.not_lt.mp k2⟩
          rw [if_neg k2, b3_t y1]
          by_cases k3 : σ.1 53 (40 * j + i) = -1
          · rw [if_pos k3, b3_f (p := teP σ j d i) (fun u => u.2.1 k3)]
          · rw [if_neg k3]
            by_cases k4 : nI d < σ.1 54 (40 * j + i)
            · rw [if_pos k4, b3_f (p := teP σ j d i) (fun u => Int32.not_le.mpr k4 u.2.2)]
            · rw [if_neg k4, b3_t (p := teP σ j d i) ⟨y1, k3, Int32.not_lt.mp k4⟩]
    · rintro K ⟨σ', t⟩ ⟨et1, js, hI⟩
      dsimp only at et1 js hI
      subst et1
      have hR' : RF lw σ'.2.1 := (h0.sc js).2.1
      have em1 : σ'.1 37 4 = nI nm := (js.at rfl).trans em'
      refine ⟨sI σ' 73 2 (σ'.1 73 0 - σ'.1 73 1), ?_, js.wr rfl, fun q hq => ?_⟩
      · simp (disch := omega) only [f_X12_knows_23, em1, nI_leI, Nat.le_refl, hR'.r37_46, r0, r1, w2, if_true, Option.bind_some]
      · by_cases z : q = 2
        · subst z
          rw [sI_eq, hI 0 (by omega), hI 1 (by omega)]
          exact ee_sub σ j o d nm
        · rw [sI_nk z, hI q hq]
          exact if_neg z
    · dsimp only
      refine ⟨nI_0.symm, (SC.rf σ).ws (fun _ => rfl), fun q hq => ?_⟩
      have := wS_in (σ := σ) (a := 73) (off := 0) (f := fun _ => (0 : Int32)) hq
      rw [Nat.zero_add] at this
      refine this.trans ?_
      unfold kI
      by_cases z : q = 2
      · rw [if_pos z]
      · rw [if_neg z]; rfl
  obtain ⟨t, e2, js, hI⟩ := lp
  -- vital
  have lv : OK (f_X12_knows_309 FU L t 37 (nI j) (nI d) 0) (fun q => SC σ q ∧ ∀ u, u < 13 → q.1 73 u = if u = 9 then nI d - nI o else if u = 8 then any1 (vtB σ (σ.1 49 j)) nb else t.1 73 u) := by
    refine loopI (F := fun k q => f_X12_knows_309 k L q.1 37 (nI j) (nI d) q.2) (s := (t, 0)) (I := fun i q => q.2 = nI i ∧ SC σ q.1 ∧ ∀ u, u < 13 → q.1.1 73 u = if u = 8 then any1 (vtB σ (σ.1 49 j)) i else t.1 73 u) _ nb ?_ ?_ (FU_lt (by omega)) ?_
    · rintro i K ⟨σ', x⟩ hi ⟨et1, ks, hJ⟩
      dsimp only at et1 ks hJ
      subst et1
      have hR' : RF lw σ'.2.1 := (h0.sc ks).2.1
      have eb1 : σ'.1 37 2 = nI nb := (ks.at rfl).trans eb'
      have v49 : σ'.1 49 j = σ.1 49 j := ks.at rfl
      have v38 : σ'.1 38 i = σ.1 38 i := ks.at rfl
      have a8 := hJ 8 (by omega)
      rw [if_pos rfl] at a8
      have nx8 : any1 (vtB σ (σ.1 49 j)) (i + 1) = if vtB σ (σ.1 49 j) i = true then 1 else any1 (vtB σ (σ.1 49 j)) i := rfl
      refine Or.inl ⟨(sI σ' 73 8 (any1 (vtB σ (σ.1 49 j)) (i + 1)), nI (i + 1)), ?_, rfl, ks.wr rfl, fun u hu => ?_⟩
      · rw [nx8]
        simp (disch := omega) only [f_X12_knows_309, f_X12_knows_350, f_X12_knows_357, eb1, nI_leI, show ¬ nb ≤ i by omega, hR'.r37_17, hR'.r37_46, rI_nI hS.l49, v49, x12_isOfKind hS hR' (show i < 6 by omega), v38, r8, w8, a8, nI_1, if_false, Option.bind_some]
        by_cases q : ((σ.1 49 j >>> (nI i &&& 31)) &&& 1) = 1
        · rw [if_pos q]
          by_cases v : kdS (σ.1 38 i) 1 = 0
          · rw [if_pos v, if_neg]
            intro u
            have := (of_decide_eq_true u).2
            rw [v] at this
            exact absurd this (by decide)
          · rw [if_neg v, if_pos]
            refine decide_eq_true ⟨q, ?_⟩
            unfold kdS at v ⊢
            rw [b3_z] at v
            exact b3_t (Classical.not_not.mp v)
        · rw [if_neg q, if_neg (fun u => q (of_decide_eq_true u).1)]
      · dsimp only
        by_cases z : u = 8
        · subst z; rw [sI_eq, if_pos rfl]
        · rw [sI_nk z, hJ u hu, if_neg z, if_neg z]
    · rintro K ⟨σ', x⟩ ⟨et1, ks, hJ⟩
      dsimp only at et1 ks hJ
      subst et1
      have hR' : RF lw σ'.2.1 := (h0.sc ks).2.1
      have eb1 : σ'.1 37 2 = nI nb := (ks.at rfl).trans eb'
      have v50 : σ'.1 50 j = nI o := (ks.at rfl).trans b18
      refine ⟨sI σ' 73 9 (nI d - nI o), ?_, ks.wr rfl, fun u hu => ?_⟩
      · simp (disch := omega) only [f_X12_knows_309, eb1, nI_leI, Nat.le_refl, hR'.r37_18, hR'.r37_46, rI_nI hS.l50, v50, w9, if_true, Option.bind_some]
      · by_cases z : u = 9
        · subst z; rw [sI_eq, if_pos rfl]
        · rw [sI_nk z, if_neg z]; exact hJ u hu
    · refine ⟨nI_0.symm, js, fun u hu => ?_⟩
      by_cases z : u = 8
      · subst z
        rw [if_pos rfl, hI 8 hu]
        exact cc_no (Or.inl rfl) nm
      · rw [if_neg z]
  obtain ⟨q, e3, ks, hJ⟩ := lv
  refine ⟨q, by rw [e1, e2, e3], ks, fun u hu => ?_⟩
  rw [hJ u hu]
  by_cases z : u = 9
  · subst z; rfl
  · rw [if_neg z]
    by_cases z2 : u = 8
    · subst z2; rfl
    · rw [if_neg z2, hI u hu, nmV_c]
      · rcases q13 hu with rfl | rfl | rfl | rfl | rfl | rfl | rfl | rfl | rfl | rfl | rfl | rfl | rfl <;> first | (exact absurd rfl z) | (exact absurd rfl z2) | decide
      · rcases q13 hu with rfl | rfl | rfl | rfl | rfl | rfl | rfl | rfl | rfl | rfl | rfl | rfl | rfl <;> first | (exact absurd rfl z) | (exact absurd rfl z2) | decide
end
