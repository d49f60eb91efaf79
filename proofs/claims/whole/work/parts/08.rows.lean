/-! Rows of the heap, by layout and store -/
theorem cE_obj {G : GT} {L : Lay} {σ : Sto} {x k : Nat} (hk : L.1 x = k) (h : k < 13) : cE G L σ x = .inr (k, (List.range (nf k)).map (fun j => cv G (fval k j σ x))) := by
  subst hk
  exact if_pos h
theorem cE_int {G : GT} {L : Lay} {σ : Sto} {x k : Nat} (hk : L.1 x = k) (h : 20 ≤ k) (h2 : k < 23) : cE G L σ x = .inl (G.2.2.1 k, L.2.1 x, .inl (σ.1 x)) := by
  subst hk
  unfold cE
  rw [if_neg (by omega), if_pos h2]
theorem cE_ref {G : GT} {L : Lay} {σ : Sto} {x k : Nat} (hk : L.1 x = k) (h : 23 ≤ k) : cE G L σ x = .inl (G.2.2.1 k, L.2.1 x, .inr (.inr (.inr (.inr (fun j => (σ.2.1 x j).map (G.1 + ·)))))) := by
  subst hk
  unfold cE
  rw [if_neg (by omega), if_neg (by omega)]
theorem cE_other {G : GT} {L : Lay} {σ σ' : Sto} {y : Nat} (h1 : σ'.1 y = σ.1 y) (h2 : σ'.2.1 y = σ.2.1 y) (h3 : σ'.2.2 y = σ.2.2 y) : cE G L σ' y = cE G L σ y := by
  unfold cE
  simp only [fval, h1, h2, h3]
theorem inb_vp {i : Int32} {n : Nat} (h : inb i n = true) : vp_in i n := by
  simp only [inb, decide_eq_true_eq] at h
  exact h
theorem fld_at {G : GT} {σ : Sto} {k j x : Nat} (h : j < nf k) : ((List.range (nf k)).map (fun j => cv G (fval k j σ x)))[j]? = some (cv G (fval k j σ x)) := by
  simp [List.getElem?_map, List.getElem?_range h]
theorem fld_set {G : GT} {σ σ' : Sto} {k j x : Nat} {v : Value} (hv : v = cv G (fval k j σ' x)) (h : ∀ i, i ≠ j → fval k i σ' x = fval k i σ x) : ((List.range (nf k)).map (fun j => cv G (fval k j σ x))).set j v = (List.range (nf k)).map (fun j => cv G (fval k j σ' x)) := by
  subst hv
  apply List.ext_getElem?
  intro i
  by_cases hj : j < nf k
  · by_cases e : i = j
    · subst e
      rw [List.getElem?_set_self (by simpa using hj), fld_at hj]
    · rw [List.getElem?_set_ne (Ne.symm e)]
      by_cases hi : i < nf k
      · rw [fld_at hi, fld_at hi, h i e]
      · rw [List.getElem?_eq_none (by simp; omega), List.getElem?_eq_none (by simp; omega)]
  · rw [List.set_eq_of_length_le (by simp; omega)]
    by_cases hi : i < nf k
    · rw [fld_at hi, fld_at hi, h i (by omega)]
    · rw [List.getElem?_eq_none (by simp; omega), List.getElem?_eq_none (by simp; omega)]
section
variable {G : GT} {p : Program} {l : Launch} {e : Env} {R : Room} {s : State} {m : MethodId} {args : Array Value} {below : List Frame} {meth : Method} {c : Code} {H : Heap} {locs : List Loc} {cells slots : Nat} {Q : State → Prop}
variable {on : Nat} {nm : String} {cd : ByteArray} {nL : Nat} {ret : Option FieldType} {pc i : Nat} {ls : Array Slot} {rest : List Value} {L : Lay} {σ σ' : Sto} {x : Nat}
theorem w_get {k j : Nat} {n : Nat} {z : Nat} (C : CX G p s m args meth c on nm cd nL ret) (hP : va_P G.2.1 vwCl (wof G L σ) H) (hx : x < L.2.2.1) (hk : L.1 x = k) (hf : (on, i, k, j, n, z) ∈ lkF) (hdg : decode cd pc = .ok (.getfield i, 3))
    (kk : W p l e R s m args below meth c H locs cells slots Q (F0 m (pc + 3) ls (cv G (fval k j σ x) :: rest))) : W p l e R s m args below meth c H locs cells slots Q (F0 m pc ls (.ref (G.1 + x) :: rest)) := by
  obtain ⟨hx1, hb, hml, hown, hts, hr, hlk, hnm, hK, hB⟩ := C
  have hc := List.all_eq_true.mp lkF_ok _ hf
  simp only [ckF, Bool.and_eq_true, decide_eq_true_eq] at hc
  obtain ⟨⟨hk13, hj⟩, hl⟩ := hc
  obtain ⟨c1, c2, c3, c4, c5, c6, c7, c8⟩ := CK_ok k hk13
  have hat : (wof G L σ)[x]? = some (G.1 + x, .inr (k, (List.range (nf k)).map (fun j => cv G (fval k j σ x)))) := by rw [wof_at hx, cE_obj hk hk13]
  by_cases hn : Nat.beq n 0 = true
  · rw [hn] at hl
    exact va_get hx1 hb hts c2 hown hK.1 hP x hat c1 j hj (hts _ (gAt_mem hl)) (fun _ h => h) (fld_at (by rw [c5]; exact hj)) hdg kk
  · rw [Bool.not_eq_true] at hn
    rw [hn] at hl
    exact va_getN hx1 hb hts c2 hown hK.1 hP x hat c1 j hj (va_Nw.use rfl (hK.2.1 _ (nAt_mem hl))) (fun _ h => h) (fld_at (by rw [c5]; exact hj)) hdg kk
theorem vs_put (hP : va_P G.2.1 vwCl ((wof G L σ).set x (G.1 + x, cE G L σ' x)) H) (ho : ∀ y, y ≠ x → σ'.1 y = σ.1 y ∧ σ'.2.1 y = σ.2.1 y ∧ σ'.2.2 y = σ.2.2 y) : va_P G.2.1 vwCl (wof G L σ') H := by
  rwa [wof_set rfl (fun y hy => cE_other (ho y hy).1 (ho y hy).2.1 (ho y hy).2.2)] at hP
theorem fput_spec {k j : Nat} {v : AV} (h : fput k j σ x v = some σ') (hT : okT k j = true) (G : GT) :
    (cv G v = cv G (fval k j σ' x) ∧ (∀ i, i ≠ j → fval k i σ' x = fval k i σ x) ∧ (∀ y, y ≠ x → σ'.1 y = σ.1 y ∧ σ'.2.1 y = σ.2.1 y ∧ σ'.2.2 y = σ.2.2 y)) ∧ narrow (tyK k j) (cv G v) = cv G v ∧ fits (tyK k j) (cv G v) = true := by
  unfold fput at h
  unfold okT at hT
  split at h
  · rename_i y h0
    rw [h0] at hT
    simp only [decide_eq_true_eq] at hT
    have key : σ' = sI σ x j y → (cv G (.inl y) = cv G (fval k j σ' x) ∧ (∀ i, i ≠ j → fval k i σ' x = fval k i σ x) ∧ (∀ y, y ≠ x → σ'.1 y = σ.1 y ∧ σ'.2.1 y = σ.2.1 y ∧ σ'.2.2 y = σ.2.2 y)) := by
      rintro rfl
      refine ⟨?_, fun i hi => ?_, fun y hy => ⟨?_, rfl, rfl⟩⟩
      · unfold fval
        rw [h0]
        simp [cv, sI]
      · unfold fval
        simp [sI, hi]
      · funext i
        simp [sI, hy]
    rw [hT]
    by_cases hn : Nat.beq (fnc k j) 0 = true
    · rw [hn] at h
      have h := Option.some.inj h
      refine ⟨key h.symm, ?_⟩
      rw [Nat.eq_of_beq_eq_true hn]
      exact ⟨rfl, rfl⟩
    · rw [Bool.not_eq_true] at hn
      rw [hn] at h
      simp only [cond_false] at h
      unfold ckN at h
      split at h
      · rename_i hc
        exact ⟨key (Option.some.inj h).symm, hc⟩
      · cases h
  · rename_i y h0
    rw [h0] at hT
    simp only [decide_eq_true_eq] at hT
    have h := (Option.some.inj h).symm
    subst h
    rw [hT]
    refine ⟨⟨?_, fun i hi => ?_, fun y hy => ⟨rfl, rfl, ?_⟩⟩, rfl, rfl⟩
    · unfold fval
      rw [h0]
      simp [cv, sJ]
    · unfold fval
      simp [sJ, hi]
    · funext i
      simp [sJ, hy]
  · rename_i t q h0
    rw [h0] at hT
    simp only at hT
    by_cases hq : Nat.beq q.1 t = true
    · rw [hq] at h
      have h := (Option.some.inj h).symm
      subst h
      have hcv : cv G (.inr (.inr (.inl q))) = va_rf (q.2.map (G.1 + ·)) := rfl
      refine ⟨⟨?_, fun i hi => ?_, fun y hy => ⟨rfl, ?_, rfl⟩⟩, ?_⟩
      · unfold fval
        rw [h0]
        simp [cv, sR]
      · unfold fval
        simp [sR, hi]
      · funext i
        simp [sR, hy]
      · rw [hcv]
        cases hty : tyK k j <;> rw [hty] at hT <;> first | (cases hT; done) | (cases q.2 <;> exact ⟨rfl, rfl⟩)
    · rw [Bool.not_eq_true] at hq
      rw [hq] at h
      cases h
  · cases h
theorem w_put {k j n z : Nat} {v : AV} (C : CX G p s m args meth c on nm cd nL ret) (hP : va_P G.2.1 vwCl (wof G L σ) H) (hS : va_S (fA G) s.heap H locs) (hx : x < L.2.2.1) (hk : L.1 x = k) (hf : (on, i, k, j, n, z) ∈ lkF) (hfin : ((cK k).2.1 j).2.2.2 = false ∨ (nm = "<init>" ∧ ((cK k).2.1 j).1 = cnm on ∧ ((cK k).2.1 j).2.2.2 = true ∧ Nat.beq n 0 = true)) (hv : fput k j σ x v = some σ') (hdg : decode cd pc = .ok (.putfield i, 3))
    (kk : ∀ (H1 : Heap) (locs1 : List Loc), va_P G.2.1 vwCl (wof G L σ') H1 → va_S (fA G) s.heap H1 locs1 → W p l e R s m args below meth c H1 locs1 cells slots Q (F0 m (pc + 3) ls rest)) : W p l e R s m args below meth c H locs cells slots Q (F0 m pc ls (cv G v :: .ref (G.1 + x) :: rest)) := by
  obtain ⟨hx1, hb, hml, hown, hts, hr, hlk, hnm, hK, hB⟩ := C
  have hc := List.all_eq_true.mp lkF_ok _ hf
  simp only [ckF, Bool.and_eq_true, decide_eq_true_eq] at hc
  obtain ⟨⟨hk13, hj⟩, hl⟩ := hc
  obtain ⟨c1, c2, c3, c4, c5, c6, c7, c8⟩ := CK_ok k hk13
  obtain ⟨⟨f1, f2, f3⟩, f4, f5⟩ := fput_spec hv (c8 j hj) G
  have hat : (wof G L σ)[x]? = some (G.1 + x, .inr (k, (List.range (nf k)).map (fun j => cv G (fval k j σ x)))) := by rw [wof_at hx, cE_obj hk hk13]
  have hset : ((wof G L σ).set x (G.1 + x, .inr (k, ((List.range (nf k)).map (fun j => cv G (fval k j σ x))).set j (cv G v)))) = wof G L σ' := by
    rw [fld_set f1 f2, ← cE_obj hk hk13]
    exact wof_set rfl (fun y hy => cE_other (f3 y hy).1 (f3 y hy).2.1 (f3 y hy).2.2)
  have hjl : j < ((List.range (nf k)).map (fun j => cv G (fval k j σ x))).length := by simp; rw [c5]; exact hj
  have go : ∀ (H1 : Heap) (locs1 : List Loc), va_P G.2.1 vwCl ((wof G L σ).set x (G.1 + x, .inr (k, ((List.range (nf k)).map (fun j => cv G (fval k j σ x))).set j (cv G v)))) H1 → va_D (fA G) ((wof G L σ).set x (G.1 + x, .inr (k, ((List.range (nf k)).map (fun j => cv G (fval k j σ x))).set j (cv G v)))) → va_S (fA G) s.heap H1 locs1 → W p l e R s m args below meth c H1 locs1 cells slots Q (F0 m (pc + 3) ls rest) := by
    intro H1 locs1 h1 _ h3
    rw [hset] at h1
    exact kk H1 locs1 h1 h3
  rcases hfin with hfin | ⟨hn1, hn2, hn3, hn4⟩
  · by_cases hn : Nat.beq n 0 = true
    · rw [hn] at hl
      exact va_put hx1 hb hts c2 (tyK k) c4 c3 hown hK.1 hP (wof_D G L σ) hS x hat c1 j hj (hts _ (gAt_mem hl)) (fun _ h => h) hfin (c4 j hj) f4 f5 hjl hdg go
    · rw [Bool.not_eq_true] at hn
      rw [hn] at hl
      exact va_putN hx1 hb hts c2 (tyK k) c4 c3 hown hK.1 hP (wof_D G L σ) hS x hat c1 j hj (va_Nw.use rfl (hK.2.1 _ (nAt_mem hl))) (fun _ h => h) hfin (c4 j hj) f4 f5 hjl hdg go
  · rw [hn4] at hl
    exact va_putF hx1 hb hts c2 (tyK k) c4 c3 hown hK.1 hP (wof_D G L σ) hS x hat c1 j hj (hts _ (gAt_mem hl)) (fun _ h => h) hn3 (hnm.trans hn1) hn2 (c4 j hj) f4 f5 hjl hdg go
/-- reading an array of small numbers -/
theorem w_ald {k t : Nat} {v : Int32} {j : Int32} {ins : Instr} (C : CX G p s m args meth c on nm cd nL ret) (hP : va_P G.2.1 vwCl (wof G L σ) H) (hx : x < L.2.2.1) (hk : L.1 x = k) (ht : (k = 20 ∧ ins = .iaload) ∨ (k = 21 ∧ ins = .saload) ∨ (k = 22 ∧ ins = .baload)) (hv : rI L σ x j = some v) (hdg : decode cd pc = .ok (ins, 1))
    (kk : W p l e R s m args below meth c H locs cells slots Q (F0 m (pc + 1) ls (.int v :: rest))) : W p l e R s m args below meth c H locs cells slots Q (F0 m pc ls (.int j :: .ref (G.1 + x) :: rest)) := by
  obtain ⟨hx1, hb, hml, hown, hts, hr, hlk, hnm, hK, hB⟩ := C
  unfold rI at hv
  split at hv
  · rename_i hi
    have hv := Option.some.inj hv
    subst hv
    rcases ht with ⟨rfl, rfl⟩ | ⟨rfl, rfl⟩ | ⟨rfl, rfl⟩
    · exact va_iald hx1 hb hK.1 hP x 0 (by rw [wof_at hx, cE_int hk (by omega) (by omega)]) rfl (inb_vp hi) hdg kk
    · exact va_sald hx1 hb hK.1 hP x 1 (by rw [wof_at hx, cE_int hk (by omega) (by omega)]) rfl (inb_vp hi) hdg kk
    · exact va_zald hx1 hb hK.1 hP x 2 (by rw [wof_at hx, cE_int hk (by omega) (by omega)]) rfl (inb_vp hi) hdg kk
  · cases hv
theorem sI_row (σ : Sto) (x j : Nat) (v : Int32) : (sI σ x j v).1 x = upd (σ.1 x) j v := by
  funext i
  by_cases h : i = j
  · simp [sI, upd, h]
  · simp [sI, upd, h]
theorem sI_set {k j : Nat} {v : Int32} (hk : L.1 x = k) (h : 20 ≤ k) (h2 : k < 23) : (wof G L σ).set x (G.1 + x, .inl (G.2.2.1 k, L.2.1 x, .inl (upd (σ.1 x) j v))) = wof G L (sI σ x j v) := by
  refine wof_set ?_ (fun y hy => cE_other ?_ rfl rfl)
  · rw [cE_int hk h h2, sI_row]
  · funext i
    simp [sI, hy]
theorem w_ast {k : Nat} {v v' : Int32} {j : Int32} {ins : Instr} (C : CX G p s m args meth c on nm cd nL ret) (hP : va_P G.2.1 vwCl (wof G L σ) H) (hS : va_S (fA G) s.heap H locs) (hx : x < L.2.2.1) (hk : L.1 x = k) (ht : (k = 20 ∧ ins = .iastore ∧ v' = v) ∨ (k = 21 ∧ ins = .sastore ∧ v' = nSh v) ∨ (k = 22 ∧ ins = .bastore ∧ v' = nBo v)) (hv : wI L σ x j v' = some σ') (hdg : decode cd pc = .ok (ins, 1))
    (kk : ∀ (H1 : Heap) (locs1 : List Loc), va_P G.2.1 vwCl (wof G L σ') H1 → va_S (fA G) s.heap H1 locs1 → W p l e R s m args below meth c H1 locs1 cells slots Q (F0 m (pc + 1) ls rest)) : W p l e R s m args below meth c H locs cells slots Q (F0 m pc ls (.int v :: .int j :: .ref (G.1 + x) :: rest)) := by
  obtain ⟨hx1, hb, hml, hown, hts, hr, hlk, hnm, hK, hB⟩ := C
  unfold wI at hv
  split at hv
  · rename_i hi
    have hv := Option.some.inj hv
    subst hv
    rcases ht with ⟨rfl, rfl, rfl⟩ | ⟨rfl, rfl, rfl⟩ | ⟨rfl, rfl, rfl⟩
    · exact va_iast hx1 hb hK.1 hP (wof_D G L σ) hS x 0 (by rw [wof_at hx, cE_int hk (by omega) (by omega)]) rfl (inb_vp hi) hdg (fun H1 l1 a _ b => kk H1 l1 (by rw [sI_set hk (by omega) (by omega)] at a; exact a) b)
    · exact va_sast hx1 hb hK.1 hP (wof_D G L σ) hS x 1 (by rw [wof_at hx, cE_int hk (by omega) (by omega)]) rfl (inb_vp hi) hdg (fun H1 l1 a _ b => kk H1 l1 (by rw [sI_set hk (by omega) (by omega)] at a; exact a) b)
    · exact va_zast hx1 hb hK.1 hP (wof_D G L σ) hS x 2 (by rw [wof_at hx, cE_int hk (by omega) (by omega)]) rfl (inb_vp hi) hdg (fun H1 l1 a _ b => kk H1 l1 (by rw [sI_set hk (by omega) (by omega)] at a; exact a) b)
  · cases hv
theorem k3 {k : Nat} (h1 : 23 ≤ k) (h2 : k ≤ 25) : ∃ C, (tysG G)[k - 20]? = some (G.2.2.1 k, .object C) ∧ vwCl[etg k]? = some (cK (etg k)) ∧ (cK (etg k)).1 = C ∧ etg k < 13 := by
  rcases (show k = 23 ∨ k = 24 ∨ k = 25 by omega) with rfl | rfl | rfl
  · exact ⟨RX2, rfl, rfl, rfl, by decide⟩
  · exact ⟨RX0, rfl, rfl, rfl, by decide⟩
  · exact ⟨RX4, rfl, rfl, rfl, by decide⟩
theorem w_aald {k t : Nat} {o : Option Nat} {j : Int32} (C : CX G p s m args meth c on nm cd nL ret) (hP : va_P G.2.1 vwCl (wof G L σ) H) (hx : x < L.2.2.1) (hk : L.1 x = k) (h1 : 23 ≤ k) (h2 : k ≤ 25) (hv : rR L σ x j = some o) (hdg : decode cd pc = .ok (.aaload, 1))
    (kk : W p l e R s m args below meth c H locs cells slots Q (F0 m (pc + 1) ls (cv G (vR t o) :: rest))) : W p l e R s m args below meth c H locs cells slots Q (F0 m pc ls (.int j :: .ref (G.1 + x) :: rest)) := by
  obtain ⟨hx1, hb, hml, hown, hts, hr, hlk, hnm, hK, hB⟩ := C
  unfold rR at hv
  split at hv
  · rename_i hi
    have hv := Option.some.inj hv
    subst hv
    obtain ⟨C, q1, -⟩ := k3 (G := G) h1 h2
    exact va_aldq (f := fun j => (σ.2.1 x j).map (G.1 + ·)) hx1 hb hK.1 hP x (k - 20) (by rw [wof_at hx, cE_ref hk h1]) q1 (inb_vp hi) hdg kk
  · cases hv
theorem w_aast {k y : Nat} {j : Int32} (C : CX G p s m args meth c on nm cd nL ret) (hP : va_P G.2.1 vwCl (wof G L σ) H) (hS : va_S (fA G) s.heap H locs) (hx : x < L.2.2.1) (hk : L.1 x = k) (h1 : 23 ≤ k) (h2 : k ≤ 25) (hy : y < L.2.2.1) (hyk : L.1 y = etg k) (hv : wR L σ x j (some y) = some σ') (hdg : decode cd pc = .ok (.aastore, 1))
    (kk : ∀ (H1 : Heap) (locs1 : List Loc), va_P G.2.1 vwCl (wof G L σ') H1 → va_S (fA G) s.heap H1 locs1 → W p l e R s m args below meth c H1 locs1 cells slots Q (F0 m (pc + 1) ls rest)) : W p l e R s m args below meth c H locs cells slots Q (F0 m pc ls (.ref (G.1 + y) :: .int j :: .ref (G.1 + x) :: rest)) := by
  obtain ⟨hx1, hb, hml, hown, hts, hr, hlk, hnm, hK, hB⟩ := C
  unfold wR at hv
  split at hv
  · rename_i hi
    have hv := Option.some.inj hv
    subst hv
    obtain ⟨C, q1, q2, q3, q4⟩ := k3 (G := G) h1 h2
    subst q3
    refine va_astq hx1 hb hK.1 hP (wof_D G L σ) hS x (k - 20) y (etg k) (by rw [wof_at hx, cE_ref hk h1]) q1 (by rw [wof_at hy, cE_obj hyk q4]) q2 (inb_vp hi) hdg (fun H1 l1 a _ b => kk H1 l1 ?_ b)
    have hs : (wof G L σ).set x (G.1 + x, .inl (G.2.2.1 k, L.2.1 x, .inr (.inr (.inr (.inr (va_up (fun j => (σ.2.1 x j).map (G.1 + ·)) j.toNatClampNeg (some (G.1 + y)))))))) = wof G L (sR σ x j.toNatClampNeg (some y)) := by
      refine wof_set ?_ (fun z hz => cE_other rfl ?_ rfl)
      · rw [cE_ref hk h1]
        congr 7
        funext i
        by_cases h : i = j.toNatClampNeg
        · simp [sR, va_up, h]
        · simp [sR, va_up, h]
      · funext i
        simp [sR, hz]
    rw [hs] at a
    exact a
  · cases hv
theorem w_alen {k : Nat} (C : CX G p s m args meth c on nm cd nL ret) (hP : va_P G.2.1 vwCl (wof G L σ) H) (hx : x < L.2.2.1) (hk : L.1 x = k) (h1 : 20 ≤ k) (h2 : k ≤ 25) (hdg : decode cd pc = .ok (.arraylength, 1))
    (kk : W p l e R s m args below meth c H locs cells slots Q (F0 m (pc + 1) ls (.int (nI (L.2.1 x)) :: rest))) : W p l e R s m args below meth c H locs cells slots Q (F0 m pc ls (.ref (G.1 + x) :: rest)) := by
  obtain ⟨hx1, hb, hml, hown, hts, hr, hlk, hnm, hK, hB⟩ := C
  have ht : ∃ ty, (tysG G)[k - 20]? = some (G.2.2.1 k, ty) := by
    rcases (show k = 20 ∨ k = 21 ∨ k = 22 ∨ k = 23 ∨ k = 24 ∨ k = 25 by omega) with rfl | rfl | rfl | rfl | rfl | rfl <;> exact ⟨_, rfl⟩
  obtain ⟨ty, ht⟩ := ht
  by_cases h3 : k < 23
  · exact va_alen (x := (L.2.1 x, .inl (σ.1 x))) hx1 hb hK.1 hP x (k - 20) (by rw [wof_at hx, cE_int hk h1 h3]) ht rfl hdg kk
  · exact va_alen (x := (L.2.1 x, .inr (.inr (.inr (.inr (fun j => (σ.2.1 x j).map (G.1 + ·))))))) hx1 hb hK.1 hP x (k - 20) (by rw [wof_at hx, cE_ref hk (by omega)]) ht rfl hdg kk
theorem w_size {k n : Nat} (hs : s.heap.size = G.1 + n) (hP : va_P G.2.1 vwCl (wof G L σ) H) (hS : va_S (fA G) s.heap H locs) (hn : n ≤ L.2.2.1) {g : JFrame} (kk : H.size = G.1 + L.2.2.1 → W p l e R s m args below meth c H locs (L.2.2.1 - n) slots Q g) : W p l e R s m args below meth c H locs (L.2.2.1 - n) slots Q g := by
  intro T hT X
  have h1 := X.heapSize
  rw [hT] at h1
  refine kk ?_ T hT X
  have h2 : G.1 + L.2.2.1 ≤ H.size := by
    by_cases h0 : L.2.2.1 = 0
    · have := hS.1
      omega
    · have := (hP (L.2.2.1 - 1) _ (wof_at (by omega))).lt
      simp only at this
      omega
  omega
theorem w_new {k : Nat} {z : Nat} (C : CX G p s m args meth c on nm cd nL ret) (hP : va_P G.2.1 vwCl (wof G L σ) H) (hS : va_S (fA G) s.heap H locs) (hz : H.size = G.1 + L.2.2.1) (hf : (on, i, k, z) ∈ lkC) (hcells : cells + 1 ≤ R.cells) (hslots : slots + nf k ≤ R.slots) (hdg : decode cd pc = .ok (.new i, 3))
    (kk : ∀ H1 : Heap, va_P G.2.1 vwCl (wof G (pL L k 0 (nf k)) (zS σ L.2.2.1)) H1 → va_S (fA G) s.heap H1 locs → W p l e R s m args below meth c H1 locs (cells + 1) (slots + nf k) Q (F0 m (pc + 3) ls (.ref (G.1 + L.2.2.1) :: rest))) : W p l e R s m args below meth c H locs cells slots Q (F0 m pc ls rest) := by
  obtain ⟨hx1, hb, hml, hown, hts, hr, hlk, hnm, hK, hB⟩ := C
  have hc := List.all_eq_true.mp lkC_ok _ hf
  simp only [ckC, Bool.and_eq_true, decide_eq_true_eq] at hc
  obtain ⟨hk13, hl⟩ := hc
  obtain ⟨c1, c2, c3, c4, c5, c6, c7, c8⟩ := CK_ok k hk13
  have hKn := hK.1.1 k _ c1
  rw [c5] at hslots kk
  refine W.newcK hx1 hb hown (hts _ (gAt_mem hl)) (hts _ c6) (hts _ c7) rfl hdg hcells hslots hKn.2.1 hz fun H1 kC hkC e1 z1 o1 => ?_
  refine kk H1 ?_ ⟨Nat.le_trans hS.1 (by omega), fun q h1 h2 => (o1 q (by have := hS.1; omega)).trans (hS.2.1 q h1 h2), hS.2.2⟩
  have hk' : (pL L k 0 (cK k).2.2).1 L.2.2.1 = k := if_pos rfl
  rw [← wof_push rfl]
  refine (hP.kept (fun j q hj => o1 q.1 (by rw [← hz]; exact (hP j q hj).lt))).app (fun j q hj => ?_)
  have hz : j < 1 := (List.getElem?_eq_some_iff.mp hj).1
  rw [show j = 0 by omega] at hj
  cases hj
  show va_at _ _ (G.1 + L.2.2.1, cE G (pL L k 0 (cK k).2.2) (zS σ L.2.2.1) L.2.2.1) H1
  rw [cE_obj hk' hk13]
  refine ⟨_, c1, (u_born (tyK k) hts c2 hKn hkC e1 c4).to (fun j hj => ?_)⟩
  have hT := c8 j hj
  show _ = vp_V ((List.range (nf k)).map (fun j => cv G (fval k j (zS σ L.2.2.1) L.2.2.1))) j
  unfold vp_V
  rw [List.getD_eq_getElem?_getD, fld_at (by rw [c5]; exact hj)]
  unfold okT at hT
  unfold fval
  split at hT
  · rename_i h0
    rw [h0]
    simp only [decide_eq_true_eq] at hT
    rw [hT]
    simp only [zS, cv, if_true, Option.getD_some]
    unfold nty
    split <;> rfl
  · rename_i h0
    rw [h0]
    simp only [decide_eq_true_eq] at hT
    rw [hT]
    simp [zS, cv, defaultValue]
  · rename_i t h0
    rw [h0]
    simp only [zS, cv, if_true, Option.getD_some]
    cases hty : tyK k j <;> rw [hty] at hT <;> first | (cases hT; done) | rfl
end
