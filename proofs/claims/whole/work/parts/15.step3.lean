/-! The step: calls and returns; a run of steps -/
section
variable {O : Type} {tb : Nat → TI} {rt : Nat × Nat} {cl : CLT O} {Rk : RKT O} {go : GOT O} {dec : O → RES}
variable {G : GT} {l : Launch} {on : Nat} {nm : String} {cd : ByteArray} {nL : Nat} {ret : Option FieldType} {d : Nat} {L0 : Lay} {σ0 : Sto} {fl : Bool × Bool} {pc : Nat} {lc : List (Option AV)} {st : List AV} {L : Lay} {σ : Sto} {o : O}
variable {nx a b cc : Nat} {v : Int32} {w : Int64} {sw : List (Int32 × Nat)}

/-- a call by contract -/
theorem s_call {j i n z k : Nat} {as r : List AV} {ins : Instr} (hgo : ∀ pc lc st L σ o, go pc lc st L σ = some o → INV L0 σ0 fl lc st L σ → SG G l on nm cd nL ret d L0 (dec o) pc lc st L σ) (hcl : ∀ j L σ as k o, cl j L σ as k = some o → WT L σ → okl L as → ∃ r L' σ', k r L' σ' = some o ∧ LE L L' ∧ WT L' σ' ∧ (∀ v, r = some v → okv L' v) ∧ (fl.1 = true → L' = L) ∧ (fl.2 = true → σ' = σ) ∧ ∃ d', d' + 1 ≤ d ∧ Con G l j d' L σ as (r, L', σ')) (hk : cl j L σ as (fun q L' σ' => go (pc + 3) lc (psh q r) L' σ') = some o) (hI : INV L0 σ0 fl lc st L σ) (hst : st = as.reverse ++ r) (has : okl L as) (hr : okl L r) (hj : j - 2 < 280) (hf : (on, i, j, n, z) ∈ lkM) (hmk : (md j).2.2.2.2.2.2 = k) (hcat : catl r ≤ 8) (hdg : decode cd pc = .ok (ins, 3))
    (hkind : ∀ (p : Program) (s : State) (m : MethodId) (args : Array Value) (meth : Method) (c : Code) (H : Heap) (locs : List Loc), CX G p s m args meth c on nm cd nL ret → va_P G.2.1 vwCl (wof G L σ) H → va_S (fA G) s.heap H locs → (k = 1 ∧ ins = .invokestatic i ∧ (md j).2.2.2.2.2.1 = as.length) ∨ (k = 0 ∧ ins = .invokevirtual i ∧ (md j).2.2.2.2.2.1 + 1 = as.length ∧ ∃ (o : Nat) (as' : List AV) (cell : Cell), as.map (cv G) = .ref o :: as'.map (cv G) ∧ as.length = as'.length + 1 ∧ H[o]? = some cell ∧ cell.vm.isStatics = false ∧ s.vm.findClass (md j).1.cls = some cell.cls) ∨ (k = 2 ∧ ins = .invokespecial i ∧ (md j).2.2.2.2.2.1 + 1 = as.length ∧ ∃ (o : Nat) (as' : List AV), as.map (cv G) = .ref o :: as'.map (cv G) ∧ as.length = as'.length + 1)) : SG G l on nm cd nL ret d L0 (dec o) pc lc st L σ := by
  obtain ⟨q1, L1, σ1, hk1, hL1, hW1, hv1, hf1, hf2, d', hd', hM⟩ := hcl _ _ _ _ _ _ hk hI.2.1 has
  have hI1 : INV L0 σ0 fl lc (psh q1 r) L1 σ1 := by
    refine ⟨hI.1.tr hL1, hW1, hI.2.2.1.mono hL1, ?_, fun e => (hf1 e).trans (hI.2.2.2.2.1 e), fun e => (hf2 e).trans (hI.2.2.2.2.2 e)⟩
    cases q1 with
    | none => exact hr.mono hL1
    | some v => exact okl_cons.mpr ⟨hv1 v rfl, hr.mono hL1⟩
  have hS1 := hgo _ _ _ _ _ _ hk1 hI1
  refine ⟨hL1.tr hS1.1, hS1.2.1, hS1.2.2.1, fun p e s m args below meth c H locs ls C hs hP hS hl => ?_⟩
  have a1 : L0.2.2.1 ≤ L.2.2.1 := hI.1.1
  have a2 : L0.2.2.2 ≤ L.2.2.2 := hI.1.2.1
  have a3 : L.2.2.1 ≤ L1.2.2.1 := hL1.1
  have a4 : L.2.2.2 ≤ L1.2.2.2 := hL1.2.1
  have a5 : L1.2.2.1 ≤ (dec o).2.1.2.2.1 := hS1.1.1
  have a6 : L1.2.2.2 ≤ (dec o).2.1.2.2.2 := hS1.1.2.1
  refine w_size (k := 0) hs hP hS a1 (fun hz => ?_)
  rw [hst]
  refine w_call C rfl hd' hj hf hP hS hz (hkind p s m args meth c H locs C hP hS) hmk hM hcat (hl.1) rfl rfl ⟨show _ ≤ (dec o).2.1.2.2.1 - L0.2.2.1 from (show L.2.2.1 - L0.2.2.1 + (L1.2.2.1 - L.2.2.1) ≤ _ by omega), show _ ≤ (dec o).2.1.2.2.2 - L0.2.2.2 from (show L.2.2.2 - L0.2.2.2 + (L1.2.2.2 - L.2.2.2) ≤ _ by omega)⟩ hdg (fun H1 l1 b1 b2 => ?_)
  have := hS1.2.2.2 p e s m args below meth c H1 l1 ls C hs b1 b2 hl
  rw [show L.2.2.1 - L0.2.2.1 + (L1.2.2.1 - L.2.2.1) = L1.2.2.1 - L0.2.2.1 by omega, show L.2.2.2 - L0.2.2.2 + (L1.2.2.2 - L.2.2.2) = L1.2.2.2 - L0.2.2.2 by omega]
  exact this
theorem okl_app {a b : List AV} : okl L (a ++ b) ↔ okl L a ∧ okl L b := List.forall_mem_append
theorem okl_rev {a : List AV} (h : okl L a) : okl L a.reverse := fun v hv => h v (List.mem_reverse.mp hv)
theorem s_invokestatic {i : Nat} (htb : tb pc = (.invokestatic i, nx, (a, b, cc), v, w, sw)) (hok : okI on (decide (nm = "<init>")) cd pc (.invokestatic i, nx, (a, b, cc), v, w, sw) = true) (hgo : ∀ pc lc st L σ o, go pc lc st L σ = some o → INV L0 σ0 fl lc st L σ → SG G l on nm cd nL ret d L0 (dec o) pc lc st L σ) (h : stp tb rt fl cl Rk go pc lc st L σ = some o) (hI : INV L0 σ0 fl lc st L σ) (hcl : ∀ j L σ as k o, cl j L σ as k = some o → WT L σ → okl L as → ∃ r L' σ', k r L' σ' = some o ∧ LE L L' ∧ WT L' σ' ∧ (∀ v, r = some v → okv L' v) ∧ (fl.1 = true → L' = L) ∧ (fl.2 = true → σ' = σ) ∧ ∃ d', d' + 1 ≤ d ∧ Con G l j d' L σ as (r, L', σ')) (hd : 1 ≤ d) : SG G l on nm cd nL ret d L0 (dec o) pc lc st L σ := by
  unfold stp at h
  rw [htb] at h
  simp only [okI, Bool.and_eq_true, decide_eq_true_eq] at hok
  simp only at h
  obtain ⟨h1, h2⟩ := hok
  obtain ⟨hdg, rfl⟩ := dk_ok h1
  by_cases e1 : Nat.beq a 1 = true
  · rw [e1] at h h2
    simp only [cond_true, decide_eq_true_eq] at h2 h
    split at h
    · rename_i n j q' i' q0 r
      obtain ⟨t, o1⟩ := q0
      obtain ⟨t', o2⟩ := q'
      simp only at h
      obtain ⟨hfl, hA1⟩ := bif_n h
      obtain ⟨hq, hA2⟩ := bif_s hA1
      simp only [Bool.and_eq_true] at hq
      obtain ⟨⟨e2, e3⟩, e4⟩ := hq
      obtain rfl := Nat.eq_of_beq_eq_true e2
      obtain rfl := Nat.eq_of_beq_eq_true e3
      have hcat := Nat.le_of_ble_eq_true e4
      obtain ⟨x, hx, hA3⟩ := Option.bind_eq_some_iff.mp hA2
      obtain ⟨y, hy, hA4⟩ := Option.bind_eq_some_iff.mp hA3
      subst hx
      subst hy
      split at hA4
      · rename_i hok
        obtain ⟨-, k1⟩ := okl_cons.mp hI.2.2.2.1
        obtain ⟨-, k2⟩ := okl_cons.mp k1
        obtain ⟨hvy, k3⟩ := okl_cons.mp k2
        obtain ⟨-, k4⟩ := okl_cons.mp k3
        obtain ⟨hvx, hr⟩ := okl_cons.mp k4
        obtain ⟨x1, x2⟩ := hvx x rfl
        obtain ⟨y1, y2⟩ := hvy y rfl
        simp only at x2 y2
        simp only [okC, Bool.and_eq_true, decide_eq_true_eq] at hok
        obtain ⟨⟨⟨⟨⟨c1, c2⟩, c3⟩, c4⟩, c5⟩, c6⟩ := hok
        have hset : (wof G L σ).set y (G.1 + y, .inl (G.2.2.1 21, L.2.1 y, .inl (va_cpy (σ.1 x) (σ.1 y) i'.toNatClampNeg j.toNatClampNeg n.toNatClampNeg))) = wof G L (cpS σ x i' y j n) := by
          refine wof_set ?_ (fun z hz => cE_other ?_ rfl rfl)
          · rw [cE_int y2 (by omega) (by omega)]
            congr 4
            funext q
            simp [cpS]
          · funext q
            simp [cpS, hz]
        have hS1 := hgo _ _ _ _ _ _ hA4 (hI.put (show WT L (cpS σ x i' y j n) from hI.2.1) hr hfl)
        refine ⟨hS1.1, hS1.2.1, hS1.2.2.1, fun p e s m args below meth c H locs ls C hs hP hS hl => ?_⟩
        exact va_copyi C.1 C.2.1 (C.2.2.1.trans hl.1.symm) C.2.2.2.1 (C.2.2.2.2.1 _ h2) (C.2.2.2.2.1 _ sw_nat) (C.2.2.2.2.1 _ sw_sta) (C.2.2.2.2.1 _ sw_ini) C.2.2.2.2.2.2.2.2.1.1 hP (wof_D G L σ) hS x y 1 1 (by rw [wof_at x1, cE_int x2 (by omega) (by omega)]) (by rw [wof_at y1, cE_int y2 (by omega) (by omega)]) rfl rfl rfl c1 c2 c3 c4 c5 (fun z hz => List.all_eq_true.mp c6 z (List.mem_range.mpr hz)) hd (by rw [catl_sum]; show _ + (nativeFrameWords "java/lang/System" "arraycopy" 5 + 11) ≤ 60 * d; simp [nativeFrameWords]; omega) hdg (fun H1 l1 b1 _ b2 => by rw [hset] at b1; exact hS1.2.2.2 p e s m args below meth c H1 l1 ls C hs b1 b2 hl)
      · cases hA4
    · cases h
  · rw [Bool.not_eq_true] at e1
    rw [e1] at h h2
    simp only [cond_false] at h h2
    by_cases e2 : Nat.beq a 1000 = true
    · rw [e2] at h h2
      simp only [cond_true, decide_eq_true_eq] at h2 h
      split at h
      · rename_i y x r
        obtain ⟨hq, hA1⟩ := bif_s h
        have hcat := Nat.le_of_ble_eq_true hq
        obtain ⟨-, k1⟩ := okl_cons.mp hI.2.2.2.1
        obtain ⟨-, hr⟩ := okl_cons.mp k1
        have hS1 := hgo _ _ _ _ _ _ hA1 (hI.stk (okl_cons.mpr ⟨trivial, hr⟩))
        have b1 : L.2.2.1 ≤ (dec o).2.1.2.2.1 := hS1.1.1
        have b2 : L.2.2.2 ≤ (dec o).2.1.2.2.2 := hS1.1.2.1
        exact ⟨hS1.1, hS1.2.1, hS1.2.2.1, fun p e s m args below meth c H locs ls C hs hP hS hl => va_mmax C.1 C.2.1 (C.2.2.1.trans hl.1.symm) C.2.2.2.1 (C.2.2.2.2.1 _ h2) (C.2.2.2.2.1 _ mw_max) (C.2.2.2.2.1 _ mw_ini) (C.2.2.2.2.1 _ mc_max) hd (by rw [catl_sum]; show _ + 13 ≤ 60 * d; omega) (show _ ≤ (dec o).2.1.2.2.1 - L0.2.2.1 by omega) (show _ ≤ (dec o).2.1.2.2.2 - L0.2.2.2 by omega) hdg (hS1.2.2.2 p e s m args below meth c H locs ls C hs hP hS hl)⟩
      · cases h
    · rw [Bool.not_eq_true] at e2
      rw [e2] at h h2
      simp only [cond_false] at h h2
      by_cases e3 : Nat.beq a 1001 = true
      · rw [e3] at h h2
        simp only [cond_true, decide_eq_true_eq] at h2 h
        split at h
        · rename_i y x r
          obtain ⟨hq, hA1⟩ := bif_s h
          have hcat := Nat.le_of_ble_eq_true hq
          obtain ⟨-, k1⟩ := okl_cons.mp hI.2.2.2.1
          obtain ⟨-, hr⟩ := okl_cons.mp k1
          have hS1 := hgo _ _ _ _ _ _ hA1 (hI.stk (okl_cons.mpr ⟨trivial, hr⟩))
          have b1 : L.2.2.1 ≤ (dec o).2.1.2.2.1 := hS1.1.1
          have b2 : L.2.2.2 ≤ (dec o).2.1.2.2.2 := hS1.1.2.1
          exact ⟨hS1.1, hS1.2.1, hS1.2.2.1, fun p e s m args below meth c H locs ls C hs hP hS hl => va_mmin C.1 C.2.1 (C.2.2.1.trans hl.1.symm) C.2.2.2.1 (C.2.2.2.2.1 _ h2) (C.2.2.2.2.1 _ mw_min) (C.2.2.2.2.1 _ mw_ini) (C.2.2.2.2.1 _ mc_min) hd (by rw [catl_sum]; show _ + 13 ≤ 60 * d; omega) (show _ ≤ (dec o).2.1.2.2.1 - L0.2.2.1 by omega) (show _ ≤ (dec o).2.1.2.2.2 - L0.2.2.2 by omega) hdg (hS1.2.2.2 p e s m args below meth c H locs ls C hs hP hS hl)⟩
        · cases h
      · rw [Bool.not_eq_true] at e3
        rw [e3] at h h2
        simp only [cond_false, Bool.and_eq_true] at h h2
        obtain ⟨⟨⟨g1, g2⟩, g3⟩, g4⟩ := h2
        split at h
        · rename_i as r hsp
          obtain ⟨hq, hA1⟩ := bif_s h
          have hcat := Nat.le_of_ble_eq_true hq
          obtain ⟨bb, f1, f2, f3⟩ := spl_spec hsp
          rw [List.append_nil] at f2
          subst f2
          rw [f3] at hI
          have hok2 := okl_app.mp hI.2.2.2.1
          obtain ⟨n, z, hz⟩ := anyM_ok g1
          rw [f3]
          exact s_call hgo hcl hA1 hI (by rw [List.reverse_reverse]) (okl_rev hok2.1) hok2.2 (Nat.blt_eq.mp g2) hz (Nat.eq_of_beq_eq_true g4) hcat hdg (fun p s m args meth c H locs C hP hS => Or.inl ⟨rfl, rfl, by rw [List.length_reverse, f1]; exact Nat.eq_of_beq_eq_true g3⟩)
        · cases h
theorem s_invokevirtual {i : Nat} (htb : tb pc = (.invokevirtual i, nx, (a, b, cc), v, w, sw)) (hok : okI on (decide (nm = "<init>")) cd pc (.invokevirtual i, nx, (a, b, cc), v, w, sw) = true) (hgo : ∀ pc lc st L σ o, go pc lc st L σ = some o → INV L0 σ0 fl lc st L σ → SG G l on nm cd nL ret d L0 (dec o) pc lc st L σ) (h : stp tb rt fl cl Rk go pc lc st L σ = some o) (hI : INV L0 σ0 fl lc st L σ) (hcl : ∀ j L σ as k o, cl j L σ as k = some o → WT L σ → okl L as → ∃ r L' σ', k r L' σ' = some o ∧ LE L L' ∧ WT L' σ' ∧ (∀ v, r = some v → okv L' v) ∧ (fl.1 = true → L' = L) ∧ (fl.2 = true → σ' = σ) ∧ ∃ d', d' + 1 ≤ d ∧ Con G l j d' L σ as (r, L', σ')) : SG G l on nm cd nL ret d L0 (dec o) pc lc st L σ := by
  unfold stp at h
  rw [htb] at h
  simp only [okI, Bool.and_eq_true, decide_eq_true_eq] at hok
  simp only at h
  obtain ⟨⟨⟨⟨⟨h1, g1⟩, g2⟩, g3⟩, g4⟩, g5⟩ := hok
  obtain ⟨hdg, rfl⟩ := dk_ok h1
  split at h
  · rename_i as q0 r hsp
    obtain ⟨t, o1⟩ := q0
    simp only at h
    obtain ⟨hq, hA1⟩ := bif_s h
    simp only [Bool.and_eq_true] at hq
    have e1 := Nat.eq_of_beq_eq_true hq.1.1
    have e12 := Nat.le_of_ble_eq_true hq.1.2
    have hcat := Nat.le_of_ble_eq_true hq.2
    obtain ⟨x, hx, hA2⟩ := Option.bind_eq_some_iff.mp hA1
    subst hx
    subst e1
    obtain ⟨bb, f1, f2, f3⟩ := spl_spec hsp
    rw [List.append_nil] at f2
    subst f2
    rw [f3] at hI
    have hok2 := okl_app.mp hI.2.2.2.1
    obtain ⟨hv, hr⟩ := okl_cons.mp hok2.2
    obtain ⟨n, z, hz⟩ := anyM_ok g1
    obtain ⟨x1, x2⟩ := hv x rfl
    simp only at x2
    rw [f3]
    have ht : Nat.beq t 50 = false ∨ Nat.beq t 50 = true := by cases Nat.beq t 50 <;> simp
    refine s_call hgo hcl hA2 hI (by simp) (okl_cons.mpr ⟨hv, okl_rev hok2.1⟩) hr (Nat.blt_eq.mp g2) hz (Nat.eq_of_beq_eq_true g4) hcat hdg (fun p s m args meth c H locs C hP hS => Or.inr (Or.inl ⟨rfl, rfl, by simp [f1]; exact Nat.eq_of_beq_eq_true g3, ?_⟩))
    rcases ht with ht | ht
    · rw [ht] at g5
      simp only [cond_false, Bool.and_eq_true, decide_eq_true_eq] at g5
      have h13 : t < 13 := Nat.lt_succ_of_le (Nat.le_of_ble_eq_true g5.1)
      obtain ⟨c1, -⟩ := CK_ok t h13
      obtain ⟨cell, d1, d2, d3⟩ := va_recv (q0 := x) C.2.2.2.2.2.2.2.2.1.1 hP c1 (by rw [wof_at x1, cE_obj x2 h13])
      exact ⟨_, bb.reverse, cell, rfl, by simp, d1, d2, by rw [g5.2]; exact d3⟩
    · exfalso
      have := Nat.eq_of_beq_eq_true ht
      omega
  · rename_i as q0 r hsp
    obtain ⟨t, w0⟩ := q0
    simp only at h
    obtain ⟨hq, hA1⟩ := bif_s h
    simp only [Bool.and_eq_true] at hq
    obtain ⟨⟨e1, e2⟩, e3⟩ := hq
    have e2 := Nat.eq_of_beq_eq_true e2
    have hcat := Nat.le_of_ble_eq_true e3
    subst e2
    rw [e1] at g5
    simp only [cond_true, decide_eq_true_eq] at g5
    obtain ⟨bb, f1, f2, f3⟩ := spl_spec hsp
    rw [List.append_nil] at f2
    subst f2
    rw [f3] at hI
    have hok2 := okl_app.mp hI.2.2.2.1
    obtain ⟨hv, hr⟩ := okl_cons.mp hok2.2
    obtain ⟨n, z, hz⟩ := anyM_ok g1
    have hw := hv.1 (Or.inl rfl)
    rw [f3]
    refine s_call hgo hcl hA1 hI (by simp) (okl_cons.mpr ⟨hv, okl_rev hok2.1⟩) hr (Nat.blt_eq.mp g2) hz (Nat.eq_of_beq_eq_true g4) hcat hdg (fun p s m args meth c H locs C hP hS => Or.inr (Or.inl ⟨rfl, rfl, by simp [f1]; exact Nat.eq_of_beq_eq_true g3, ?_⟩))
    obtain ⟨k, v, a1, a2, a3, -⟩ := C.2.2.2.2.2.2.2.2.1.2.2.2.2.1 w0 hw
    obtain ⟨cell, d1, d2, d3, -⟩ := a3.kept hS.2.1
    exact ⟨k, bb.reverse, cell, by simp [cv, a1, va_rf], by simp, d1, d2, by rw [g5]; exact d3⟩
  · cases h
theorem s_invokespecial {i : Nat} (htb : tb pc = (.invokespecial i, nx, (a, b, cc), v, w, sw)) (hok : okI on (decide (nm = "<init>")) cd pc (.invokespecial i, nx, (a, b, cc), v, w, sw) = true) (hgo : ∀ pc lc st L σ o, go pc lc st L σ = some o → INV L0 σ0 fl lc st L σ → SG G l on nm cd nL ret d L0 (dec o) pc lc st L σ) (h : stp tb rt fl cl Rk go pc lc st L σ = some o) (hI : INV L0 σ0 fl lc st L σ) (hcl : ∀ j L σ as k o, cl j L σ as k = some o → WT L σ → okl L as → ∃ r L' σ', k r L' σ' = some o ∧ LE L L' ∧ WT L' σ' ∧ (∀ v, r = some v → okv L' v) ∧ (fl.1 = true → L' = L) ∧ (fl.2 = true → σ' = σ) ∧ ∃ d', d' + 1 ≤ d ∧ Con G l j d' L σ as (r, L', σ')) (hd : 1 ≤ d) : SG G l on nm cd nL ret d L0 (dec o) pc lc st L σ := by
  unfold stp at h
  rw [htb] at h
  simp only [okI, Bool.and_eq_true, decide_eq_true_eq] at hok
  simp only at h
  obtain ⟨h1, h2⟩ := hok
  obtain ⟨hdg, rfl⟩ := dk_ok h1
  by_cases e0 : Nat.beq a 0 = true
  · rw [e0] at h h2
    simp only [cond_true, decide_eq_true_eq] at h h2
    split at h
    · rename_i q0 r
      obtain ⟨t, o1⟩ := q0
      simp only at h
      obtain ⟨hq, hA1⟩ := bif_s h
      have hcat := Nat.le_of_ble_eq_true hq
      obtain ⟨x, hx, hA2⟩ := Option.bind_eq_some_iff.mp hA1
      subst hx
      obtain ⟨-, hr⟩ := okl_cons.mp hI.2.2.2.1
      have hS1 := hgo _ _ _ _ _ _ hA2 (hI.stk hr)
      exact ⟨hS1.1, hS1.2.1, hS1.2.2.1, fun p e s m args below meth c H locs ls C hs hP hS hl => W.objInit C.1 C.2.1 C.2.2.2.1 (C.2.2.2.2.1 _ h2) (C.2.2.2.2.1 _ ow_inst) (C.2.2.2.2.1 _ ow_code) rfl (hl.1.trans C.2.2.1.symm) rfl hdg hd (by show 2 * 0 + ((r.map (cv G)).map fun v => v.category).sum + 12 ≤ 60 * d; rw [catl_sum]; omega) (hS1.2.2.2 p e s m args below meth c H locs ls C hs hP hS hl)⟩
    · cases h
  · rw [Bool.not_eq_true] at e0
    rw [e0] at h h2
    simp only [cond_false, Bool.and_eq_true] at h h2
    obtain ⟨⟨⟨g1, g2⟩, g3⟩, g4⟩ := h2
    split at h
    · rename_i as q0 r hsp
      obtain ⟨t, o1⟩ := q0
      simp only at h
      obtain ⟨hq, hA1⟩ := bif_s h
      simp only [Bool.and_eq_true] at hq
      have e1 := Nat.eq_of_beq_eq_true hq.1.1
      have hcat := Nat.le_of_ble_eq_true hq.2
      obtain ⟨x, hx, hA2⟩ := Option.bind_eq_some_iff.mp hA1
      subst hx
      subst e1
      obtain ⟨bb, f1, f2, f3⟩ := spl_spec hsp
      rw [List.append_nil] at f2
      subst f2
      rw [f3] at hI
      have hok2 := okl_app.mp hI.2.2.2.1
      obtain ⟨hv, hr⟩ := okl_cons.mp hok2.2
      obtain ⟨n, z, hz⟩ := anyM_ok g1
      rw [f3]
      exact s_call hgo hcl hA2 hI (by simp) (okl_cons.mpr ⟨hv, okl_rev hok2.1⟩) hr (Nat.blt_eq.mp g2) hz (Nat.eq_of_beq_eq_true g4) hcat hdg (fun p s m args meth c H locs C hP hS => Or.inr (Or.inr ⟨rfl, rfl, by simp [f1]; exact Nat.eq_of_beq_eq_true g3, _, bb.reverse, rfl, by simp⟩))
    · cases h
theorem s_end {r : Option AV} (hR : ∀ r L σ o, (fl.1 = true → L = L0) → (fl.2 = true → σ = σ0) → Rk r L σ = some o → dec o = (r, L, σ)) (hrt : retOK rt ret) (hk : Rk r L σ = some o) (hI : INV L0 σ0 fl lc st L σ) (hv : ∀ v, r = some v → okv L v)
    (hw : ∀ (p : Program) (e : Env) (R : Room) (s : State) (m : MethodId) (args : Array Value) (below : List Frame) (meth : Method) (c : Code) (H : Heap) (locs : List Loc) (cells slots : Nat) (Qc : Array Value → State → Outcome → State → Prop) (ls : Array Slot), CX G p s m args meth c on nm cd nL ret → (∀ t : State, t.heap = H → s.WarmedH t.vm → Qc args s (.returned (r.map (cv G))) t) → (∀ q ∈ locs, fA G q.base) → W p l e R s m args below meth c H locs cells slots (MQ below Qc args s cells slots (fA G)) (F0 m pc ls (st.map (cv G)))) : SG G l on nm cd nL ret d L0 (dec o) pc lc st L σ := by
  have hd := hR r L σ o hI.2.2.2.2.1 hI.2.2.2.2.2 hk
  rw [hd]
  exact ⟨LE.rf L, hI.2.1, hv, fun p e s m args below meth c H locs ls C hs hP hS hl => hw p e _ s m args below meth c H locs _ _ _ ls C (fun t ht _ => ⟨rfl, by rw [ht]; exact hP, hS.F ht⟩) hS.2.2⟩
theorem s_ireturn  (htb : tb pc = (.ireturn, nx, (a, b, cc), v, w, sw)) (hok : okI on (decide (nm = "<init>")) cd pc (.ireturn, nx, (a, b, cc), v, w, sw) = true) (hgo : ∀ pc lc st L σ o, go pc lc st L σ = some o → INV L0 σ0 fl lc st L σ → SG G l on nm cd nL ret d L0 (dec o) pc lc st L σ) (h : stp tb rt fl cl Rk go pc lc st L σ = some o) (hI : INV L0 σ0 fl lc st L σ) (hR : ∀ r L σ o, (fl.1 = true → L = L0) → (fl.2 = true → σ = σ0) → Rk r L σ = some o → dec o = (r, L, σ)) (hrt : retOK rt ret) : SG G l on nm cd nL ret d L0 (dec o) pc lc st L σ := by
  unfold stp at h
  rw [htb] at h
  simp only [okI, Bool.and_eq_true, decide_eq_true_eq] at hok
  simp only at h
  obtain ⟨hdg, rfl⟩ := dk_ok hok
  split at h
  · rename_i x
    by_cases e0 : Nat.beq rt.1 0 = true
    · rw [e0] at h
      have hr0 := hrt.1 (by rw [Nat.eq_of_beq_eq_true e0]; omega)
      rw [Nat.eq_of_beq_eq_true e0] at hr0
      exact s_end hR hrt h hI (fun v hv => by cases hv; trivial) (fun p e R s m args below meth c H locs cells slots Qc ls C hq hf => W.iret C.1 C.2.1 (C.2.2.2.2.2.1.trans hr0) hq hf hdg C.2.2.2.2.2.2.1)
    · rw [Bool.not_eq_true] at e0
      rw [e0] at h
      simp only [cond_false] at h
      obtain ⟨e1, hA1⟩ := bif_s h
      obtain ⟨u, hu, hA2⟩ := Option.bind_eq_some_iff.mp hA1
      have hr0 := hrt.1 (Nat.le_of_ble_eq_true e1)
      have hn : narrow (nty rt.1) (.int x) = .int x := by
        unfold ckN at hu
        split at hu
        · rename_i hc
          exact hc.1
        · cases hu
      exact s_end hR hrt hA2 hI (fun v hv => by cases hv; trivial) (fun p e R s m args below meth c H locs cells slots Qc ls C hq hf => W.zret C.1 C.2.1 (C.2.2.2.2.2.1.trans hr0) hn hq hf hdg C.2.2.2.2.2.2.1)
  · cases h
theorem s_areturn  (htb : tb pc = (.areturn, nx, (a, b, cc), v, w, sw)) (hok : okI on (decide (nm = "<init>")) cd pc (.areturn, nx, (a, b, cc), v, w, sw) = true) (hgo : ∀ pc lc st L σ o, go pc lc st L σ = some o → INV L0 σ0 fl lc st L σ → SG G l on nm cd nL ret d L0 (dec o) pc lc st L σ) (h : stp tb rt fl cl Rk go pc lc st L σ = some o) (hI : INV L0 σ0 fl lc st L σ) (hR : ∀ r L σ o, (fl.1 = true → L = L0) → (fl.2 = true → σ = σ0) → Rk r L σ = some o → dec o = (r, L, σ)) (hrt : retOK rt ret) : SG G l on nm cd nL ret d L0 (dec o) pc lc st L σ := by
  unfold stp at h
  rw [htb] at h
  simp only [okI, Bool.and_eq_true, decide_eq_true_eq] at hok
  simp only at h
  obtain ⟨hdg, rfl⟩ := dk_ok hok
  split at h
  · rename_i q0
    obtain ⟨t, o1⟩ := q0
    simp only at h
    obtain ⟨e1, hA1⟩ := bif_s h
    obtain ⟨n, hr0⟩ := hrt.2.1 (Nat.eq_of_beq_eq_true e1)
    obtain ⟨hv, -⟩ := okl_cons.mp hI.2.2.2.1
    by_cases e2 : Nat.beq t rt.2 = true
    · rw [e2] at hA1
      have e3 := Nat.eq_of_beq_eq_true e2
      rw [← e3] at hA1
      refine s_end hR hrt hA1 hI (fun v h1 => by cases h1; exact hv) (fun p e R s m args below meth c H locs cells slots Qc ls C hq hf => W.aret C.1 C.2.1 (C.2.2.2.2.2.1.trans hr0) (Or.inl ⟨n, rfl⟩) ?_ hq hf hdg C.2.2.2.2.2.2.1)
      exact cv_rn G _
    · rw [Bool.not_eq_true] at e2
      rw [e2] at hA1
      simp only [cond_false] at hA1
      cases o1 with
      | none =>
        exact s_end hR hrt hA1 hI (fun v h1 => by cases h1; exact fun y hy => by cases hy) (fun p e R s m args below meth c H locs cells slots Qc ls C hq hf => W.aret C.1 C.2.1 (C.2.2.2.2.2.1.trans hr0) (Or.inl ⟨n, rfl⟩) (Or.inl rfl) hq hf hdg C.2.2.2.2.2.2.1)
      | some y => cases hA1
  · cases h
theorem s_return_  (htb : tb pc = (.return_, nx, (a, b, cc), v, w, sw)) (hok : okI on (decide (nm = "<init>")) cd pc (.return_, nx, (a, b, cc), v, w, sw) = true) (hgo : ∀ pc lc st L σ o, go pc lc st L σ = some o → INV L0 σ0 fl lc st L σ → SG G l on nm cd nL ret d L0 (dec o) pc lc st L σ) (h : stp tb rt fl cl Rk go pc lc st L σ = some o) (hI : INV L0 σ0 fl lc st L σ) (hR : ∀ r L σ o, (fl.1 = true → L = L0) → (fl.2 = true → σ = σ0) → Rk r L σ = some o → dec o = (r, L, σ)) (hrt : retOK rt ret) : SG G l on nm cd nL ret d L0 (dec o) pc lc st L σ := by
  unfold stp at h
  rw [htb] at h
  simp only [okI, Bool.and_eq_true, decide_eq_true_eq] at hok
  simp only at h
  obtain ⟨hdg, rfl⟩ := dk_ok hok
  split at h
  · obtain ⟨e1, hA1⟩ := bif_s h
    have hr0 := hrt.2.2 (Nat.eq_of_beq_eq_true e1)
    exact s_end hR hrt hA1 hI (fun v hv => by cases hv) (fun p e R s m args below meth c H locs cells slots Qc ls C hq hf => W.vret C.1 C.2.1 (C.2.2.2.2.2.1.trans hr0) hq hf hdg C.2.2.2.2.2.2.1)
  · cases h
theorem stp_sound (HT : tOK on (decide (nm = "<init>")) cd tb) (hd : 1 ≤ d) (hgo : ∀ pc lc st L σ o, go pc lc st L σ = some o → INV L0 σ0 fl lc st L σ → SG G l on nm cd nL ret d L0 (dec o) pc lc st L σ) (hcl : ∀ j L σ as k o, cl j L σ as k = some o → WT L σ → okl L as → ∃ r L' σ', k r L' σ' = some o ∧ LE L L' ∧ WT L' σ' ∧ (∀ v, r = some v → okv L' v) ∧ (fl.1 = true → L' = L) ∧ (fl.2 = true → σ' = σ) ∧ ∃ d', d' + 1 ≤ d ∧ Con G l j d' L σ as (r, L', σ')) (hR : ∀ r L σ o, (fl.1 = true → L = L0) → (fl.2 = true → σ = σ0) → Rk r L σ = some o → dec o = (r, L, σ)) (hrt : retOK rt ret) (h : stp tb rt fl cl Rk go pc lc st L σ = some o) (hI : INV L0 σ0 fl lc st L σ) : SG G l on nm cd nL ret d L0 (dec o) pc lc st L σ := by
  rcases htb : tb pc with ⟨ins, nx, ⟨a, b, cc⟩, v, w, sw⟩
  have hok := HT pc
  rw [htb] at hok
  cases ins with
  | iconst x0 => exact s_iconst htb hok hgo h hI 
  | bipush x0 => exact s_bipush htb hok hgo h hI 
  | sipush x0 => exact s_sipush htb hok hgo h hI 
  | lconst x0 => exact s_lconst htb hok hgo h hI 
  | ldc2_w x0 => exact s_ldc2_w htb hok hgo h hI 
  | ldc x0 => exact s_ldc htb hok hgo h hI 
  | ldc_w x0 => exact s_ldc_w htb hok hgo h hI 
  | aconst_null  => exact s_aconst_null htb hok hgo h hI 
  | iload x0 => exact s_iload htb hok hgo h hI 
  | iload_n x0 => exact s_iload_n htb hok hgo h hI 
  | lload x0 => exact s_lload htb hok hgo h hI 
  | lload_n x0 => exact s_lload_n htb hok hgo h hI 
  | aload x0 => exact s_aload htb hok hgo h hI 
  | aload_n x0 => exact s_aload_n htb hok hgo h hI 
  | istore x0 => exact s_istore htb hok hgo h hI 
  | istore_n x0 => exact s_istore_n htb hok hgo h hI 
  | astore x0 => exact s_astore htb hok hgo h hI 
  | astore_n x0 => exact s_astore_n htb hok hgo h hI 
  | lstore x0 => exact s_lstore htb hok hgo h hI 
  | lstore_n x0 => exact s_lstore_n htb hok hgo h hI 
  | iinc x0 x1 => exact s_iinc htb hok hgo h hI 
  | iadd  => exact s_iadd htb hok hgo h hI 
  | isub  => exact s_isub htb hok hgo h hI 
  | imul  => exact s_imul htb hok hgo h hI 
  | iand  => exact s_iand htb hok hgo h hI 
  | ior  => exact s_ior htb hok hgo h hI 
  | ishl  => exact s_ishl htb hok hgo h hI 
  | ishr  => exact s_ishr htb hok hgo h hI 
  | ladd  => exact s_ladd htb hok hgo h hI 
  | lsub  => exact s_lsub htb hok hgo h hI 
  | land  => exact s_land htb hok hgo h hI 
  | lor  => exact s_lor htb hok hgo h hI 
  | iushr  => exact s_iushr htb hok hgo h hI 
  | lshl  => exact s_lshl htb hok hgo h hI 
  | lshr  => exact s_lshr htb hok hgo h hI 
  | lushr  => exact s_lushr htb hok hgo h hI 
  | lcmp  => exact s_lcmp htb hok hgo h hI 
  | ineg  => exact s_ineg htb hok hgo h hI 
  | i2l  => exact s_i2l htb hok hgo h hI 
  | i2s  => exact s_i2s htb hok hgo h hI 
  | i2b  => exact s_i2b htb hok hgo h hI 
  | i2c  => exact s_i2c htb hok hgo h hI 
  | l2i  => exact s_l2i htb hok hgo h hI 
  | idiv  => exact s_idiv htb hok hgo h hI 
  | irem  => exact s_irem htb hok hgo h hI 
  | dup  => exact s_dup htb hok hgo h hI 
  | dup2  => exact s_dup2 htb hok hgo h hI 
  | pop  => exact s_pop htb hok hgo h hI 
  | goto x0 => exact s_goto htb hok hgo h hI 
  | ifCond x0 x1 => exact s_ifCond htb hok hgo h hI 
  | if_icmp x0 x1 => exact s_if_icmp htb hok hgo h hI 
  | ifnull x0 => exact s_ifnull htb hok hgo h hI 
  | ifnonnull x0 => exact s_ifnonnull htb hok hgo h hI 
  | tableswitch x0 x1 x2 x3 => exact s_tableswitch htb hok hgo h hI 
  | lookupswitch x0 x1 => exact s_lookupswitch htb hok hgo h hI 
  | getfield x0 => exact s_getfield htb hok hgo h hI 
  | getstatic x0 => exact s_getstatic htb hok hgo h hI 
  | putfield x0 => exact s_putfield htb hok hgo h hI 
  | iaload  => exact s_iaload htb hok hgo h hI 
  | saload  => exact s_saload htb hok hgo h hI 
  | baload  => exact s_baload htb hok hgo h hI 
  | aaload  => exact s_aaload htb hok hgo h hI 
  | iastore  => exact s_iastore htb hok hgo h hI 
  | sastore  => exact s_sastore htb hok hgo h hI 
  | bastore  => exact s_bastore htb hok hgo h hI 
  | aastore  => exact s_aastore htb hok hgo h hI 
  | arraylength  => exact s_arraylength htb hok hgo h hI 
  | new x0 => exact s_new htb hok hgo h hI 
  | newarray x0 => exact s_newarray htb hok hgo h hI 
  | anewarray x0 => exact s_anewarray htb hok hgo h hI 
  | invokestatic x0 => exact s_invokestatic htb hok hgo h hI hcl hd
  | invokevirtual x0 => exact s_invokevirtual htb hok hgo h hI hcl
  | invokespecial x0 => exact s_invokespecial htb hok hgo h hI hcl hd
  | ireturn  => exact s_ireturn htb hok hgo h hI hR hrt
  | areturn  => exact s_areturn htb hok hgo h hI hR hrt
  | return_  => exact s_return_ htb hok hgo h hI hR hrt
  | _ => exact absurd (show okI on (decide (nm = "<init>")) cd pc _ = true from hok) (by first | exact Bool.false_ne_true | (intro _; unfold stp at h; rw [htb] at h; cases h))
end
