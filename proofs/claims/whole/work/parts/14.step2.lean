/-! The step: heap, switches, calls, returns -/
theorem swc_T {O : Type} {x : Int32} {dT pc : Nat} {go : Nat → Option O} {o : O} : ∀ {offs : List Int} {lo : Int}, swc x dT go (swT pc lo offs) = some o → (∃ (i : Nat) (off : Int), offs[i]? = some off ∧ x = Int32.ofInt (lo + i) ∧ go ((pc : Int) + off).toNat = some o) ∨ ((∀ i : Nat, i < offs.length → x ≠ Int32.ofInt (lo + i)) ∧ go dT = some o)
  | [], lo, h => Or.inr ⟨fun i hi => absurd hi (Nat.not_lt_zero i), h⟩
  | off :: r, lo, h => by
    unfold swT swc at h
    split at h
    · rename_i hx
      exact Or.inl ⟨0, off, rfl, by simpa using hx, h⟩
    · rename_i hx
      rcases swc_T (offs := r) (lo := lo + 1) h with ⟨i, off', h1, h2, h3⟩ | ⟨h1, h2⟩
      · exact Or.inl ⟨i + 1, off', h1, by rw [h2]; congr 1; push_cast; omega, h3⟩
      · refine Or.inr ⟨fun i hi => ?_, h2⟩
        cases i with
        | zero => simpa using hx
        | succ i =>
          have := h1 i (by simpa using hi)
          rw [show lo + ((i + 1 : Nat) : Int) = lo + 1 + (i : Int) by push_cast; omega]
          exact this
theorem i32_small {k : Int} (h : smallI k = true) : (Int32.ofInt k).toInt = k := by
  simp only [smallI, Bool.and_eq_true, decide_eq_true_eq] at h
  rw [Int32.toInt_ofInt]
  exact Int.bmod_eq_of_le (by have e : (Int32.size : Nat) = 4294967296 := rfl
                              rw [e]; omega) (by have e : (Int32.size : Nat) = 4294967296 := rfl
                                                 rw [e]; omega)
theorem swc_L {O : Type} {x : Int32} {dT pc : Nat} {go : Nat → Option O} {o : O} {d : Int} (hd : (pc : Int) + d = (dT : Int)) : ∀ {ps : List (Int × Int)}, ps.all (fun q => smallI q.1 && decide (0 ≤ (pc : Int) + q.2)) = true → swc x dT go (swL pc ps) = some o → ∃ t : Nat, (pc : Int) + Op.lookupswitch.offset ps d x.toInt = (t : Int) ∧ go t = some o
  | [], _, h => ⟨dT, by simpa [Op.lookupswitch.offset] using hd, h⟩
  | q :: r, hs, h => by
    rw [List.all_cons, Bool.and_eq_true] at hs
    obtain ⟨hq, hs⟩ := hs
    simp only [Bool.and_eq_true, decide_eq_true_eq] at hq
    unfold swL swc at h
    split at h
    · rename_i hx
      refine ⟨_, ?_, h⟩
      have e : x.toInt = q.1 := by rw [hx]; exact i32_small hq.1
      obtain ⟨q1, q2⟩ := q
      simp only at e hq ⊢
      rw [e]
      simp [Op.lookupswitch.offset]
      omega
    · rename_i hx
      obtain ⟨t, h1, h2⟩ := swc_L hd hs h
      refine ⟨t, ?_, h2⟩
      obtain ⟨q1, q2⟩ := q
      rw [lv_osw hx (i32_small hq.1)]
      exact h1
section
variable {O : Type} {tb : Nat → TI} {rt : Nat × Nat} {cl : CLT O} {Rk : RKT O} {go : GOT O} {dec : O → RES}
variable {G : GT} {l : Launch} {on : Nat} {nm : String} {cd : ByteArray} {nL : Nat} {ret : Option FieldType} {d : Nat} {L0 : Lay} {σ0 : Sto} {fl : Bool × Bool} {pc : Nat} {lc : List (Option AV)} {st : List AV} {L : Lay} {σ : Sto} {o : O}
variable {nx a b cc : Nat} {v : Int32} {w : Int64} {sw : List (Int32 × Nat)}

theorem s_tableswitch {dd lo hi : Int} {offs : Array Int} (htb : tb pc = (.tableswitch dd lo hi offs, nx, (a, b, cc), v, w, sw)) (hok : okI on (decide (nm = "<init>")) cd pc (.tableswitch dd lo hi offs, nx, (a, b, cc), v, w, sw) = true) (hgo : ∀ pc lc st L σ o, go pc lc st L σ = some o → INV L0 σ0 fl lc st L σ → SG G l on nm cd nL ret d L0 (dec o) pc lc st L σ) (h : stp tb rt fl cl Rk go pc lc st L σ = some o) (hI : INV L0 σ0 fl lc st L σ)  : SG G l on nm cd nL ret d L0 (dec o) pc lc st L σ := by
  unfold stp at h
  rw [htb] at h
  simp only [okI, Bool.and_eq_true, decide_eq_true_eq] at hok
  simp only at h
  obtain ⟨⟨⟨⟨⟨⟨h1, h2⟩, h3⟩, h4⟩, h5⟩, h6⟩, h7⟩ := hok
  split at h
  · rename_i x r
    obtain ⟨-, hr⟩ := okl_cons.mp hI.2.2.2.1
    subst h3
    have hb4 := h4
    have hb5 := h5
    simp only [smallI, Bool.and_eq_true, decide_eq_true_eq] at hb4 hb5
    rcases swc_T h with ⟨i, off, g1, g2, g3⟩ | ⟨g1, g2⟩
    · have hi : i < offs.size := by
        have := (List.getElem?_eq_some_iff.mp g1).1
        simpa using this
      have hx : x.toInt = lo + i := by
        rw [g2]
        apply i32_small
        simp only [smallI, Bool.and_eq_true, decide_eq_true_eq]
        omega
      have hp : 0 ≤ (pc : Int) + off := by
        have := List.all_eq_true.mp h7 off (List.mem_of_getElem? g1)
        exact of_decide_eq_true this
      refine sg_same (hgo _ _ _ _ _ _ g3 (hI.stk hr)) (fun p e R s m args below meth c H locs cells slots Q ls C hP hS hl k => lv_tableIn C.1 C.2.1 h1 (by omega) (by omega) (off := off) ?_ (by omega) k)
      rw [hx, show (lo + (i : Int) - lo).toNat = i by omega]
      rw [← Array.getElem?_toList]
      exact g1
    · refine sg_same (hgo _ _ _ _ _ _ g2 (hI.stk hr)) (fun p e R s m args below meth c H locs cells slots Q ls C hP hS hl k => lv_tableOut C.1 C.2.1 h1 ?_ (jt_ok h2) k)
      by_cases q1 : x.toInt < lo
      · exact Or.inl q1
      · by_cases q2 : hi < x.toInt
        · exact Or.inr q2
        · exfalso
          refine g1 (x.toInt - lo).toNat (by simp; omega) ?_
          rw [show lo + (((x.toInt - lo).toNat : Nat) : Int) = x.toInt by omega, Int32.ofInt_toInt]
  · cases h
theorem s_lookupswitch {dd : Int} {ps : Array (Int × Int)} (htb : tb pc = (.lookupswitch dd ps, nx, (a, b, cc), v, w, sw)) (hok : okI on (decide (nm = "<init>")) cd pc (.lookupswitch dd ps, nx, (a, b, cc), v, w, sw) = true) (hgo : ∀ pc lc st L σ o, go pc lc st L σ = some o → INV L0 σ0 fl lc st L σ → SG G l on nm cd nL ret d L0 (dec o) pc lc st L σ) (h : stp tb rt fl cl Rk go pc lc st L σ = some o) (hI : INV L0 σ0 fl lc st L σ)  : SG G l on nm cd nL ret d L0 (dec o) pc lc st L σ := by
  unfold stp at h
  rw [htb] at h
  simp only [okI, Bool.and_eq_true, decide_eq_true_eq] at hok
  simp only at h
  obtain ⟨⟨⟨⟨h1, h2⟩, h3⟩, h4⟩, h5⟩ := hok
  split at h
  · rename_i x r
    obtain ⟨-, hr⟩ := okl_cons.mp hI.2.2.2.1
    subst h3
    obtain ⟨t, g1, g2⟩ := swc_L (jt_ok h2) h5 h
    exact sg_same (hgo _ _ _ _ _ _ g2 (hI.stk hr)) (fun p e R s m args below meth c H locs cells slots Q ls C hP hS hl k => lv_lookup C.1 C.2.1 h1 h4 rfl g1 k)
  · cases h
theorem s_getfield {i : Nat} (htb : tb pc = (.getfield i, nx, (a, b, cc), v, w, sw)) (hok : okI on (decide (nm = "<init>")) cd pc (.getfield i, nx, (a, b, cc), v, w, sw) = true) (hgo : ∀ pc lc st L σ o, go pc lc st L σ = some o → INV L0 σ0 fl lc st L σ → SG G l on nm cd nL ret d L0 (dec o) pc lc st L σ) (h : stp tb rt fl cl Rk go pc lc st L σ = some o) (hI : INV L0 σ0 fl lc st L σ)  : SG G l on nm cd nL ret d L0 (dec o) pc lc st L σ := by
  unfold stp at h
  rw [htb] at h
  simp only [okI, Bool.and_eq_true, decide_eq_true_eq] at hok
  simp only at h
  obtain ⟨h1, h2⟩ := hok
  obtain ⟨hdg, rfl⟩ := dk_ok h1
  split at h
  · rename_i q0 r
    obtain ⟨t, o'⟩ := q0
    simp only at h
    obtain ⟨hv, hr⟩ := okl_cons.mp hI.2.2.2.1
    obtain ⟨hq, hA1⟩ := bif_s h
    rw [Bool.and_eq_true] at hq
    have hq2 := Nat.eq_of_beq_eq_true hq.1
    have hq3 := Nat.le_of_ble_eq_true hq.2
    obtain ⟨x, hx, hA2⟩ := Option.bind_eq_some_iff.mp hA1
    subst hx
    subst hq2
    obtain ⟨x1, x2⟩ := hv x rfl
    have ha : Nat.beq t 50 = false := by
      cases hb : Nat.beq t 50 with
      | false => rfl
      | true =>
        have := Nat.eq_of_beq_eq_true hb
        omega
    rw [ha] at h2
    obtain ⟨z, hz⟩ := anyF_ok h2
    have h13 : t < 13 := by
      have hc := List.all_eq_true.mp lkF_ok _ hz
      simp only [ckF, Bool.and_eq_true, decide_eq_true_eq] at hc
      exact hc.1.1
    exact sg_same (hgo _ _ _ _ _ _ hA2 (hI.stk (okl_cons.mpr ⟨okv_fval hI.2.1 x1 x2 h13, hr⟩))) (fun p e R s m args below meth c H locs cells slots Q ls C hP hS hl k => w_get C hP x1 x2 hz hdg k)
  · rename_i q0 r
    obtain ⟨t, w0⟩ := q0
    simp only at h
    obtain ⟨hv, hr⟩ := okl_cons.mp hI.2.2.2.1
    obtain ⟨hq, hA1⟩ := bif_s h
    rw [Bool.and_eq_true] at hq
    obtain ⟨ha, hq1⟩ := hq
    rw [ha] at h2
    have hq2 := Nat.eq_of_beq_eq_true hq1
    subst hq2
    have hw := hv.1 (Or.inl rfl)
    obtain ⟨z, hz⟩ := anyV_ok h2
    by_cases hb : Nat.beq b 0 = true
    · rw [hb] at hA1
      exact sg_same (hgo _ _ _ _ _ _ hA1 (hI.stk (okl_cons.mpr ⟨⟨fun _ => hw, fun e => by simp at e⟩, hr⟩))) (fun p e R s m args below meth c H locs cells slots Q ls C hP hS hl k => w_getC C hS hw hz hdg (by rw [hb]; exact k))
    · rw [Bool.not_eq_true] at hb
      rw [hb] at hA1
      exact sg_same (hgo _ _ _ _ _ _ hA1 (hI.stk (okl_cons.mpr ⟨trivial, hr⟩))) (fun p e R s m args below meth c H locs cells slots Q ls C hP hS hl k => w_getC C hS hw hz hdg (by rw [hb]; exact k))
  · cases h
theorem s_getstatic {i : Nat} (htb : tb pc = (.getstatic i, nx, (a, b, cc), v, w, sw)) (hok : okI on (decide (nm = "<init>")) cd pc (.getstatic i, nx, (a, b, cc), v, w, sw) = true) (hgo : ∀ pc lc st L σ o, go pc lc st L σ = some o → INV L0 σ0 fl lc st L σ → SG G l on nm cd nL ret d L0 (dec o) pc lc st L σ) (h : stp tb rt fl cl Rk go pc lc st L σ = some o) (hI : INV L0 σ0 fl lc st L σ)  : SG G l on nm cd nL ret d L0 (dec o) pc lc st L σ := by
  unfold stp at h
  rw [htb] at h
  simp only [okI, Bool.and_eq_true, decide_eq_true_eq] at hok
  simp only at h
  obtain ⟨h1, h2⟩ := hok
  obtain ⟨hdg, rfl⟩ := dk_ok h1
  by_cases ha : Nat.beq a 0 = true
  · rw [ha] at h h2
    simp only [cond_true, Bool.and_eq_true, decide_eq_true_eq] at h2
    obtain ⟨g1, rfl⟩ := h2
    obtain ⟨n, z, hz⟩ := anyG_ok g1
    exact sg_same (hgo _ _ _ _ _ _ h (hI.stk (okl_cons.mpr ⟨trivial, hI.2.2.2.1⟩))) (fun p e R s m args below meth c H locs cells slots Q ls C hP hS hl k => w_gets C hS hz (by decide) hdg k)
  · rw [Bool.not_eq_true] at ha
    rw [ha] at h h2
    simp only [cond_false] at h2
    by_cases hc : Nat.beq cc 3 = true
    · rw [hc] at h2
      simp only [cond_true, Bool.and_eq_true] at h2
      obtain ⟨g1, g2⟩ := h2
      obtain rfl := Nat.eq_of_beq_eq_true g2
      obtain rfl := Nat.eq_of_beq_eq_true hc
      obtain ⟨n, z, hz⟩ := anyG_ok g1
      exact sg_same (hgo _ _ _ _ _ _ h (hI.stk (okl_cons.mpr ⟨⟨fun e => by simp at e, fun e => by simp at e⟩, hI.2.2.2.1⟩))) (fun p e R s m args below meth c H locs cells slots Q ls C hP hS hl k => w_gets C hS hz (by decide) hdg k)
    · rw [Bool.not_eq_true] at hc
      rw [hc] at h2
      simp only [cond_false, Bool.and_eq_true] at h2
      obtain ⟨⟨g1, g2⟩, g3⟩ := h2
      obtain rfl := Nat.eq_of_beq_eq_true g1
      have hb := Nat.le_of_ble_eq_true g2
      obtain ⟨n, z, hz⟩ := anyG_ok g3
      refine sg_same (hgo _ _ _ _ _ _ h (hI.stk (okl_cons.mpr ⟨⟨fun e => by simp at e, fun _ => by show b < 2; omega⟩, hI.2.2.2.1⟩))) (fun p e R s m args below meth c H locs cells slots Q ls C hP hS hl k => w_gets C hS hz (by omega) hdg ?_)
      rcases (show b = 0 ∨ b = 1 by omega) with rfl | rfl
      · exact k
      · exact k
theorem s_putfield {i : Nat} (htb : tb pc = (.putfield i, nx, (a, b, cc), v, w, sw)) (hok : okI on (decide (nm = "<init>")) cd pc (.putfield i, nx, (a, b, cc), v, w, sw) = true) (hgo : ∀ pc lc st L σ o, go pc lc st L σ = some o → INV L0 σ0 fl lc st L σ → SG G l on nm cd nL ret d L0 (dec o) pc lc st L σ) (h : stp tb rt fl cl Rk go pc lc st L σ = some o) (hI : INV L0 σ0 fl lc st L σ)  : SG G l on nm cd nL ret d L0 (dec o) pc lc st L σ := by
  unfold stp at h
  rw [htb] at h
  simp only [okI, Bool.and_eq_true, decide_eq_true_eq] at hok
  simp only at h
  obtain ⟨⟨h1, h2⟩, h3⟩ := hok
  obtain ⟨hdg, rfl⟩ := dk_ok h1
  split at h
  · rename_i y q0 r
    obtain ⟨t, o'⟩ := q0
    simp only at h
    obtain ⟨hy, hr0⟩ := okl_cons.mp hI.2.2.2.1
    obtain ⟨hv, hr⟩ := okl_cons.mp hr0
    obtain ⟨hfl, hA1⟩ := bif_n h
    obtain ⟨hq, hA2⟩ := bif_s hA1
    have hq2 := Nat.eq_of_beq_eq_true hq
    obtain ⟨x, hx, hA3⟩ := Option.bind_eq_some_iff.mp hA2
    subst hx
    subst hq2
    obtain ⟨σ', hs, hA4⟩ := Option.bind_eq_some_iff.mp hA3
    obtain ⟨x1, x2⟩ := hv x rfl
    obtain ⟨z, hz⟩ := anyF_ok h2
    have h13 : t < 13 := by
      have hc := List.all_eq_true.mp lkF_ok _ hz
      simp only [ckF, Bool.and_eq_true, decide_eq_true_eq] at hc
      exact hc.1.1
    have hfin : ((cK t).2.1 b).2.2.2 = false ∨ (nm = "<init>" ∧ ((cK t).2.1 b).1 = cnm on ∧ ((cK t).2.1 b).2.2.2 = true ∧ Nat.beq cc 0 = true) := by
      cases hf : ((cK t).2.1 b).2.2.2 with
      | false => exact Or.inl rfl
      | true =>
        rw [hf] at h3
        simp only [cond_true, Bool.and_eq_true, decide_eq_true_eq] at h3
        exact Or.inr ⟨h3.1.1, h3.2, rfl, h3.1.2⟩
    exact sg_put (hgo _ _ _ _ _ _ hA4 (hI.put (hI.2.1.fput x2 h13 hy hs) hr hfl)) (fun p e R s m args below meth c H locs cells slots Q ls C hP hS k => w_put C hP hS x1 x2 hz hfin hs hdg k)
  · cases h
theorem s_iaload  (htb : tb pc = (.iaload, nx, (a, b, cc), v, w, sw)) (hok : okI on (decide (nm = "<init>")) cd pc (.iaload, nx, (a, b, cc), v, w, sw) = true) (hgo : ∀ pc lc st L σ o, go pc lc st L σ = some o → INV L0 σ0 fl lc st L σ → SG G l on nm cd nL ret d L0 (dec o) pc lc st L σ) (h : stp tb rt fl cl Rk go pc lc st L σ = some o) (hI : INV L0 σ0 fl lc st L σ)  : SG G l on nm cd nL ret d L0 (dec o) pc lc st L σ := by
  unfold stp at h
  rw [htb] at h
  simp only [okI, Bool.and_eq_true, decide_eq_true_eq] at hok
  simp only at h
  obtain ⟨hdg, rfl⟩ := dk_ok hok
  split at h
  · rename_i j q0 r
    obtain ⟨t, o'⟩ := q0
    simp only at h
    obtain ⟨-, hr0⟩ := okl_cons.mp hI.2.2.2.1
    obtain ⟨hv, hr⟩ := okl_cons.mp hr0
    obtain ⟨hq, hA1⟩ := bif_s h
    have hq2 := Nat.eq_of_beq_eq_true hq
    obtain ⟨x, hx, hA2⟩ := Option.bind_eq_some_iff.mp hA1
    subst hx
    subst hq2
    obtain ⟨y, hy, hA3⟩ := Option.bind_eq_some_iff.mp hA2
    obtain ⟨x1, x2⟩ := hv x rfl
    exact sg_same (hgo _ _ _ _ _ _ hA3 (hI.stk (okl_cons.mpr ⟨trivial, hr⟩))) (fun p e R s m args below meth c H locs cells slots Q ls C hP hS hl k => w_ald (t := 0) C hP x1 x2 (Or.inl ⟨rfl, rfl⟩) hy hdg k)
  · rename_i j q0 r
    obtain ⟨t, w0⟩ := q0
    simp only at h
    obtain ⟨-, hr0⟩ := okl_cons.mp hI.2.2.2.1
    obtain ⟨hv, hr⟩ := okl_cons.mp hr0
    obtain ⟨hq, hA4⟩ := bif_s h
    have hq2 := Nat.eq_of_beq_eq_true hq
    subst hq2
    obtain ⟨y, hy, hA5⟩ := Option.bind_eq_some_iff.mp hA4
    exact sg_same (hgo _ _ _ _ _ _ hA5 (hI.stk (okl_cons.mpr ⟨trivial, hr⟩))) (fun p e R s m args below meth c H locs cells slots Q ls C hP hS hl k => w_aldC C hS (Or.inr ⟨rfl, hv.2 rfl, rfl⟩) hy hdg k)
  · cases h
theorem s_saload  (htb : tb pc = (.saload, nx, (a, b, cc), v, w, sw)) (hok : okI on (decide (nm = "<init>")) cd pc (.saload, nx, (a, b, cc), v, w, sw) = true) (hgo : ∀ pc lc st L σ o, go pc lc st L σ = some o → INV L0 σ0 fl lc st L σ → SG G l on nm cd nL ret d L0 (dec o) pc lc st L σ) (h : stp tb rt fl cl Rk go pc lc st L σ = some o) (hI : INV L0 σ0 fl lc st L σ)  : SG G l on nm cd nL ret d L0 (dec o) pc lc st L σ := by
  unfold stp at h
  rw [htb] at h
  simp only [okI, Bool.and_eq_true, decide_eq_true_eq] at hok
  simp only at h
  obtain ⟨hdg, rfl⟩ := dk_ok hok
  split at h
  · rename_i j q0 r
    obtain ⟨t, o'⟩ := q0
    simp only at h
    obtain ⟨-, hr0⟩ := okl_cons.mp hI.2.2.2.1
    obtain ⟨hv, hr⟩ := okl_cons.mp hr0
    obtain ⟨hq, hA1⟩ := bif_s h
    have hq2 := Nat.eq_of_beq_eq_true hq
    obtain ⟨x, hx, hA2⟩ := Option.bind_eq_some_iff.mp hA1
    subst hx
    subst hq2
    obtain ⟨y, hy, hA3⟩ := Option.bind_eq_some_iff.mp hA2
    obtain ⟨x1, x2⟩ := hv x rfl
    exact sg_same (hgo _ _ _ _ _ _ hA3 (hI.stk (okl_cons.mpr ⟨trivial, hr⟩))) (fun p e R s m args below meth c H locs cells slots Q ls C hP hS hl k => w_ald (t := 0) C hP x1 x2 (Or.inr (Or.inl ⟨rfl, rfl⟩)) hy hdg k)
  · cases h
theorem s_baload  (htb : tb pc = (.baload, nx, (a, b, cc), v, w, sw)) (hok : okI on (decide (nm = "<init>")) cd pc (.baload, nx, (a, b, cc), v, w, sw) = true) (hgo : ∀ pc lc st L σ o, go pc lc st L σ = some o → INV L0 σ0 fl lc st L σ → SG G l on nm cd nL ret d L0 (dec o) pc lc st L σ) (h : stp tb rt fl cl Rk go pc lc st L σ = some o) (hI : INV L0 σ0 fl lc st L σ)  : SG G l on nm cd nL ret d L0 (dec o) pc lc st L σ := by
  unfold stp at h
  rw [htb] at h
  simp only [okI, Bool.and_eq_true, decide_eq_true_eq] at hok
  simp only at h
  obtain ⟨hdg, rfl⟩ := dk_ok hok
  split at h
  · rename_i j q0 r
    obtain ⟨t, o'⟩ := q0
    simp only at h
    obtain ⟨-, hr0⟩ := okl_cons.mp hI.2.2.2.1
    obtain ⟨hv, hr⟩ := okl_cons.mp hr0
    obtain ⟨hq, hA1⟩ := bif_s h
    have hq2 := Nat.eq_of_beq_eq_true hq
    obtain ⟨x, hx, hA2⟩ := Option.bind_eq_some_iff.mp hA1
    subst hx
    subst hq2
    obtain ⟨y, hy, hA3⟩ := Option.bind_eq_some_iff.mp hA2
    obtain ⟨x1, x2⟩ := hv x rfl
    exact sg_same (hgo _ _ _ _ _ _ hA3 (hI.stk (okl_cons.mpr ⟨trivial, hr⟩))) (fun p e R s m args below meth c H locs cells slots Q ls C hP hS hl k => w_ald (t := 0) C hP x1 x2 (Or.inr (Or.inr ⟨rfl, rfl⟩)) hy hdg k)
  · rename_i j q0 r
    obtain ⟨t, w0⟩ := q0
    simp only at h
    obtain ⟨-, hr0⟩ := okl_cons.mp hI.2.2.2.1
    obtain ⟨hv, hr⟩ := okl_cons.mp hr0
    obtain ⟨hq, hA4⟩ := bif_s h
    have hq2 := Nat.eq_of_beq_eq_true hq
    subst hq2
    obtain ⟨y, hy, hA5⟩ := Option.bind_eq_some_iff.mp hA4
    exact sg_same (hgo _ _ _ _ _ _ hA5 (hI.stk (okl_cons.mpr ⟨trivial, hr⟩))) (fun p e R s m args below meth c H locs cells slots Q ls C hP hS hl k => w_aldC C hS (Or.inl ⟨rfl, hv.1 (Or.inr rfl), rfl⟩) hy hdg k)
  · cases h
theorem s_aaload  (htb : tb pc = (.aaload, nx, (a, b, cc), v, w, sw)) (hok : okI on (decide (nm = "<init>")) cd pc (.aaload, nx, (a, b, cc), v, w, sw) = true) (hgo : ∀ pc lc st L σ o, go pc lc st L σ = some o → INV L0 σ0 fl lc st L σ → SG G l on nm cd nL ret d L0 (dec o) pc lc st L σ) (h : stp tb rt fl cl Rk go pc lc st L σ = some o) (hI : INV L0 σ0 fl lc st L σ)  : SG G l on nm cd nL ret d L0 (dec o) pc lc st L σ := by
  unfold stp at h
  rw [htb] at h
  simp only [okI, Bool.and_eq_true, decide_eq_true_eq] at hok
  simp only at h
  obtain ⟨hdg, rfl⟩ := dk_ok hok
  split at h
  · rename_i j q0 r
    obtain ⟨t, o'⟩ := q0
    simp only at h
    obtain ⟨-, hr0⟩ := okl_cons.mp hI.2.2.2.1
    obtain ⟨hv, hr⟩ := okl_cons.mp hr0
    obtain ⟨hq, hA1⟩ := bif_s h
    rw [Bool.and_eq_true] at hq
    have q1 := Nat.le_of_ble_eq_true hq.1
    have q2 := Nat.le_of_ble_eq_true hq.2
    obtain ⟨x, hx, hA2⟩ := Option.bind_eq_some_iff.mp hA1
    subst hx
    obtain ⟨y, hy, hA3⟩ := Option.bind_eq_some_iff.mp hA2
    obtain ⟨x1, x2⟩ := hv x rfl
    simp only at x2
    have hok2 : okv L (vR (etg t) y) := by
      intro z hz
      unfold rR at hy
      split at hy
      · cases hy
        have := (hI.2.1 x _ z x1 hz).2 (by rw [x2]; exact q1)
        rw [x2] at this
        exact this
      · cases hy
    exact sg_same (hgo _ _ _ _ _ _ hA3 (hI.stk (okl_cons.mpr ⟨hok2, hr⟩))) (fun p e R s m args below meth c H locs cells slots Q ls C hP hS hl k => w_aald C hP x1 x2 q1 q2 hy hdg k)
  · cases h
theorem s_iastore  (htb : tb pc = (.iastore, nx, (a, b, cc), v, w, sw)) (hok : okI on (decide (nm = "<init>")) cd pc (.iastore, nx, (a, b, cc), v, w, sw) = true) (hgo : ∀ pc lc st L σ o, go pc lc st L σ = some o → INV L0 σ0 fl lc st L σ → SG G l on nm cd nL ret d L0 (dec o) pc lc st L σ) (h : stp tb rt fl cl Rk go pc lc st L σ = some o) (hI : INV L0 σ0 fl lc st L σ)  : SG G l on nm cd nL ret d L0 (dec o) pc lc st L σ := by
  unfold stp at h
  rw [htb] at h
  simp only [okI, Bool.and_eq_true, decide_eq_true_eq] at hok
  simp only at h
  obtain ⟨hdg, rfl⟩ := dk_ok hok
  split at h
  · rename_i y j q0 r
    obtain ⟨t, o'⟩ := q0
    simp only at h
    obtain ⟨-, hr0⟩ := okl_cons.mp hI.2.2.2.1
    obtain ⟨-, hr1⟩ := okl_cons.mp hr0
    obtain ⟨hv, hr⟩ := okl_cons.mp hr1
    obtain ⟨hfl, hA1⟩ := bif_n h
    obtain ⟨hq, hA2⟩ := bif_s hA1
    have hq2 := Nat.eq_of_beq_eq_true hq
    obtain ⟨x, hx, hA3⟩ := Option.bind_eq_some_iff.mp hA2
    subst hx
    subst hq2
    obtain ⟨σ', hs, hA4⟩ := Option.bind_eq_some_iff.mp hA3
    obtain ⟨x1, x2⟩ := hv x rfl
    have hW : WT L σ' := by
      unfold wI at hs
      split at hs
      · cases hs
        exact hI.2.1
      · cases hs
    exact sg_put (hgo _ _ _ _ _ _ hA4 (hI.put hW hr hfl)) (fun p e R s m args below meth c H locs cells slots Q ls C hP hS k => w_ast C hP hS x1 x2 (Or.inl ⟨rfl, rfl, rfl⟩) hs hdg k)
  · cases h
theorem s_sastore  (htb : tb pc = (.sastore, nx, (a, b, cc), v, w, sw)) (hok : okI on (decide (nm = "<init>")) cd pc (.sastore, nx, (a, b, cc), v, w, sw) = true) (hgo : ∀ pc lc st L σ o, go pc lc st L σ = some o → INV L0 σ0 fl lc st L σ → SG G l on nm cd nL ret d L0 (dec o) pc lc st L σ) (h : stp tb rt fl cl Rk go pc lc st L σ = some o) (hI : INV L0 σ0 fl lc st L σ)  : SG G l on nm cd nL ret d L0 (dec o) pc lc st L σ := by
  unfold stp at h
  rw [htb] at h
  simp only [okI, Bool.and_eq_true, decide_eq_true_eq] at hok
  simp only at h
  obtain ⟨hdg, rfl⟩ := dk_ok hok
  split at h
  · rename_i y j q0 r
    obtain ⟨t, o'⟩ := q0
    simp only at h
    obtain ⟨-, hr0⟩ := okl_cons.mp hI.2.2.2.1
    obtain ⟨-, hr1⟩ := okl_cons.mp hr0
    obtain ⟨hv, hr⟩ := okl_cons.mp hr1
    obtain ⟨hfl, hA1⟩ := bif_n h
    obtain ⟨hq, hA2⟩ := bif_s hA1
    have hq2 := Nat.eq_of_beq_eq_true hq
    obtain ⟨x, hx, hA3⟩ := Option.bind_eq_some_iff.mp hA2
    subst hx
    subst hq2
    obtain ⟨σ', hs, hA4⟩ := Option.bind_eq_some_iff.mp hA3
    obtain ⟨x1, x2⟩ := hv x rfl
    have hW : WT L σ' := by
      unfold wI at hs
      split at hs
      · cases hs
        exact hI.2.1
      · cases hs
    exact sg_put (hgo _ _ _ _ _ _ hA4 (hI.put hW hr hfl)) (fun p e R s m args below meth c H locs cells slots Q ls C hP hS k => w_ast C hP hS x1 x2 (Or.inr (Or.inl ⟨rfl, rfl, rfl⟩)) hs hdg k)
  · cases h
theorem s_bastore  (htb : tb pc = (.bastore, nx, (a, b, cc), v, w, sw)) (hok : okI on (decide (nm = "<init>")) cd pc (.bastore, nx, (a, b, cc), v, w, sw) = true) (hgo : ∀ pc lc st L σ o, go pc lc st L σ = some o → INV L0 σ0 fl lc st L σ → SG G l on nm cd nL ret d L0 (dec o) pc lc st L σ) (h : stp tb rt fl cl Rk go pc lc st L σ = some o) (hI : INV L0 σ0 fl lc st L σ)  : SG G l on nm cd nL ret d L0 (dec o) pc lc st L σ := by
  unfold stp at h
  rw [htb] at h
  simp only [okI, Bool.and_eq_true, decide_eq_true_eq] at hok
  simp only at h
  obtain ⟨hdg, rfl⟩ := dk_ok hok
  split at h
  · rename_i y j q0 r
    obtain ⟨t, o'⟩ := q0
    simp only at h
    obtain ⟨-, hr0⟩ := okl_cons.mp hI.2.2.2.1
    obtain ⟨-, hr1⟩ := okl_cons.mp hr0
    obtain ⟨hv, hr⟩ := okl_cons.mp hr1
    obtain ⟨hfl, hA1⟩ := bif_n h
    obtain ⟨hq, hA2⟩ := bif_s hA1
    have hq2 := Nat.eq_of_beq_eq_true hq
    obtain ⟨x, hx, hA3⟩ := Option.bind_eq_some_iff.mp hA2
    subst hx
    subst hq2
    obtain ⟨σ', hs, hA4⟩ := Option.bind_eq_some_iff.mp hA3
    obtain ⟨x1, x2⟩ := hv x rfl
    have hW : WT L σ' := by
      unfold wI at hs
      split at hs
      · cases hs
        exact hI.2.1
      · cases hs
    exact sg_put (hgo _ _ _ _ _ _ hA4 (hI.put hW hr hfl)) (fun p e R s m args below meth c H locs cells slots Q ls C hP hS k => w_ast C hP hS x1 x2 (Or.inr (Or.inr ⟨rfl, rfl, rfl⟩)) hs hdg k)
  · cases h
theorem s_aastore  (htb : tb pc = (.aastore, nx, (a, b, cc), v, w, sw)) (hok : okI on (decide (nm = "<init>")) cd pc (.aastore, nx, (a, b, cc), v, w, sw) = true) (hgo : ∀ pc lc st L σ o, go pc lc st L σ = some o → INV L0 σ0 fl lc st L σ → SG G l on nm cd nL ret d L0 (dec o) pc lc st L σ) (h : stp tb rt fl cl Rk go pc lc st L σ = some o) (hI : INV L0 σ0 fl lc st L σ)  : SG G l on nm cd nL ret d L0 (dec o) pc lc st L σ := by
  unfold stp at h
  rw [htb] at h
  simp only [okI, Bool.and_eq_true, decide_eq_true_eq] at hok
  simp only at h
  obtain ⟨hdg, rfl⟩ := dk_ok hok
  split at h
  · rename_i z0 j q0 r
    obtain ⟨t, o'⟩ := q0
    obtain ⟨t', o''⟩ := z0
    simp only at h
    obtain ⟨hz0, hr0⟩ := okl_cons.mp hI.2.2.2.1
    obtain ⟨-, hr1⟩ := okl_cons.mp hr0
    obtain ⟨hv, hr⟩ := okl_cons.mp hr1
    obtain ⟨hfl, hA1⟩ := bif_n h
    obtain ⟨hq, hA2⟩ := bif_s hA1
    simp only [Bool.and_eq_true] at hq
    have q1 := Nat.le_of_ble_eq_true hq.1.1
    have q2 := Nat.le_of_ble_eq_true hq.1.2
    have q3 := Nat.eq_of_beq_eq_true hq.2
    obtain ⟨x, hx, hA3⟩ := Option.bind_eq_some_iff.mp hA2
    obtain ⟨y, hy, hA4⟩ := Option.bind_eq_some_iff.mp hA3
    subst hx
    subst hy
    subst q3
    obtain ⟨σ', hs, hA5⟩ := Option.bind_eq_some_iff.mp hA4
    obtain ⟨x1, x2⟩ := hv x rfl
    obtain ⟨y1, y2⟩ := hz0 y rfl
    simp only at x2 y2
    have hW : WT L σ' := by
      unfold wR at hs
      split at hs
      · cases hs
        refine hI.2.1.sR (fun z hz => ?_)
        cases hz
        exact ⟨fun t' h1 _ => by rw [x2] at h1; omega, fun _ => by rw [x2]; exact ⟨y1, y2⟩⟩
      · cases hs
    exact sg_put (hgo _ _ _ _ _ _ hA5 (hI.put hW hr hfl)) (fun p e R s m args below meth c H locs cells slots Q ls C hP hS k => w_aast C hP hS x1 x2 q1 q2 y1 y2 hs hdg k)
  · cases h
theorem s_arraylength  (htb : tb pc = (.arraylength, nx, (a, b, cc), v, w, sw)) (hok : okI on (decide (nm = "<init>")) cd pc (.arraylength, nx, (a, b, cc), v, w, sw) = true) (hgo : ∀ pc lc st L σ o, go pc lc st L σ = some o → INV L0 σ0 fl lc st L σ → SG G l on nm cd nL ret d L0 (dec o) pc lc st L σ) (h : stp tb rt fl cl Rk go pc lc st L σ = some o) (hI : INV L0 σ0 fl lc st L σ)  : SG G l on nm cd nL ret d L0 (dec o) pc lc st L σ := by
  unfold stp at h
  rw [htb] at h
  simp only [okI, Bool.and_eq_true, decide_eq_true_eq] at hok
  simp only at h
  obtain ⟨hdg, rfl⟩ := dk_ok hok
  split at h
  · rename_i q0 r
    obtain ⟨t, o'⟩ := q0
    simp only at h
    obtain ⟨hv, hr⟩ := okl_cons.mp hI.2.2.2.1
    obtain ⟨hq, hA1⟩ := bif_s h
    rw [Bool.and_eq_true] at hq
    have q1 := Nat.le_of_ble_eq_true hq.1
    have q2 := Nat.le_of_ble_eq_true hq.2
    obtain ⟨x, hx, hA2⟩ := Option.bind_eq_some_iff.mp hA1
    subst hx
    obtain ⟨x1, x2⟩ := hv x rfl
    exact sg_same (hgo _ _ _ _ _ _ hA2 (hI.stk (okl_cons.mpr ⟨trivial, hr⟩))) (fun p e R s m args below meth c H locs cells slots Q ls C hP hS hl k => w_alen C hP x1 x2 q1 q2 hdg k)
  · rename_i q0 r
    obtain ⟨t, w0⟩ := q0
    simp only at h
    obtain ⟨hv, hr⟩ := okl_cons.mp hI.2.2.2.1
    obtain ⟨hq, hA1⟩ := bif_s h
    have hq2 := Nat.eq_of_beq_eq_true hq
    subst hq2
    exact sg_same (hgo _ _ _ _ _ _ hA1 (hI.stk (okl_cons.mpr ⟨trivial, hr⟩))) (fun p e R s m args below meth c H locs cells slots Q ls C hP hS hl k => w_alenC C hS (hv.1 (Or.inr rfl)) hdg k)
  · cases h
theorem s_new {i : Nat} (htb : tb pc = (.new i, nx, (a, b, cc), v, w, sw)) (hok : okI on (decide (nm = "<init>")) cd pc (.new i, nx, (a, b, cc), v, w, sw) = true) (hgo : ∀ pc lc st L σ o, go pc lc st L σ = some o → INV L0 σ0 fl lc st L σ → SG G l on nm cd nL ret d L0 (dec o) pc lc st L σ) (h : stp tb rt fl cl Rk go pc lc st L σ = some o) (hI : INV L0 σ0 fl lc st L σ)  : SG G l on nm cd nL ret d L0 (dec o) pc lc st L σ := by
  unfold stp at h
  rw [htb] at h
  simp only [okI, Bool.and_eq_true, decide_eq_true_eq] at hok
  simp only at h
  obtain ⟨h1, h2⟩ := hok
  obtain ⟨hdg, rfl⟩ := dk_ok h1
  obtain ⟨hf1, h⟩ := bif_n h
  obtain ⟨hf2, hA1⟩ := bif_n h
  obtain ⟨z, hz2⟩ := anyC_ok h2
  unfold al at hA1
  simp only [Option.bind_some] at hA1
  have hv : okv (pL L a 0 (nf a)) (vR a (some L.2.2.1)) := by
    intro y hy
    cases hy
    exact ⟨Nat.lt_succ_self _, if_pos rfl⟩
  exact sg_new hI.1 (hgo _ _ _ _ _ _ hA1 (hI.new (okl_cons.mpr ⟨hv, hI.2.2.2.1.mono (LE.push _ _ _ _)⟩) hf1 hf2)) (fun p e R s m args below meth c H locs cells slots Q ls C hP hS hz hc hs k => w_new C hP hS hz hz2 hc hs hdg k)
theorem s_newarray {t : ArrayType} (htb : tb pc = (.newarray t, nx, (a, b, cc), v, w, sw)) (hok : okI on (decide (nm = "<init>")) cd pc (.newarray t, nx, (a, b, cc), v, w, sw) = true) (hgo : ∀ pc lc st L σ o, go pc lc st L σ = some o → INV L0 σ0 fl lc st L σ → SG G l on nm cd nL ret d L0 (dec o) pc lc st L σ) (h : stp tb rt fl cl Rk go pc lc st L σ = some o) (hI : INV L0 σ0 fl lc st L σ)  : SG G l on nm cd nL ret d L0 (dec o) pc lc st L σ := by
  unfold stp at h
  rw [htb] at h
  simp only [okI, Bool.and_eq_true, decide_eq_true_eq] at hok
  simp only at h
  obtain ⟨⟨h1, h2⟩, h3⟩ := hok
  obtain ⟨hdg, rfl⟩ := dk_ok h1
  split at h
  · rename_i n r
    obtain ⟨-, hr⟩ := okl_cons.mp hI.2.2.2.1
    obtain ⟨hf1, hA1⟩ := bif_n h
    obtain ⟨hf2, hA2⟩ := bif_n hA1
    split at hA2
    · rename_i hn
      subst hn
      unfold al at hA2
      simp only [Option.bind_some] at hA2
      have hv : okv (pL L a b b) (vR a (some L.2.2.1)) := by
        intro y hy
        cases hy
        exact ⟨Nat.lt_succ_self _, if_pos rfl⟩
      exact sg_new hI.1 (hgo _ _ _ _ _ _ hA2 (hI.new (okl_cons.mpr ⟨hv, hr.mono (LE.push _ _ _ _)⟩) hf1 hf2)) (fun p e R s m args below meth c H locs cells slots Q ls C hP hS hz hc hs k => w_newa C hP hS hz h2 (Nat.le_of_ble_eq_true h3) hc hs hdg k)
    · cases hA2
  · cases h
theorem s_anewarray {i : Nat} (htb : tb pc = (.anewarray i, nx, (a, b, cc), v, w, sw)) (hok : okI on (decide (nm = "<init>")) cd pc (.anewarray i, nx, (a, b, cc), v, w, sw) = true) (hgo : ∀ pc lc st L σ o, go pc lc st L σ = some o → INV L0 σ0 fl lc st L σ → SG G l on nm cd nL ret d L0 (dec o) pc lc st L σ) (h : stp tb rt fl cl Rk go pc lc st L σ = some o) (hI : INV L0 σ0 fl lc st L σ)  : SG G l on nm cd nL ret d L0 (dec o) pc lc st L σ := by
  unfold stp at h
  rw [htb] at h
  simp only [okI, Bool.and_eq_true, decide_eq_true_eq] at hok
  simp only at h
  obtain ⟨⟨⟨⟨h1, h2⟩, h3⟩, h4⟩, h5⟩ := hok
  obtain ⟨hdg, rfl⟩ := dk_ok h1
  obtain ⟨z, hz2⟩ := anyC_ok h4
  split at h
  · rename_i n r
    obtain ⟨-, hr⟩ := okl_cons.mp hI.2.2.2.1
    obtain ⟨hf1, hA1⟩ := bif_n h
    obtain ⟨hf2, hA2⟩ := bif_n hA1
    split at hA2
    · rename_i hn
      subst hn
      unfold al at hA2
      simp only [Option.bind_some] at hA2
      have hv : okv (pL L a b b) (vR a (some L.2.2.1)) := by
        intro y hy
        cases hy
        exact ⟨Nat.lt_succ_self _, if_pos rfl⟩
      exact sg_new hI.1 (hgo _ _ _ _ _ _ hA2 (hI.new (okl_cons.mpr ⟨hv, hr.mono (LE.push _ _ _ _)⟩) hf1 hf2)) (fun p e R s m args below meth c H locs cells slots Q ls C hP hS hz hc hs k => w_newq C hP hS hz (Nat.le_of_ble_eq_true h2) (Nat.le_of_ble_eq_true h3) hz2 (Nat.le_of_ble_eq_true h5) hc hs hdg k)
    · cases hA2
  · cases h
end
