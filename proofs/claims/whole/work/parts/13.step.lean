/-! The step, instruction by instruction -/
def retOK (rt : Nat × Nat) (ret : Option FieldType) : Prop := (rt.1 ≤ 4 → ret = some (nty rt.1)) ∧ (rt.1 = 5 → ∃ n, ret = some (.object n)) ∧ (rt.1 = 6 → ret = none)
theorem bif_s {b : Bool} {α : Type} {x : Option α} {o : α} (h : (bif b then x else none) = some o) : b = true ∧ x = some o := by
  cases b with
  | true => exact ⟨rfl, h⟩
  | false => cases h
theorem bif_n {b : Bool} {α : Type} {x : Option α} {o : α} (h : (bif b then none else x) = some o) : b = false ∧ x = some o := by
  cases b with
  | false => exact ⟨rfl, h⟩
  | true => cases h
theorem lget_LR {G : GT} {ls : Array Slot} {nL : Nat} {lc : List (Option AV)} {i : Nat} {v : AV} (h : LR G ls nL lc) (k : lget lc i = some v) : ls[i]? = some (.val (cv G v)) := h.2.2.2 i v k
theorem lwid_nL {G : GT} {ls : Array Slot} {nL : Nat} {lc : List (Option AV)} {i : Nat} (h : LR G ls nL lc) (k : lwid lc i = false) : i < nL := by
  unfold lwid at k
  rw [Bool.or_eq_false_iff] at k
  have h1 := k.1
  rw [← h.2.2.1]
  rcases Nat.lt_or_ge i lc.length with q | q
  · exact q
  · rw [Nat.ble_eq_true_of_le q] at h1
    cases h1
section
variable {O : Type} {tb : Nat → TI} {rt : Nat × Nat} {cl : CLT O} {Rk : RKT O} {go : GOT O} {dec : O → RES}
variable {G : GT} {l : Launch} {on : Nat} {nm : String} {cd : ByteArray} {nL : Nat} {ret : Option FieldType} {d : Nat} {L0 : Lay} {σ0 : Sto} {fl : Bool × Bool} {pc : Nat} {lc : List (Option AV)} {st : List AV} {L : Lay} {σ : Sto} {o : O}
variable {nx a b cc : Nat} {v : Int32} {w : Int64} {sw : List (Int32 × Nat)}

theorem s_iconst {i : Int} (htb : tb pc = (.iconst i, nx, (a, b, cc), v, w, sw)) (hok : okI on (decide (nm = "<init>")) cd pc (.iconst i, nx, (a, b, cc), v, w, sw) = true) (hgo : ∀ pc lc st L σ o, go pc lc st L σ = some o → INV L0 σ0 fl lc st L σ → SG G l on nm cd nL ret d L0 (dec o) pc lc st L σ) (h : stp tb rt fl cl Rk go pc lc st L σ = some o) (hI : INV L0 σ0 fl lc st L σ)  : SG G l on nm cd nL ret d L0 (dec o) pc lc st L σ := by
  unfold stp at h
  rw [htb] at h
  simp only [okI, Bool.and_eq_true, decide_eq_true_eq] at hok
  simp only at h
  obtain ⟨h1, h2⟩ := hok
  obtain ⟨hdg, rfl⟩ := dk_ok h1
  exact sg_same (hgo _ _ _ _ _ _ h (hI.stk (okl_cons.mpr ⟨trivial, hI.2.2.2.1⟩))) (fun p e R s m args below meth c H locs cells slots Q ls C hP hS hl k => lv_iconst C.1 C.2.1 hdg h2 k)
theorem s_bipush {i : Int} (htb : tb pc = (.bipush i, nx, (a, b, cc), v, w, sw)) (hok : okI on (decide (nm = "<init>")) cd pc (.bipush i, nx, (a, b, cc), v, w, sw) = true) (hgo : ∀ pc lc st L σ o, go pc lc st L σ = some o → INV L0 σ0 fl lc st L σ → SG G l on nm cd nL ret d L0 (dec o) pc lc st L σ) (h : stp tb rt fl cl Rk go pc lc st L σ = some o) (hI : INV L0 σ0 fl lc st L σ)  : SG G l on nm cd nL ret d L0 (dec o) pc lc st L σ := by
  unfold stp at h
  rw [htb] at h
  simp only [okI, Bool.and_eq_true, decide_eq_true_eq] at hok
  simp only at h
  obtain ⟨h1, h2⟩ := hok
  obtain ⟨hdg, rfl⟩ := dk_ok h1
  exact sg_same (hgo _ _ _ _ _ _ h (hI.stk (okl_cons.mpr ⟨trivial, hI.2.2.2.1⟩))) (fun p e R s m args below meth c H locs cells slots Q ls C hP hS hl k => lv_bipush C.1 C.2.1 hdg h2 k)
theorem s_sipush {i : Int} (htb : tb pc = (.sipush i, nx, (a, b, cc), v, w, sw)) (hok : okI on (decide (nm = "<init>")) cd pc (.sipush i, nx, (a, b, cc), v, w, sw) = true) (hgo : ∀ pc lc st L σ o, go pc lc st L σ = some o → INV L0 σ0 fl lc st L σ → SG G l on nm cd nL ret d L0 (dec o) pc lc st L σ) (h : stp tb rt fl cl Rk go pc lc st L σ = some o) (hI : INV L0 σ0 fl lc st L σ)  : SG G l on nm cd nL ret d L0 (dec o) pc lc st L σ := by
  unfold stp at h
  rw [htb] at h
  simp only [okI, Bool.and_eq_true, decide_eq_true_eq] at hok
  simp only at h
  obtain ⟨h1, h2⟩ := hok
  obtain ⟨hdg, rfl⟩ := dk_ok h1
  exact sg_same (hgo _ _ _ _ _ _ h (hI.stk (okl_cons.mpr ⟨trivial, hI.2.2.2.1⟩))) (fun p e R s m args below meth c H locs cells slots Q ls C hP hS hl k => lv_sipush C.1 C.2.1 hdg h2 k)
theorem s_lconst {i : Fin 2} (htb : tb pc = (.lconst i, nx, (a, b, cc), v, w, sw)) (hok : okI on (decide (nm = "<init>")) cd pc (.lconst i, nx, (a, b, cc), v, w, sw) = true) (hgo : ∀ pc lc st L σ o, go pc lc st L σ = some o → INV L0 σ0 fl lc st L σ → SG G l on nm cd nL ret d L0 (dec o) pc lc st L σ) (h : stp tb rt fl cl Rk go pc lc st L σ = some o) (hI : INV L0 σ0 fl lc st L σ)  : SG G l on nm cd nL ret d L0 (dec o) pc lc st L σ := by
  unfold stp at h
  rw [htb] at h
  simp only [okI, Bool.and_eq_true, decide_eq_true_eq] at hok
  simp only at h
  obtain ⟨h1, h2⟩ := hok
  obtain ⟨hdg, rfl⟩ := dk_ok h1
  exact sg_same (hgo _ _ _ _ _ _ h (hI.stk (okl_cons.mpr ⟨trivial, hI.2.2.2.1⟩))) (fun p e R s m args below meth c H locs cells slots Q ls C hP hS hl k => lv_lconst C.1 C.2.1 hdg h2 k)
theorem s_ldc2_w {i : Nat} (htb : tb pc = (.ldc2_w i, nx, (a, b, cc), v, w, sw)) (hok : okI on (decide (nm = "<init>")) cd pc (.ldc2_w i, nx, (a, b, cc), v, w, sw) = true) (hgo : ∀ pc lc st L σ o, go pc lc st L σ = some o → INV L0 σ0 fl lc st L σ → SG G l on nm cd nL ret d L0 (dec o) pc lc st L σ) (h : stp tb rt fl cl Rk go pc lc st L σ = some o) (hI : INV L0 σ0 fl lc st L σ)  : SG G l on nm cd nL ret d L0 (dec o) pc lc st L σ := by
  unfold stp at h
  rw [htb] at h
  simp only [okI, Bool.and_eq_true, decide_eq_true_eq] at hok
  simp only at h
  obtain ⟨h1, h2⟩ := hok
  obtain ⟨hdg, rfl⟩ := dk_ok h1
  exact sg_same (hgo _ _ _ _ _ _ h (hI.stk (okl_cons.mpr ⟨trivial, hI.2.2.2.1⟩))) (fun p e R s m args below meth c H locs cells slots Q ls C hP hS hl k => lv_ldc2 C.1 C.2.1 C.2.2.2.1 (C.2.2.2.2.1 _ (anyJ_ok h2)) hdg k)
theorem s_ldc {i : Nat} (htb : tb pc = (.ldc i, nx, (a, b, cc), v, w, sw)) (hok : okI on (decide (nm = "<init>")) cd pc (.ldc i, nx, (a, b, cc), v, w, sw) = true) (hgo : ∀ pc lc st L σ o, go pc lc st L σ = some o → INV L0 σ0 fl lc st L σ → SG G l on nm cd nL ret d L0 (dec o) pc lc st L σ) (h : stp tb rt fl cl Rk go pc lc st L σ = some o) (hI : INV L0 σ0 fl lc st L σ)  : SG G l on nm cd nL ret d L0 (dec o) pc lc st L σ := by
  unfold stp at h
  rw [htb] at h
  simp only [okI, Bool.and_eq_true, decide_eq_true_eq] at hok
  simp only at h
  obtain ⟨h1, h2⟩ := hok
  obtain ⟨hdg, rfl⟩ := dk_ok h1
  by_cases ha : Nat.beq a 0 = true
  · rw [ha] at h h2
    exact sg_same (hgo _ _ _ _ _ _ h (hI.stk (okl_cons.mpr ⟨trivial, hI.2.2.2.1⟩))) (fun p e R s m args below meth c H locs cells slots Q ls C hP hS hl k => lv_ldc C.1 C.2.1 C.2.2.2.1 (C.2.2.2.2.1 _ (anyI_ok h2)) hdg k)
  · rw [Bool.not_eq_true] at ha
    rw [ha] at h h2
    simp only [cond_false, Bool.and_eq_true] at h2
    obtain ⟨⟨g1, g2⟩, g3⟩ := h2
    have hb : b < 8 := Nat.lt_succ_of_le (Nat.le_of_ble_eq_true g1)
    exact sg_same (hgo _ _ _ _ _ _ h (hI.stk (okl_cons.mpr ⟨⟨fun _ => hb, fun e => by simp at e⟩, hI.2.2.2.1⟩))) (fun p e R s m args below meth c H locs cells slots Q ls C hP hS hl k => w_ldcS C hb (Nat.eq_of_beq_eq_true g2) (Nat.eq_of_beq_eq_true g3) hdg k)
theorem s_ldc_w {i : Nat} (htb : tb pc = (.ldc_w i, nx, (a, b, cc), v, w, sw)) (hok : okI on (decide (nm = "<init>")) cd pc (.ldc_w i, nx, (a, b, cc), v, w, sw) = true) (hgo : ∀ pc lc st L σ o, go pc lc st L σ = some o → INV L0 σ0 fl lc st L σ → SG G l on nm cd nL ret d L0 (dec o) pc lc st L σ) (h : stp tb rt fl cl Rk go pc lc st L σ = some o) (hI : INV L0 σ0 fl lc st L σ)  : SG G l on nm cd nL ret d L0 (dec o) pc lc st L σ := by
  unfold stp at h
  rw [htb] at h
  simp only [okI, Bool.and_eq_true, decide_eq_true_eq] at hok
  simp only at h
  obtain ⟨h1, h2⟩ := hok
  obtain ⟨hdg, rfl⟩ := dk_ok h1
  by_cases ha : Nat.beq a 0 = true
  · rw [ha] at h h2
    exact sg_same (hgo _ _ _ _ _ _ h (hI.stk (okl_cons.mpr ⟨trivial, hI.2.2.2.1⟩))) (fun p e R s m args below meth c H locs cells slots Q ls C hP hS hl k => lv_ldcw C.1 C.2.1 C.2.2.2.1 (C.2.2.2.2.1 _ (anyI_ok h2)) hdg k)
  · rw [Bool.not_eq_true] at ha
    rw [ha] at h h2
    simp only [cond_false, Bool.and_eq_true] at h2
    obtain ⟨⟨g1, g2⟩, g3⟩ := h2
    have hb : b < 8 := Nat.lt_succ_of_le (Nat.le_of_ble_eq_true g1)
    exact sg_same (hgo _ _ _ _ _ _ h (hI.stk (okl_cons.mpr ⟨⟨fun _ => hb, fun e => by simp at e⟩, hI.2.2.2.1⟩))) (fun p e R s m args below meth c H locs cells slots Q ls C hP hS hl k => w_ldcwS C hb (Nat.eq_of_beq_eq_true g2) (Nat.eq_of_beq_eq_true g3) hdg k)
theorem s_aconst_null  (htb : tb pc = (.aconst_null, nx, (a, b, cc), v, w, sw)) (hok : okI on (decide (nm = "<init>")) cd pc (.aconst_null, nx, (a, b, cc), v, w, sw) = true) (hgo : ∀ pc lc st L σ o, go pc lc st L σ = some o → INV L0 σ0 fl lc st L σ → SG G l on nm cd nL ret d L0 (dec o) pc lc st L σ) (h : stp tb rt fl cl Rk go pc lc st L σ = some o) (hI : INV L0 σ0 fl lc st L σ)  : SG G l on nm cd nL ret d L0 (dec o) pc lc st L σ := by
  unfold stp at h
  rw [htb] at h
  simp only [okI, Bool.and_eq_true, decide_eq_true_eq] at hok
  simp only at h
  obtain ⟨hdg, rfl⟩ := dk_ok hok
  exact sg_same (hgo _ _ _ _ _ _ h (hI.stk (okl_cons.mpr ⟨(fun _ e => (by cases e)), hI.2.2.2.1⟩))) (fun p e R s m args below meth c H locs cells slots Q ls C hP hS hl k => lv_null C.1 C.2.1 hdg k)
theorem s_iload {i : Nat} (htb : tb pc = (.iload i, nx, (a, b, cc), v, w, sw)) (hok : okI on (decide (nm = "<init>")) cd pc (.iload i, nx, (a, b, cc), v, w, sw) = true) (hgo : ∀ pc lc st L σ o, go pc lc st L σ = some o → INV L0 σ0 fl lc st L σ → SG G l on nm cd nL ret d L0 (dec o) pc lc st L σ) (h : stp tb rt fl cl Rk go pc lc st L σ = some o) (hI : INV L0 σ0 fl lc st L σ)  : SG G l on nm cd nL ret d L0 (dec o) pc lc st L σ := by
  unfold stp at h
  rw [htb] at h
  simp only [okI, Bool.and_eq_true, decide_eq_true_eq] at hok
  simp only at h
  obtain ⟨h1, h2⟩ := hok
  obtain ⟨hdg, rfl⟩ := dk_ok h1
  have h2 := Nat.eq_of_beq_eq_true h2
  split at h
  · rename_i x hx
    exact sg_same (hgo _ _ _ _ _ _ h (hI.stk (okl_cons.mpr ⟨hI.2.2.1 _ _ hx, hI.2.2.2.1⟩))) (fun p e R s m args below meth c H locs cells slots Q ls C hP hS hl k => lv_iload C.1 C.2.1 hdg (by rw [h2]; exact lget_LR hl hx) k)
  · cases h
theorem s_iload_n {i : Fin 4} (htb : tb pc = (.iload_n i, nx, (a, b, cc), v, w, sw)) (hok : okI on (decide (nm = "<init>")) cd pc (.iload_n i, nx, (a, b, cc), v, w, sw) = true) (hgo : ∀ pc lc st L σ o, go pc lc st L σ = some o → INV L0 σ0 fl lc st L σ → SG G l on nm cd nL ret d L0 (dec o) pc lc st L σ) (h : stp tb rt fl cl Rk go pc lc st L σ = some o) (hI : INV L0 σ0 fl lc st L σ)  : SG G l on nm cd nL ret d L0 (dec o) pc lc st L σ := by
  unfold stp at h
  rw [htb] at h
  simp only [okI, Bool.and_eq_true, decide_eq_true_eq] at hok
  simp only at h
  obtain ⟨h1, h2⟩ := hok
  obtain ⟨hdg, rfl⟩ := dk_ok h1
  have h2 := Nat.eq_of_beq_eq_true h2
  split at h
  · rename_i x hx
    exact sg_same (hgo _ _ _ _ _ _ h (hI.stk (okl_cons.mpr ⟨hI.2.2.1 _ _ hx, hI.2.2.2.1⟩))) (fun p e R s m args below meth c H locs cells slots Q ls C hP hS hl k => lv_iload_n C.1 C.2.1 hdg h2 (lget_LR hl hx) k)
  · cases h
theorem s_lload {i : Nat} (htb : tb pc = (.lload i, nx, (a, b, cc), v, w, sw)) (hok : okI on (decide (nm = "<init>")) cd pc (.lload i, nx, (a, b, cc), v, w, sw) = true) (hgo : ∀ pc lc st L σ o, go pc lc st L σ = some o → INV L0 σ0 fl lc st L σ → SG G l on nm cd nL ret d L0 (dec o) pc lc st L σ) (h : stp tb rt fl cl Rk go pc lc st L σ = some o) (hI : INV L0 σ0 fl lc st L σ)  : SG G l on nm cd nL ret d L0 (dec o) pc lc st L σ := by
  unfold stp at h
  rw [htb] at h
  simp only [okI, Bool.and_eq_true, decide_eq_true_eq] at hok
  simp only at h
  obtain ⟨h1, h2⟩ := hok
  obtain ⟨hdg, rfl⟩ := dk_ok h1
  have h2 := Nat.eq_of_beq_eq_true h2
  split at h
  · rename_i x hx
    exact sg_same (hgo _ _ _ _ _ _ h (hI.stk (okl_cons.mpr ⟨hI.2.2.1 _ _ hx, hI.2.2.2.1⟩))) (fun p e R s m args below meth c H locs cells slots Q ls C hP hS hl k => lv_lload C.1 C.2.1 hdg (by rw [h2]; exact lget_LR hl hx) k)
  · cases h
theorem s_lload_n {i : Fin 4} (htb : tb pc = (.lload_n i, nx, (a, b, cc), v, w, sw)) (hok : okI on (decide (nm = "<init>")) cd pc (.lload_n i, nx, (a, b, cc), v, w, sw) = true) (hgo : ∀ pc lc st L σ o, go pc lc st L σ = some o → INV L0 σ0 fl lc st L σ → SG G l on nm cd nL ret d L0 (dec o) pc lc st L σ) (h : stp tb rt fl cl Rk go pc lc st L σ = some o) (hI : INV L0 σ0 fl lc st L σ)  : SG G l on nm cd nL ret d L0 (dec o) pc lc st L σ := by
  unfold stp at h
  rw [htb] at h
  simp only [okI, Bool.and_eq_true, decide_eq_true_eq] at hok
  simp only at h
  obtain ⟨h1, h2⟩ := hok
  obtain ⟨hdg, rfl⟩ := dk_ok h1
  have h2 := Nat.eq_of_beq_eq_true h2
  split at h
  · rename_i x hx
    exact sg_same (hgo _ _ _ _ _ _ h (hI.stk (okl_cons.mpr ⟨hI.2.2.1 _ _ hx, hI.2.2.2.1⟩))) (fun p e R s m args below meth c H locs cells slots Q ls C hP hS hl k => lv_lload_n C.1 C.2.1 hdg h2 (lget_LR hl hx) k)
  · cases h
theorem cv_rn (G : GT) (x : (Nat × Option Nat) ⊕ (Nat × Nat)) : cv G (.inr (.inr x)) = .null ∨ ∃ y, cv G (.inr (.inr x)) = .ref y := by
  rcases x with ⟨t, _ | y⟩ | ⟨t, w⟩
  · exact Or.inl rfl
  · exact Or.inr ⟨_, rfl⟩
  · show va_rf (G.2.2.2 t w) = .null ∨ ∃ y, va_rf (G.2.2.2 t w) = .ref y
    cases G.2.2.2 t w with
    | none => exact Or.inl rfl
    | some y => exact Or.inr ⟨y, rfl⟩
theorem s_aldv {G : GT} {p : Program} {l : Launch} {e : Env} {R : Room} {s : State} {m : MethodId} {args : Array Value} {below : List Frame} {meth : Method} {c : Code} {H : Heap} {locs : List Loc} {cells slots : Nat} {Q : State → Prop} {pc i nL : Nat} {j : Fin 4} {ls : Array Slot} {rest : List Value} {cd : ByteArray} {x : (Nat × Option Nat) ⊕ (Nat × Nat)} (hx1 : p.tables.exec = Jvm.exec) (hb : c.code = cd) (hdg : decode cd pc = .ok (.aload i, 2)) (hl : ls[i]? = some (.val (cv G (.inr (.inr x)))))
    (k : W p l e R s m args below meth c H locs cells slots Q (F0 m (pc + 2) ls (cv G (.inr (.inr x)) :: rest))) : W p l e R s m args below meth c H locs cells slots Q (F0 m pc ls rest) := by
  have hv := cv_rn G x
  generalize cv G (.inr (.inr x)) = u at *
  rcases hv with rfl | ⟨y, rfl⟩
  · exact lv_aloadN hx1 hb hdg hl k
  · exact lv_aload hx1 hb hdg hl k
theorem s_aldvn {G : GT} {p : Program} {l : Launch} {e : Env} {R : Room} {s : State} {m : MethodId} {args : Array Value} {below : List Frame} {meth : Method} {c : Code} {H : Heap} {locs : List Loc} {cells slots : Nat} {Q : State → Prop} {pc i nL : Nat} {j : Fin 4} {ls : Array Slot} {rest : List Value} {cd : ByteArray} {x : (Nat × Option Nat) ⊕ (Nat × Nat)} (hx1 : p.tables.exec = Jvm.exec) (hb : c.code = cd) (hdg : decode cd pc = .ok (.aload_n j, 1)) (hj : (j : Nat) = i) (hl : ls[i]? = some (.val (cv G (.inr (.inr x)))))
    (k : W p l e R s m args below meth c H locs cells slots Q (F0 m (pc + 1) ls (cv G (.inr (.inr x)) :: rest))) : W p l e R s m args below meth c H locs cells slots Q (F0 m pc ls rest) := by
  have hv := cv_rn G x
  generalize cv G (.inr (.inr x)) = u at *
  rcases hv with rfl | ⟨y, rfl⟩
  · exact lv_aload_nN hx1 hb hdg hj hl k
  · exact lv_aload_n hx1 hb hdg hj hl k
theorem s_astv {G : GT} {p : Program} {l : Launch} {e : Env} {R : Room} {s : State} {m : MethodId} {args : Array Value} {below : List Frame} {meth : Method} {c : Code} {H : Heap} {locs : List Loc} {cells slots : Nat} {Q : State → Prop} {pc i nL : Nat} {j : Fin 4} {ls : Array Slot} {rest : List Value} {cd : ByteArray} {x : (Nat × Option Nat) ⊕ (Nat × Nat)} (hx1 : p.tables.exec = Jvm.exec) (hb : c.code = cd) {lv : List (Nat × Value)} (hdg : decode cd pc = .ok (.astore i, 2)) (h : lv_has ls nL lv) (hn : i < nL)
    (k : ∀ ls', lv_has ls' nL ((i, cv G (.inr (.inr x))) :: lv.filter (fun q => !(q.1 == i) && !(q.1 + 1 == i && q.2.category == 2))) → W p l e R s m args below meth c H locs cells slots Q (F0 m (pc + 2) ls' rest)) : W p l e R s m args below meth c H locs cells slots Q (F0 m pc ls (cv G (.inr (.inr x)) :: rest)) := by
  have hv := cv_rn G x
  generalize cv G (.inr (.inr x)) = u at *
  rcases hv with rfl | ⟨y, rfl⟩
  · exact lv_astoreN hx1 hb hdg h hn rfl k
  · exact lv_astore hx1 hb hdg h hn rfl k
theorem s_astvn {G : GT} {p : Program} {l : Launch} {e : Env} {R : Room} {s : State} {m : MethodId} {args : Array Value} {below : List Frame} {meth : Method} {c : Code} {H : Heap} {locs : List Loc} {cells slots : Nat} {Q : State → Prop} {pc i nL : Nat} {j : Fin 4} {ls : Array Slot} {rest : List Value} {cd : ByteArray} {x : (Nat × Option Nat) ⊕ (Nat × Nat)} (hx1 : p.tables.exec = Jvm.exec) (hb : c.code = cd) {lv : List (Nat × Value)} (hdg : decode cd pc = .ok (.astore_n j, 1)) (hj : (j : Nat) = i) (h : lv_has ls nL lv) (hn : i < nL)
    (k : ∀ ls', lv_has ls' nL ((i, cv G (.inr (.inr x))) :: lv.filter (fun q => !(q.1 == i) && !(q.1 + 1 == i && q.2.category == 2))) → W p l e R s m args below meth c H locs cells slots Q (F0 m (pc + 1) ls' rest)) : W p l e R s m args below meth c H locs cells slots Q (F0 m pc ls (cv G (.inr (.inr x)) :: rest)) := by
  have hv := cv_rn G x
  generalize cv G (.inr (.inr x)) = u at *
  rcases hv with rfl | ⟨y, rfl⟩
  · exact lv_astore_nN hx1 hb hdg hj h hn rfl k
  · exact lv_astore_n hx1 hb hdg hj h hn rfl k
theorem s_aload {i : Nat} (htb : tb pc = (.aload i, nx, (a, b, cc), v, w, sw)) (hok : okI on (decide (nm = "<init>")) cd pc (.aload i, nx, (a, b, cc), v, w, sw) = true) (hgo : ∀ pc lc st L σ o, go pc lc st L σ = some o → INV L0 σ0 fl lc st L σ → SG G l on nm cd nL ret d L0 (dec o) pc lc st L σ) (h : stp tb rt fl cl Rk go pc lc st L σ = some o) (hI : INV L0 σ0 fl lc st L σ)  : SG G l on nm cd nL ret d L0 (dec o) pc lc st L σ := by
  unfold stp at h
  rw [htb] at h
  simp only [okI, Bool.and_eq_true, decide_eq_true_eq] at hok
  simp only at h
  obtain ⟨h1, h2⟩ := hok
  obtain ⟨hdg, rfl⟩ := dk_ok h1
  have h2 := Nat.eq_of_beq_eq_true h2
  split at h
  · rename_i x hx
    exact sg_same (hgo _ _ _ _ _ _ h (hI.stk (okl_cons.mpr ⟨hI.2.2.1 _ _ hx, hI.2.2.2.1⟩))) (fun p e R s m args below meth c H locs cells slots Q ls C hP hS hl k => s_aldv (j := 0) (nL := 0) C.1 C.2.1 hdg (by rw [h2]; exact lget_LR hl hx) k)
  · cases h
theorem s_aload_n {i : Fin 4} (htb : tb pc = (.aload_n i, nx, (a, b, cc), v, w, sw)) (hok : okI on (decide (nm = "<init>")) cd pc (.aload_n i, nx, (a, b, cc), v, w, sw) = true) (hgo : ∀ pc lc st L σ o, go pc lc st L σ = some o → INV L0 σ0 fl lc st L σ → SG G l on nm cd nL ret d L0 (dec o) pc lc st L σ) (h : stp tb rt fl cl Rk go pc lc st L σ = some o) (hI : INV L0 σ0 fl lc st L σ)  : SG G l on nm cd nL ret d L0 (dec o) pc lc st L σ := by
  unfold stp at h
  rw [htb] at h
  simp only [okI, Bool.and_eq_true, decide_eq_true_eq] at hok
  simp only at h
  obtain ⟨h1, h2⟩ := hok
  obtain ⟨hdg, rfl⟩ := dk_ok h1
  have h2 := Nat.eq_of_beq_eq_true h2
  split at h
  · rename_i x hx
    exact sg_same (hgo _ _ _ _ _ _ h (hI.stk (okl_cons.mpr ⟨hI.2.2.1 _ _ hx, hI.2.2.2.1⟩))) (fun p e R s m args below meth c H locs cells slots Q ls C hP hS hl k => s_aldvn (nL := 0) C.1 C.2.1 hdg h2 (lget_LR hl hx) k)
  · cases h
theorem s_istore {i : Nat} (htb : tb pc = (.istore i, nx, (a, b, cc), v, w, sw)) (hok : okI on (decide (nm = "<init>")) cd pc (.istore i, nx, (a, b, cc), v, w, sw) = true) (hgo : ∀ pc lc st L σ o, go pc lc st L σ = some o → INV L0 σ0 fl lc st L σ → SG G l on nm cd nL ret d L0 (dec o) pc lc st L σ) (h : stp tb rt fl cl Rk go pc lc st L σ = some o) (hI : INV L0 σ0 fl lc st L σ)  : SG G l on nm cd nL ret d L0 (dec o) pc lc st L σ := by
  unfold stp at h
  rw [htb] at h
  simp only [okI, Bool.and_eq_true, decide_eq_true_eq] at hok
  simp only at h
  obtain ⟨h1, h2⟩ := hok
  obtain ⟨hdg, rfl⟩ := dk_ok h1
  have h2 := Nat.eq_of_beq_eq_true h2
  split at h
  · rename_i x r
    obtain ⟨hw, h⟩ := bif_n h
    obtain ⟨hv, hr⟩ := okl_cons.mp hI.2.2.2.1
    exact sg_loc (hgo _ _ _ _ _ _ h (hI.loc (hI.2.2.1.put hv) hr)) (fun p e R s m args below meth c H locs cells slots Q ls C hl k => by subst h2; exact lv_istore C.1 C.2.1 hdg hl.has (lwid_nL hl hw) rfl (fun ls' a1 => k ls' (LR.put (v := vI x) hl.2.2.1 hw a1)))
  · cases h
theorem s_istore_n {i : Fin 4} (htb : tb pc = (.istore_n i, nx, (a, b, cc), v, w, sw)) (hok : okI on (decide (nm = "<init>")) cd pc (.istore_n i, nx, (a, b, cc), v, w, sw) = true) (hgo : ∀ pc lc st L σ o, go pc lc st L σ = some o → INV L0 σ0 fl lc st L σ → SG G l on nm cd nL ret d L0 (dec o) pc lc st L σ) (h : stp tb rt fl cl Rk go pc lc st L σ = some o) (hI : INV L0 σ0 fl lc st L σ)  : SG G l on nm cd nL ret d L0 (dec o) pc lc st L σ := by
  unfold stp at h
  rw [htb] at h
  simp only [okI, Bool.and_eq_true, decide_eq_true_eq] at hok
  simp only at h
  obtain ⟨h1, h2⟩ := hok
  obtain ⟨hdg, rfl⟩ := dk_ok h1
  have h2 := Nat.eq_of_beq_eq_true h2
  split at h
  · rename_i x r
    obtain ⟨hw, h⟩ := bif_n h
    obtain ⟨hv, hr⟩ := okl_cons.mp hI.2.2.2.1
    exact sg_loc (hgo _ _ _ _ _ _ h (hI.loc (hI.2.2.1.put hv) hr)) (fun p e R s m args below meth c H locs cells slots Q ls C hl k => lv_istore_n C.1 C.2.1 hdg h2 hl.has (lwid_nL hl hw) rfl (fun ls' a1 => k ls' (LR.put (v := vI x) hl.2.2.1 hw a1)))
  · cases h
theorem s_astore {i : Nat} (htb : tb pc = (.astore i, nx, (a, b, cc), v, w, sw)) (hok : okI on (decide (nm = "<init>")) cd pc (.astore i, nx, (a, b, cc), v, w, sw) = true) (hgo : ∀ pc lc st L σ o, go pc lc st L σ = some o → INV L0 σ0 fl lc st L σ → SG G l on nm cd nL ret d L0 (dec o) pc lc st L σ) (h : stp tb rt fl cl Rk go pc lc st L σ = some o) (hI : INV L0 σ0 fl lc st L σ)  : SG G l on nm cd nL ret d L0 (dec o) pc lc st L σ := by
  unfold stp at h
  rw [htb] at h
  simp only [okI, Bool.and_eq_true, decide_eq_true_eq] at hok
  simp only at h
  obtain ⟨h1, h2⟩ := hok
  obtain ⟨hdg, rfl⟩ := dk_ok h1
  have h2 := Nat.eq_of_beq_eq_true h2
  split at h
  · rename_i x r
    obtain ⟨hw, h⟩ := bif_n h
    obtain ⟨hv, hr⟩ := okl_cons.mp hI.2.2.2.1
    exact sg_loc (hgo _ _ _ _ _ _ h (hI.loc (hI.2.2.1.put hv) hr)) (fun p e R s m args below meth c H locs cells slots Q ls C hl k => by subst h2; exact s_astv (j := 0) C.1 C.2.1 hdg hl.has (lwid_nL hl hw) (fun ls' a1 => k ls' (LR.put (v := .inr (.inr x)) hl.2.2.1 hw a1)))
  · cases h
theorem s_astore_n {i : Fin 4} (htb : tb pc = (.astore_n i, nx, (a, b, cc), v, w, sw)) (hok : okI on (decide (nm = "<init>")) cd pc (.astore_n i, nx, (a, b, cc), v, w, sw) = true) (hgo : ∀ pc lc st L σ o, go pc lc st L σ = some o → INV L0 σ0 fl lc st L σ → SG G l on nm cd nL ret d L0 (dec o) pc lc st L σ) (h : stp tb rt fl cl Rk go pc lc st L σ = some o) (hI : INV L0 σ0 fl lc st L σ)  : SG G l on nm cd nL ret d L0 (dec o) pc lc st L σ := by
  unfold stp at h
  rw [htb] at h
  simp only [okI, Bool.and_eq_true, decide_eq_true_eq] at hok
  simp only at h
  obtain ⟨h1, h2⟩ := hok
  obtain ⟨hdg, rfl⟩ := dk_ok h1
  have h2 := Nat.eq_of_beq_eq_true h2
  split at h
  · rename_i x r
    obtain ⟨hw, h⟩ := bif_n h
    obtain ⟨hv, hr⟩ := okl_cons.mp hI.2.2.2.1
    exact sg_loc (hgo _ _ _ _ _ _ h (hI.loc (hI.2.2.1.put hv) hr)) (fun p e R s m args below meth c H locs cells slots Q ls C hl k => s_astvn C.1 C.2.1 hdg h2 hl.has (lwid_nL hl hw) (fun ls' a1 => k ls' (LR.put (v := .inr (.inr x)) hl.2.2.1 hw a1)))
  · cases h
theorem s_lstore {i : Nat} (htb : tb pc = (.lstore i, nx, (a, b, cc), v, w, sw)) (hok : okI on (decide (nm = "<init>")) cd pc (.lstore i, nx, (a, b, cc), v, w, sw) = true) (hgo : ∀ pc lc st L σ o, go pc lc st L σ = some o → INV L0 σ0 fl lc st L σ → SG G l on nm cd nL ret d L0 (dec o) pc lc st L σ) (h : stp tb rt fl cl Rk go pc lc st L σ = some o) (hI : INV L0 σ0 fl lc st L σ)  : SG G l on nm cd nL ret d L0 (dec o) pc lc st L σ := by
  unfold stp at h
  rw [htb] at h
  simp only [okI, Bool.and_eq_true, decide_eq_true_eq] at hok
  simp only at h
  obtain ⟨h1, h2⟩ := hok
  obtain ⟨hdg, rfl⟩ := dk_ok h1
  have h2 := Nat.eq_of_beq_eq_true h2
  split at h
  · rename_i x r
    obtain ⟨hw, h⟩ := bif_n h
    rw [Bool.or_eq_false_iff] at hw
    obtain ⟨hw, hw2⟩ := hw
    obtain ⟨hv, hr⟩ := okl_cons.mp hI.2.2.2.1
    subst h2
    refine sg_loc (hgo _ _ _ _ _ _ h (hI.loc (hI.2.2.1.put hv).clr hr)) (fun p e R s m args below meth c H locs cells slots Q ls C hl k => lv_lstore C.1 C.2.1 hdg hl.has ?_ rfl (fun ls' a1 => k ls' (LR.put2 hl.2.2.1 hw a1)))
    rw [← hl.2.2.1]
    rcases Nat.lt_or_ge (i + 1) lc.length with q | q
    · exact q
    · rw [Nat.ble_eq_true_of_le q] at hw2
      cases hw2
  · cases h
theorem s_lstore_n {i : Fin 4} (htb : tb pc = (.lstore_n i, nx, (a, b, cc), v, w, sw)) (hok : okI on (decide (nm = "<init>")) cd pc (.lstore_n i, nx, (a, b, cc), v, w, sw) = true) (hgo : ∀ pc lc st L σ o, go pc lc st L σ = some o → INV L0 σ0 fl lc st L σ → SG G l on nm cd nL ret d L0 (dec o) pc lc st L σ) (h : stp tb rt fl cl Rk go pc lc st L σ = some o) (hI : INV L0 σ0 fl lc st L σ)  : SG G l on nm cd nL ret d L0 (dec o) pc lc st L σ := by
  unfold stp at h
  rw [htb] at h
  simp only [okI, Bool.and_eq_true, decide_eq_true_eq] at hok
  simp only at h
  obtain ⟨h1, h2⟩ := hok
  obtain ⟨hdg, rfl⟩ := dk_ok h1
  have h2 := Nat.eq_of_beq_eq_true h2
  split at h
  · rename_i x r
    obtain ⟨hw, h⟩ := bif_n h
    rw [Bool.or_eq_false_iff] at hw
    obtain ⟨hw, hw2⟩ := hw
    obtain ⟨hv, hr⟩ := okl_cons.mp hI.2.2.2.1
    refine sg_loc (hgo _ _ _ _ _ _ h (hI.loc (hI.2.2.1.put hv).clr hr)) (fun p e R s m args below meth c H locs cells slots Q ls C hl k => lv_lstore_n C.1 C.2.1 hdg h2 hl.has ?_ rfl (fun ls' a1 => k ls' (LR.put2 hl.2.2.1 hw a1)))
    rw [← hl.2.2.1]
    rcases Nat.lt_or_ge (a + 1) lc.length with q | q
    · exact q
    · rw [Nat.ble_eq_true_of_le q] at hw2
      cases hw2
  · cases h
theorem s_iinc {i : Nat} {j : Int} (htb : tb pc = (.iinc i j, nx, (a, b, cc), v, w, sw)) (hok : okI on (decide (nm = "<init>")) cd pc (.iinc i j, nx, (a, b, cc), v, w, sw) = true) (hgo : ∀ pc lc st L σ o, go pc lc st L σ = some o → INV L0 σ0 fl lc st L σ → SG G l on nm cd nL ret d L0 (dec o) pc lc st L σ) (h : stp tb rt fl cl Rk go pc lc st L σ = some o) (hI : INV L0 σ0 fl lc st L σ)  : SG G l on nm cd nL ret d L0 (dec o) pc lc st L σ := by
  unfold stp at h
  rw [htb] at h
  simp only [okI, Bool.and_eq_true, decide_eq_true_eq] at hok
  simp only at h
  obtain ⟨⟨h1, h2⟩, h3⟩ := hok
  obtain ⟨hdg, rfl⟩ := dk_ok h1
  have h2 := Nat.eq_of_beq_eq_true h2
  subst h2
  split at h
  · rename_i x hx
    obtain ⟨hw, h⟩ := bif_n h
    refine sg_loc (hgo _ _ _ _ _ _ h (hI.loc (hI.2.2.1.put trivial) hI.2.2.2.1)) (fun p e R s m args below meth c H locs cells slots Q ls C hl k => ?_)
    obtain ⟨z, hz⟩ := List.getElem?_of_mem (lsl_mem (G := G) hx)
    exact lv_iinc (k := z) C.1 C.2.1 hdg hl.has hz (by rw [h3]) (lwid_nL hl hw) rfl (fun ls' a1 => k ls' (LR.put (v := vI (x + v)) hl.2.2.1 hw a1))
  · cases h
theorem s_iadd  (htb : tb pc = (.iadd, nx, (a, b, cc), v, w, sw)) (hok : okI on (decide (nm = "<init>")) cd pc (.iadd, nx, (a, b, cc), v, w, sw) = true) (hgo : ∀ pc lc st L σ o, go pc lc st L σ = some o → INV L0 σ0 fl lc st L σ → SG G l on nm cd nL ret d L0 (dec o) pc lc st L σ) (h : stp tb rt fl cl Rk go pc lc st L σ = some o) (hI : INV L0 σ0 fl lc st L σ)  : SG G l on nm cd nL ret d L0 (dec o) pc lc st L σ := by
  unfold stp at h
  rw [htb] at h
  simp only [okI, Bool.and_eq_true, decide_eq_true_eq] at hok
  simp only at h
  obtain ⟨hdg, rfl⟩ := dk_ok hok
  split at h
  · rename_i y x r
    obtain ⟨-, hr⟩ := okl_cons.mp hI.2.2.2.1
    obtain ⟨-, hr⟩ := okl_cons.mp hr
    exact sg_same (hgo _ _ _ _ _ _ h (hI.stk (okl_cons.mpr ⟨trivial, hr⟩))) (fun p e R s m args below meth c H locs cells slots Q ls C hP hS hl k => lv_iadd C.1 C.2.1 hdg k)
  · cases h
theorem s_isub  (htb : tb pc = (.isub, nx, (a, b, cc), v, w, sw)) (hok : okI on (decide (nm = "<init>")) cd pc (.isub, nx, (a, b, cc), v, w, sw) = true) (hgo : ∀ pc lc st L σ o, go pc lc st L σ = some o → INV L0 σ0 fl lc st L σ → SG G l on nm cd nL ret d L0 (dec o) pc lc st L σ) (h : stp tb rt fl cl Rk go pc lc st L σ = some o) (hI : INV L0 σ0 fl lc st L σ)  : SG G l on nm cd nL ret d L0 (dec o) pc lc st L σ := by
  unfold stp at h
  rw [htb] at h
  simp only [okI, Bool.and_eq_true, decide_eq_true_eq] at hok
  simp only at h
  obtain ⟨hdg, rfl⟩ := dk_ok hok
  split at h
  · rename_i y x r
    obtain ⟨-, hr⟩ := okl_cons.mp hI.2.2.2.1
    obtain ⟨-, hr⟩ := okl_cons.mp hr
    exact sg_same (hgo _ _ _ _ _ _ h (hI.stk (okl_cons.mpr ⟨trivial, hr⟩))) (fun p e R s m args below meth c H locs cells slots Q ls C hP hS hl k => lv_isub C.1 C.2.1 hdg k)
  · cases h
theorem s_imul  (htb : tb pc = (.imul, nx, (a, b, cc), v, w, sw)) (hok : okI on (decide (nm = "<init>")) cd pc (.imul, nx, (a, b, cc), v, w, sw) = true) (hgo : ∀ pc lc st L σ o, go pc lc st L σ = some o → INV L0 σ0 fl lc st L σ → SG G l on nm cd nL ret d L0 (dec o) pc lc st L σ) (h : stp tb rt fl cl Rk go pc lc st L σ = some o) (hI : INV L0 σ0 fl lc st L σ)  : SG G l on nm cd nL ret d L0 (dec o) pc lc st L σ := by
  unfold stp at h
  rw [htb] at h
  simp only [okI, Bool.and_eq_true, decide_eq_true_eq] at hok
  simp only at h
  obtain ⟨hdg, rfl⟩ := dk_ok hok
  split at h
  · rename_i y x r
    obtain ⟨-, hr⟩ := okl_cons.mp hI.2.2.2.1
    obtain ⟨-, hr⟩ := okl_cons.mp hr
    exact sg_same (hgo _ _ _ _ _ _ h (hI.stk (okl_cons.mpr ⟨trivial, hr⟩))) (fun p e R s m args below meth c H locs cells slots Q ls C hP hS hl k => lv_imul C.1 C.2.1 hdg k)
  · cases h
theorem s_iand  (htb : tb pc = (.iand, nx, (a, b, cc), v, w, sw)) (hok : okI on (decide (nm = "<init>")) cd pc (.iand, nx, (a, b, cc), v, w, sw) = true) (hgo : ∀ pc lc st L σ o, go pc lc st L σ = some o → INV L0 σ0 fl lc st L σ → SG G l on nm cd nL ret d L0 (dec o) pc lc st L σ) (h : stp tb rt fl cl Rk go pc lc st L σ = some o) (hI : INV L0 σ0 fl lc st L σ)  : SG G l on nm cd nL ret d L0 (dec o) pc lc st L σ := by
  unfold stp at h
  rw [htb] at h
  simp only [okI, Bool.and_eq_true, decide_eq_true_eq] at hok
  simp only at h
  obtain ⟨hdg, rfl⟩ := dk_ok hok
  split at h
  · rename_i y x r
    obtain ⟨-, hr⟩ := okl_cons.mp hI.2.2.2.1
    obtain ⟨-, hr⟩ := okl_cons.mp hr
    exact sg_same (hgo _ _ _ _ _ _ h (hI.stk (okl_cons.mpr ⟨trivial, hr⟩))) (fun p e R s m args below meth c H locs cells slots Q ls C hP hS hl k => lv_iand C.1 C.2.1 hdg k)
  · cases h
theorem s_ior  (htb : tb pc = (.ior, nx, (a, b, cc), v, w, sw)) (hok : okI on (decide (nm = "<init>")) cd pc (.ior, nx, (a, b, cc), v, w, sw) = true) (hgo : ∀ pc lc st L σ o, go pc lc st L σ = some o → INV L0 σ0 fl lc st L σ → SG G l on nm cd nL ret d L0 (dec o) pc lc st L σ) (h : stp tb rt fl cl Rk go pc lc st L σ = some o) (hI : INV L0 σ0 fl lc st L σ)  : SG G l on nm cd nL ret d L0 (dec o) pc lc st L σ := by
  unfold stp at h
  rw [htb] at h
  simp only [okI, Bool.and_eq_true, decide_eq_true_eq] at hok
  simp only at h
  obtain ⟨hdg, rfl⟩ := dk_ok hok
  split at h
  · rename_i y x r
    obtain ⟨-, hr⟩ := okl_cons.mp hI.2.2.2.1
    obtain ⟨-, hr⟩ := okl_cons.mp hr
    exact sg_same (hgo _ _ _ _ _ _ h (hI.stk (okl_cons.mpr ⟨trivial, hr⟩))) (fun p e R s m args below meth c H locs cells slots Q ls C hP hS hl k => lv_ior C.1 C.2.1 hdg k)
  · cases h
theorem s_ishl  (htb : tb pc = (.ishl, nx, (a, b, cc), v, w, sw)) (hok : okI on (decide (nm = "<init>")) cd pc (.ishl, nx, (a, b, cc), v, w, sw) = true) (hgo : ∀ pc lc st L σ o, go pc lc st L σ = some o → INV L0 σ0 fl lc st L σ → SG G l on nm cd nL ret d L0 (dec o) pc lc st L σ) (h : stp tb rt fl cl Rk go pc lc st L σ = some o) (hI : INV L0 σ0 fl lc st L σ)  : SG G l on nm cd nL ret d L0 (dec o) pc lc st L σ := by
  unfold stp at h
  rw [htb] at h
  simp only [okI, Bool.and_eq_true, decide_eq_true_eq] at hok
  simp only at h
  obtain ⟨hdg, rfl⟩ := dk_ok hok
  split at h
  · rename_i y x r
    obtain ⟨-, hr⟩ := okl_cons.mp hI.2.2.2.1
    obtain ⟨-, hr⟩ := okl_cons.mp hr
    exact sg_same (hgo _ _ _ _ _ _ h (hI.stk (okl_cons.mpr ⟨trivial, hr⟩))) (fun p e R s m args below meth c H locs cells slots Q ls C hP hS hl k => lv_ishl C.1 C.2.1 hdg k)
  · cases h
theorem s_ishr  (htb : tb pc = (.ishr, nx, (a, b, cc), v, w, sw)) (hok : okI on (decide (nm = "<init>")) cd pc (.ishr, nx, (a, b, cc), v, w, sw) = true) (hgo : ∀ pc lc st L σ o, go pc lc st L σ = some o → INV L0 σ0 fl lc st L σ → SG G l on nm cd nL ret d L0 (dec o) pc lc st L σ) (h : stp tb rt fl cl Rk go pc lc st L σ = some o) (hI : INV L0 σ0 fl lc st L σ)  : SG G l on nm cd nL ret d L0 (dec o) pc lc st L σ := by
  unfold stp at h
  rw [htb] at h
  simp only [okI, Bool.and_eq_true, decide_eq_true_eq] at hok
  simp only at h
  obtain ⟨hdg, rfl⟩ := dk_ok hok
  split at h
  · rename_i y x r
    obtain ⟨-, hr⟩ := okl_cons.mp hI.2.2.2.1
    obtain ⟨-, hr⟩ := okl_cons.mp hr
    exact sg_same (hgo _ _ _ _ _ _ h (hI.stk (okl_cons.mpr ⟨trivial, hr⟩))) (fun p e R s m args below meth c H locs cells slots Q ls C hP hS hl k => lv_ishr C.1 C.2.1 hdg k)
  · cases h
theorem s_ladd  (htb : tb pc = (.ladd, nx, (a, b, cc), v, w, sw)) (hok : okI on (decide (nm = "<init>")) cd pc (.ladd, nx, (a, b, cc), v, w, sw) = true) (hgo : ∀ pc lc st L σ o, go pc lc st L σ = some o → INV L0 σ0 fl lc st L σ → SG G l on nm cd nL ret d L0 (dec o) pc lc st L σ) (h : stp tb rt fl cl Rk go pc lc st L σ = some o) (hI : INV L0 σ0 fl lc st L σ)  : SG G l on nm cd nL ret d L0 (dec o) pc lc st L σ := by
  unfold stp at h
  rw [htb] at h
  simp only [okI, Bool.and_eq_true, decide_eq_true_eq] at hok
  simp only at h
  obtain ⟨hdg, rfl⟩ := dk_ok hok
  split at h
  · rename_i y x r
    obtain ⟨-, hr⟩ := okl_cons.mp hI.2.2.2.1
    obtain ⟨-, hr⟩ := okl_cons.mp hr
    exact sg_same (hgo _ _ _ _ _ _ h (hI.stk (okl_cons.mpr ⟨trivial, hr⟩))) (fun p e R s m args below meth c H locs cells slots Q ls C hP hS hl k => lv_ladd C.1 C.2.1 hdg k)
  · cases h
theorem s_lsub  (htb : tb pc = (.lsub, nx, (a, b, cc), v, w, sw)) (hok : okI on (decide (nm = "<init>")) cd pc (.lsub, nx, (a, b, cc), v, w, sw) = true) (hgo : ∀ pc lc st L σ o, go pc lc st L σ = some o → INV L0 σ0 fl lc st L σ → SG G l on nm cd nL ret d L0 (dec o) pc lc st L σ) (h : stp tb rt fl cl Rk go pc lc st L σ = some o) (hI : INV L0 σ0 fl lc st L σ)  : SG G l on nm cd nL ret d L0 (dec o) pc lc st L σ := by
  unfold stp at h
  rw [htb] at h
  simp only [okI, Bool.and_eq_true, decide_eq_true_eq] at hok
  simp only at h
  obtain ⟨hdg, rfl⟩ := dk_ok hok
  split at h
  · rename_i y x r
    obtain ⟨-, hr⟩ := okl_cons.mp hI.2.2.2.1
    obtain ⟨-, hr⟩ := okl_cons.mp hr
    exact sg_same (hgo _ _ _ _ _ _ h (hI.stk (okl_cons.mpr ⟨trivial, hr⟩))) (fun p e R s m args below meth c H locs cells slots Q ls C hP hS hl k => lv_lsub C.1 C.2.1 hdg k)
  · cases h
theorem s_land  (htb : tb pc = (.land, nx, (a, b, cc), v, w, sw)) (hok : okI on (decide (nm = "<init>")) cd pc (.land, nx, (a, b, cc), v, w, sw) = true) (hgo : ∀ pc lc st L σ o, go pc lc st L σ = some o → INV L0 σ0 fl lc st L σ → SG G l on nm cd nL ret d L0 (dec o) pc lc st L σ) (h : stp tb rt fl cl Rk go pc lc st L σ = some o) (hI : INV L0 σ0 fl lc st L σ)  : SG G l on nm cd nL ret d L0 (dec o) pc lc st L σ := by
  unfold stp at h
  rw [htb] at h
  simp only [okI, Bool.and_eq_true, decide_eq_true_eq] at hok
  simp only at h
  obtain ⟨hdg, rfl⟩ := dk_ok hok
  split at h
  · rename_i y x r
    obtain ⟨-, hr⟩ := okl_cons.mp hI.2.2.2.1
    obtain ⟨-, hr⟩ := okl_cons.mp hr
    exact sg_same (hgo _ _ _ _ _ _ h (hI.stk (okl_cons.mpr ⟨trivial, hr⟩))) (fun p e R s m args below meth c H locs cells slots Q ls C hP hS hl k => lv_land C.1 C.2.1 hdg k)
  · cases h
theorem s_lor  (htb : tb pc = (.lor, nx, (a, b, cc), v, w, sw)) (hok : okI on (decide (nm = "<init>")) cd pc (.lor, nx, (a, b, cc), v, w, sw) = true) (hgo : ∀ pc lc st L σ o, go pc lc st L σ = some o → INV L0 σ0 fl lc st L σ → SG G l on nm cd nL ret d L0 (dec o) pc lc st L σ) (h : stp tb rt fl cl Rk go pc lc st L σ = some o) (hI : INV L0 σ0 fl lc st L σ)  : SG G l on nm cd nL ret d L0 (dec o) pc lc st L σ := by
  unfold stp at h
  rw [htb] at h
  simp only [okI, Bool.and_eq_true, decide_eq_true_eq] at hok
  simp only at h
  obtain ⟨hdg, rfl⟩ := dk_ok hok
  split at h
  · rename_i y x r
    obtain ⟨-, hr⟩ := okl_cons.mp hI.2.2.2.1
    obtain ⟨-, hr⟩ := okl_cons.mp hr
    exact sg_same (hgo _ _ _ _ _ _ h (hI.stk (okl_cons.mpr ⟨trivial, hr⟩))) (fun p e R s m args below meth c H locs cells slots Q ls C hP hS hl k => lv_lor C.1 C.2.1 hdg k)
  · cases h
theorem s_iushr  (htb : tb pc = (.iushr, nx, (a, b, cc), v, w, sw)) (hok : okI on (decide (nm = "<init>")) cd pc (.iushr, nx, (a, b, cc), v, w, sw) = true) (hgo : ∀ pc lc st L σ o, go pc lc st L σ = some o → INV L0 σ0 fl lc st L σ → SG G l on nm cd nL ret d L0 (dec o) pc lc st L σ) (h : stp tb rt fl cl Rk go pc lc st L σ = some o) (hI : INV L0 σ0 fl lc st L σ)  : SG G l on nm cd nL ret d L0 (dec o) pc lc st L σ := by
  unfold stp at h
  rw [htb] at h
  simp only [okI, Bool.and_eq_true, decide_eq_true_eq] at hok
  simp only at h
  obtain ⟨hdg, rfl⟩ := dk_ok hok
  split at h
  · rename_i y x r
    obtain ⟨-, hr⟩ := okl_cons.mp hI.2.2.2.1
    obtain ⟨-, hr⟩ := okl_cons.mp hr
    exact sg_same (hgo _ _ _ _ _ _ h (hI.stk (okl_cons.mpr ⟨trivial, hr⟩))) (fun p e R s m args below meth c H locs cells slots Q ls C hP hS hl k => lv_iushr C.1 C.2.1 hdg rfl k)
  · cases h
theorem s_lshl  (htb : tb pc = (.lshl, nx, (a, b, cc), v, w, sw)) (hok : okI on (decide (nm = "<init>")) cd pc (.lshl, nx, (a, b, cc), v, w, sw) = true) (hgo : ∀ pc lc st L σ o, go pc lc st L σ = some o → INV L0 σ0 fl lc st L σ → SG G l on nm cd nL ret d L0 (dec o) pc lc st L σ) (h : stp tb rt fl cl Rk go pc lc st L σ = some o) (hI : INV L0 σ0 fl lc st L σ)  : SG G l on nm cd nL ret d L0 (dec o) pc lc st L σ := by
  unfold stp at h
  rw [htb] at h
  simp only [okI, Bool.and_eq_true, decide_eq_true_eq] at hok
  simp only at h
  obtain ⟨hdg, rfl⟩ := dk_ok hok
  split at h
  · rename_i y x r
    obtain ⟨-, hr⟩ := okl_cons.mp hI.2.2.2.1
    obtain ⟨-, hr⟩ := okl_cons.mp hr
    exact sg_same (hgo _ _ _ _ _ _ h (hI.stk (okl_cons.mpr ⟨trivial, hr⟩))) (fun p e R s m args below meth c H locs cells slots Q ls C hP hS hl k => lv_lshl C.1 C.2.1 hdg rfl k)
  · cases h
theorem s_lshr  (htb : tb pc = (.lshr, nx, (a, b, cc), v, w, sw)) (hok : okI on (decide (nm = "<init>")) cd pc (.lshr, nx, (a, b, cc), v, w, sw) = true) (hgo : ∀ pc lc st L σ o, go pc lc st L σ = some o → INV L0 σ0 fl lc st L σ → SG G l on nm cd nL ret d L0 (dec o) pc lc st L σ) (h : stp tb rt fl cl Rk go pc lc st L σ = some o) (hI : INV L0 σ0 fl lc st L σ)  : SG G l on nm cd nL ret d L0 (dec o) pc lc st L σ := by
  unfold stp at h
  rw [htb] at h
  simp only [okI, Bool.and_eq_true, decide_eq_true_eq] at hok
  simp only at h
  obtain ⟨hdg, rfl⟩ := dk_ok hok
  split at h
  · rename_i y x r
    obtain ⟨-, hr⟩ := okl_cons.mp hI.2.2.2.1
    obtain ⟨-, hr⟩ := okl_cons.mp hr
    exact sg_same (hgo _ _ _ _ _ _ h (hI.stk (okl_cons.mpr ⟨trivial, hr⟩))) (fun p e R s m args below meth c H locs cells slots Q ls C hP hS hl k => lv_lshr C.1 C.2.1 hdg rfl k)
  · cases h
theorem s_lushr  (htb : tb pc = (.lushr, nx, (a, b, cc), v, w, sw)) (hok : okI on (decide (nm = "<init>")) cd pc (.lushr, nx, (a, b, cc), v, w, sw) = true) (hgo : ∀ pc lc st L σ o, go pc lc st L σ = some o → INV L0 σ0 fl lc st L σ → SG G l on nm cd nL ret d L0 (dec o) pc lc st L σ) (h : stp tb rt fl cl Rk go pc lc st L σ = some o) (hI : INV L0 σ0 fl lc st L σ)  : SG G l on nm cd nL ret d L0 (dec o) pc lc st L σ := by
  unfold stp at h
  rw [htb] at h
  simp only [okI, Bool.and_eq_true, decide_eq_true_eq] at hok
  simp only at h
  obtain ⟨hdg, rfl⟩ := dk_ok hok
  split at h
  · rename_i y x r
    obtain ⟨-, hr⟩ := okl_cons.mp hI.2.2.2.1
    obtain ⟨-, hr⟩ := okl_cons.mp hr
    exact sg_same (hgo _ _ _ _ _ _ h (hI.stk (okl_cons.mpr ⟨trivial, hr⟩))) (fun p e R s m args below meth c H locs cells slots Q ls C hP hS hl k => lv_lushr C.1 C.2.1 hdg rfl k)
  · cases h
theorem s_lcmp  (htb : tb pc = (.lcmp, nx, (a, b, cc), v, w, sw)) (hok : okI on (decide (nm = "<init>")) cd pc (.lcmp, nx, (a, b, cc), v, w, sw) = true) (hgo : ∀ pc lc st L σ o, go pc lc st L σ = some o → INV L0 σ0 fl lc st L σ → SG G l on nm cd nL ret d L0 (dec o) pc lc st L σ) (h : stp tb rt fl cl Rk go pc lc st L σ = some o) (hI : INV L0 σ0 fl lc st L σ)  : SG G l on nm cd nL ret d L0 (dec o) pc lc st L σ := by
  unfold stp at h
  rw [htb] at h
  simp only [okI, Bool.and_eq_true, decide_eq_true_eq] at hok
  simp only at h
  obtain ⟨hdg, rfl⟩ := dk_ok hok
  split at h
  · rename_i y x r
    obtain ⟨-, hr⟩ := okl_cons.mp hI.2.2.2.1
    obtain ⟨-, hr⟩ := okl_cons.mp hr
    exact sg_same (hgo _ _ _ _ _ _ h (hI.stk (okl_cons.mpr ⟨trivial, hr⟩))) (fun p e R s m args below meth c H locs cells slots Q ls C hP hS hl k => W.lcmp C.1 C.2.1 hdg k)
  · cases h
theorem s_ineg  (htb : tb pc = (.ineg, nx, (a, b, cc), v, w, sw)) (hok : okI on (decide (nm = "<init>")) cd pc (.ineg, nx, (a, b, cc), v, w, sw) = true) (hgo : ∀ pc lc st L σ o, go pc lc st L σ = some o → INV L0 σ0 fl lc st L σ → SG G l on nm cd nL ret d L0 (dec o) pc lc st L σ) (h : stp tb rt fl cl Rk go pc lc st L σ = some o) (hI : INV L0 σ0 fl lc st L σ)  : SG G l on nm cd nL ret d L0 (dec o) pc lc st L σ := by
  unfold stp at h
  rw [htb] at h
  simp only [okI, Bool.and_eq_true, decide_eq_true_eq] at hok
  simp only at h
  obtain ⟨hdg, rfl⟩ := dk_ok hok
  split at h
  · rename_i x r
    obtain ⟨-, hr⟩ := okl_cons.mp hI.2.2.2.1
    exact sg_same (hgo _ _ _ _ _ _ h (hI.stk (okl_cons.mpr ⟨trivial, hr⟩))) (fun p e R s m args below meth c H locs cells slots Q ls C hP hS hl k => lv_ineg C.1 C.2.1 hdg k)
  · cases h
theorem s_i2l  (htb : tb pc = (.i2l, nx, (a, b, cc), v, w, sw)) (hok : okI on (decide (nm = "<init>")) cd pc (.i2l, nx, (a, b, cc), v, w, sw) = true) (hgo : ∀ pc lc st L σ o, go pc lc st L σ = some o → INV L0 σ0 fl lc st L σ → SG G l on nm cd nL ret d L0 (dec o) pc lc st L σ) (h : stp tb rt fl cl Rk go pc lc st L σ = some o) (hI : INV L0 σ0 fl lc st L σ)  : SG G l on nm cd nL ret d L0 (dec o) pc lc st L σ := by
  unfold stp at h
  rw [htb] at h
  simp only [okI, Bool.and_eq_true, decide_eq_true_eq] at hok
  simp only at h
  obtain ⟨hdg, rfl⟩ := dk_ok hok
  split at h
  · rename_i x r
    obtain ⟨-, hr⟩ := okl_cons.mp hI.2.2.2.1
    exact sg_same (hgo _ _ _ _ _ _ h (hI.stk (okl_cons.mpr ⟨trivial, hr⟩))) (fun p e R s m args below meth c H locs cells slots Q ls C hP hS hl k => lv_i2l C.1 C.2.1 hdg rfl k)
  · cases h
theorem s_i2s  (htb : tb pc = (.i2s, nx, (a, b, cc), v, w, sw)) (hok : okI on (decide (nm = "<init>")) cd pc (.i2s, nx, (a, b, cc), v, w, sw) = true) (hgo : ∀ pc lc st L σ o, go pc lc st L σ = some o → INV L0 σ0 fl lc st L σ → SG G l on nm cd nL ret d L0 (dec o) pc lc st L σ) (h : stp tb rt fl cl Rk go pc lc st L σ = some o) (hI : INV L0 σ0 fl lc st L σ)  : SG G l on nm cd nL ret d L0 (dec o) pc lc st L σ := by
  unfold stp at h
  rw [htb] at h
  simp only [okI, Bool.and_eq_true, decide_eq_true_eq] at hok
  simp only at h
  obtain ⟨hdg, rfl⟩ := dk_ok hok
  split at h
  · rename_i x r
    obtain ⟨-, hr⟩ := okl_cons.mp hI.2.2.2.1
    exact sg_same (hgo _ _ _ _ _ _ h (hI.stk (okl_cons.mpr ⟨trivial, hr⟩))) (fun p e R s m args below meth c H locs cells slots Q ls C hP hS hl k => lv_i2s C.1 C.2.1 hdg rfl k)
  · cases h
theorem s_i2b  (htb : tb pc = (.i2b, nx, (a, b, cc), v, w, sw)) (hok : okI on (decide (nm = "<init>")) cd pc (.i2b, nx, (a, b, cc), v, w, sw) = true) (hgo : ∀ pc lc st L σ o, go pc lc st L σ = some o → INV L0 σ0 fl lc st L σ → SG G l on nm cd nL ret d L0 (dec o) pc lc st L σ) (h : stp tb rt fl cl Rk go pc lc st L σ = some o) (hI : INV L0 σ0 fl lc st L σ)  : SG G l on nm cd nL ret d L0 (dec o) pc lc st L σ := by
  unfold stp at h
  rw [htb] at h
  simp only [okI, Bool.and_eq_true, decide_eq_true_eq] at hok
  simp only at h
  obtain ⟨hdg, rfl⟩ := dk_ok hok
  split at h
  · rename_i x r
    obtain ⟨-, hr⟩ := okl_cons.mp hI.2.2.2.1
    exact sg_same (hgo _ _ _ _ _ _ h (hI.stk (okl_cons.mpr ⟨trivial, hr⟩))) (fun p e R s m args below meth c H locs cells slots Q ls C hP hS hl k => lv_i2b C.1 C.2.1 hdg rfl k)
  · cases h
theorem s_i2c  (htb : tb pc = (.i2c, nx, (a, b, cc), v, w, sw)) (hok : okI on (decide (nm = "<init>")) cd pc (.i2c, nx, (a, b, cc), v, w, sw) = true) (hgo : ∀ pc lc st L σ o, go pc lc st L σ = some o → INV L0 σ0 fl lc st L σ → SG G l on nm cd nL ret d L0 (dec o) pc lc st L σ) (h : stp tb rt fl cl Rk go pc lc st L σ = some o) (hI : INV L0 σ0 fl lc st L σ)  : SG G l on nm cd nL ret d L0 (dec o) pc lc st L σ := by
  unfold stp at h
  rw [htb] at h
  simp only [okI, Bool.and_eq_true, decide_eq_true_eq] at hok
  simp only at h
  obtain ⟨hdg, rfl⟩ := dk_ok hok
  split at h
  · rename_i x r
    obtain ⟨-, hr⟩ := okl_cons.mp hI.2.2.2.1
    exact sg_same (hgo _ _ _ _ _ _ h (hI.stk (okl_cons.mpr ⟨trivial, hr⟩))) (fun p e R s m args below meth c H locs cells slots Q ls C hP hS hl k => lv_i2c C.1 C.2.1 hdg rfl k)
  · cases h
theorem s_l2i  (htb : tb pc = (.l2i, nx, (a, b, cc), v, w, sw)) (hok : okI on (decide (nm = "<init>")) cd pc (.l2i, nx, (a, b, cc), v, w, sw) = true) (hgo : ∀ pc lc st L σ o, go pc lc st L σ = some o → INV L0 σ0 fl lc st L σ → SG G l on nm cd nL ret d L0 (dec o) pc lc st L σ) (h : stp tb rt fl cl Rk go pc lc st L σ = some o) (hI : INV L0 σ0 fl lc st L σ)  : SG G l on nm cd nL ret d L0 (dec o) pc lc st L σ := by
  unfold stp at h
  rw [htb] at h
  simp only [okI, Bool.and_eq_true, decide_eq_true_eq] at hok
  simp only at h
  obtain ⟨hdg, rfl⟩ := dk_ok hok
  split at h
  · rename_i x r
    obtain ⟨-, hr⟩ := okl_cons.mp hI.2.2.2.1
    exact sg_same (hgo _ _ _ _ _ _ h (hI.stk (okl_cons.mpr ⟨trivial, hr⟩))) (fun p e R s m args below meth c H locs cells slots Q ls C hP hS hl k => lv_l2i C.1 C.2.1 hdg rfl k)
  · cases h
theorem s_idiv  (htb : tb pc = (.idiv, nx, (a, b, cc), v, w, sw)) (hok : okI on (decide (nm = "<init>")) cd pc (.idiv, nx, (a, b, cc), v, w, sw) = true) (hgo : ∀ pc lc st L σ o, go pc lc st L σ = some o → INV L0 σ0 fl lc st L σ → SG G l on nm cd nL ret d L0 (dec o) pc lc st L σ) (h : stp tb rt fl cl Rk go pc lc st L σ = some o) (hI : INV L0 σ0 fl lc st L σ)  : SG G l on nm cd nL ret d L0 (dec o) pc lc st L σ := by
  unfold stp at h
  rw [htb] at h
  simp only [okI, Bool.and_eq_true, decide_eq_true_eq] at hok
  simp only at h
  obtain ⟨hdg, rfl⟩ := dk_ok hok
  split at h
  · rename_i y x r
    obtain ⟨-, hr⟩ := okl_cons.mp hI.2.2.2.1
    obtain ⟨-, hr⟩ := okl_cons.mp hr
    obtain ⟨z, hz, h⟩ := Option.bind_eq_some_iff.mp h
    unfold dv at hz
    split at hz
    · cases hz
    · rename_i hne
      cases hz
      exact sg_same (hgo _ _ _ _ _ _ h (hI.stk (okl_cons.mpr ⟨trivial, hr⟩))) (fun p e R s m args below meth c H locs cells slots Q ls C hP hS hl k => lv_idiv C.1 C.2.1 hdg hne k)
  · cases h
theorem s_irem  (htb : tb pc = (.irem, nx, (a, b, cc), v, w, sw)) (hok : okI on (decide (nm = "<init>")) cd pc (.irem, nx, (a, b, cc), v, w, sw) = true) (hgo : ∀ pc lc st L σ o, go pc lc st L σ = some o → INV L0 σ0 fl lc st L σ → SG G l on nm cd nL ret d L0 (dec o) pc lc st L σ) (h : stp tb rt fl cl Rk go pc lc st L σ = some o) (hI : INV L0 σ0 fl lc st L σ)  : SG G l on nm cd nL ret d L0 (dec o) pc lc st L σ := by
  unfold stp at h
  rw [htb] at h
  simp only [okI, Bool.and_eq_true, decide_eq_true_eq] at hok
  simp only at h
  obtain ⟨hdg, rfl⟩ := dk_ok hok
  split at h
  · rename_i y x r
    obtain ⟨-, hr⟩ := okl_cons.mp hI.2.2.2.1
    obtain ⟨-, hr⟩ := okl_cons.mp hr
    obtain ⟨z, hz, h⟩ := Option.bind_eq_some_iff.mp h
    unfold rm at hz
    split at hz
    · cases hz
    · rename_i hne
      cases hz
      exact sg_same (hgo _ _ _ _ _ _ h (hI.stk (okl_cons.mpr ⟨trivial, hr⟩))) (fun p e R s m args below meth c H locs cells slots Q ls C hP hS hl k => lv_irem C.1 C.2.1 hdg hne k)
  · cases h
theorem s_dup  (htb : tb pc = (.dup, nx, (a, b, cc), v, w, sw)) (hok : okI on (decide (nm = "<init>")) cd pc (.dup, nx, (a, b, cc), v, w, sw) = true) (hgo : ∀ pc lc st L σ o, go pc lc st L σ = some o → INV L0 σ0 fl lc st L σ → SG G l on nm cd nL ret d L0 (dec o) pc lc st L σ) (h : stp tb rt fl cl Rk go pc lc st L σ = some o) (hI : INV L0 σ0 fl lc st L σ)  : SG G l on nm cd nL ret d L0 (dec o) pc lc st L σ := by
  unfold stp at h
  rw [htb] at h
  simp only [okI, Bool.and_eq_true, decide_eq_true_eq] at hok
  simp only at h
  obtain ⟨hdg, rfl⟩ := dk_ok hok
  split at h
  · rename_i x r
    obtain ⟨hv, hr⟩ := okl_cons.mp hI.2.2.2.1
    exact sg_same (hgo _ _ _ _ _ _ h (hI.stk (okl_cons.mpr ⟨trivial, okl_cons.mpr ⟨trivial, hr⟩⟩))) (fun p e R s m args below meth c H locs cells slots Q ls C hP hS hl k => lv_dup C.1 C.2.1 hdg rfl k)
  · rename_i x r
    obtain ⟨hv, hr⟩ := okl_cons.mp hI.2.2.2.1
    exact sg_same (hgo _ _ _ _ _ _ h (hI.stk (okl_cons.mpr ⟨hv, okl_cons.mpr ⟨hv, hr⟩⟩))) (fun p e R s m args below meth c H locs cells slots Q ls C hP hS hl k => lv_dup C.1 C.2.1 hdg (by rcases cv_rn G x with e | ⟨y, e⟩ <;> rw [e] <;> rfl) k)
  · cases h
theorem s_dup2  (htb : tb pc = (.dup2, nx, (a, b, cc), v, w, sw)) (hok : okI on (decide (nm = "<init>")) cd pc (.dup2, nx, (a, b, cc), v, w, sw) = true) (hgo : ∀ pc lc st L σ o, go pc lc st L σ = some o → INV L0 σ0 fl lc st L σ → SG G l on nm cd nL ret d L0 (dec o) pc lc st L σ) (h : stp tb rt fl cl Rk go pc lc st L σ = some o) (hI : INV L0 σ0 fl lc st L σ)  : SG G l on nm cd nL ret d L0 (dec o) pc lc st L σ := by
  unfold stp at h
  rw [htb] at h
  simp only [okI, Bool.and_eq_true, decide_eq_true_eq] at hok
  simp only at h
  obtain ⟨hdg, rfl⟩ := dk_ok hok
  split at h
  · rename_i y x r
    obtain ⟨-, hr⟩ := okl_cons.mp hI.2.2.2.1
    obtain ⟨hv, hr⟩ := okl_cons.mp hr
    exact sg_same (hgo _ _ _ _ _ _ h (hI.stk (okl_cons.mpr ⟨trivial, okl_cons.mpr ⟨hv, okl_cons.mpr ⟨trivial, okl_cons.mpr ⟨hv, hr⟩⟩⟩⟩))) (fun p e R s m args below meth c H locs cells slots Q ls C hP hS hl k => lv_dup2_11 C.1 C.2.1 hdg rfl (by rcases cv_rn G x with e | ⟨y, e⟩ <;> rw [e] <;> rfl) k)
  · cases h
theorem s_pop  (htb : tb pc = (.pop, nx, (a, b, cc), v, w, sw)) (hok : okI on (decide (nm = "<init>")) cd pc (.pop, nx, (a, b, cc), v, w, sw) = true) (hgo : ∀ pc lc st L σ o, go pc lc st L σ = some o → INV L0 σ0 fl lc st L σ → SG G l on nm cd nL ret d L0 (dec o) pc lc st L σ) (h : stp tb rt fl cl Rk go pc lc st L σ = some o) (hI : INV L0 σ0 fl lc st L σ)  : SG G l on nm cd nL ret d L0 (dec o) pc lc st L σ := by
  unfold stp at h
  rw [htb] at h
  simp only [okI, Bool.and_eq_true, decide_eq_true_eq] at hok
  simp only at h
  obtain ⟨hdg, rfl⟩ := dk_ok hok
  split at h
  · rename_i x r
    obtain ⟨hv, hr⟩ := okl_cons.mp hI.2.2.2.1
    exact sg_same (hgo _ _ _ _ _ _ h (hI.stk hr)) (fun p e R s m args below meth c H locs cells slots Q ls C hP hS hl k => lv_pop C.1 C.2.1 hdg rfl k)
  · rename_i x r
    obtain ⟨hv, hr⟩ := okl_cons.mp hI.2.2.2.1
    exact sg_same (hgo _ _ _ _ _ _ h (hI.stk hr)) (fun p e R s m args below meth c H locs cells slots Q ls C hP hS hl k => lv_pop C.1 C.2.1 hdg (by rcases cv_rn G x with e | ⟨y, e⟩ <;> rw [e] <;> rfl) k)
  · cases h
theorem s_goto {i : Int} (htb : tb pc = (.goto i, nx, (a, b, cc), v, w, sw)) (hok : okI on (decide (nm = "<init>")) cd pc (.goto i, nx, (a, b, cc), v, w, sw) = true) (hgo : ∀ pc lc st L σ o, go pc lc st L σ = some o → INV L0 σ0 fl lc st L σ → SG G l on nm cd nL ret d L0 (dec o) pc lc st L σ) (h : stp tb rt fl cl Rk go pc lc st L σ = some o) (hI : INV L0 σ0 fl lc st L σ)  : SG G l on nm cd nL ret d L0 (dec o) pc lc st L σ := by
  unfold stp at h
  rw [htb] at h
  simp only [okI, Bool.and_eq_true, decide_eq_true_eq] at hok
  simp only at h
  obtain ⟨h1, h2⟩ := hok
  obtain ⟨hdg, rfl⟩ := dk_ok h1
  exact sg_same (hgo _ _ _ _ _ _ h hI) (fun p e R s m args below meth c H locs cells slots Q ls C hP hS hl k => lv_goto C.1 C.2.1 hdg (jt_ok h2) k)
theorem s_ifCond {kk : ClassFile.Cond} {i : Int} (htb : tb pc = (.ifCond kk i, nx, (a, b, cc), v, w, sw)) (hok : okI on (decide (nm = "<init>")) cd pc (.ifCond kk i, nx, (a, b, cc), v, w, sw) = true) (hgo : ∀ pc lc st L σ o, go pc lc st L σ = some o → INV L0 σ0 fl lc st L σ → SG G l on nm cd nL ret d L0 (dec o) pc lc st L σ) (h : stp tb rt fl cl Rk go pc lc st L σ = some o) (hI : INV L0 σ0 fl lc st L σ)  : SG G l on nm cd nL ret d L0 (dec o) pc lc st L σ := by
  unfold stp at h
  rw [htb] at h
  simp only [okI, Bool.and_eq_true, decide_eq_true_eq] at hok
  simp only at h
  obtain ⟨h1, h2⟩ := hok
  obtain ⟨hdg, rfl⟩ := dk_ok h1
  split at h
  · rename_i x r
    obtain ⟨-, hr⟩ := okl_cons.mp hI.2.2.2.1
    unfold cmpc at h
    split at h
    · split at h
      · rename_i hc
        exact sg_same (hgo _ _ _ _ _ _ h (hI.stk hr)) (fun p e R s m args below meth c H locs cells slots Q ls C hP hS hl k => lv_if_eq C.1 C.2.1 hdg (jt_ok h2) (fun _ => k) (fun e => absurd hc e))
      · rename_i hc
        exact sg_same (hgo _ _ _ _ _ _ h (hI.stk hr)) (fun p e R s m args below meth c H locs cells slots Q ls C hP hS hl k => lv_if_eq C.1 C.2.1 hdg (jt_ok h2) (fun e => absurd e hc) (fun _ => k))
    · split at h
      · rename_i hc
        exact sg_same (hgo _ _ _ _ _ _ h (hI.stk hr)) (fun p e R s m args below meth c H locs cells slots Q ls C hP hS hl k => lv_if_ne C.1 C.2.1 hdg (jt_ok h2) (fun e => absurd hc e) (fun _ => k))
      · rename_i hc
        exact sg_same (hgo _ _ _ _ _ _ h (hI.stk hr)) (fun p e R s m args below meth c H locs cells slots Q ls C hP hS hl k => lv_if_ne C.1 C.2.1 hdg (jt_ok h2) (fun _ => k) (fun e => absurd e hc))
    · split at h
      · rename_i hc
        exact sg_same (hgo _ _ _ _ _ _ h (hI.stk hr)) (fun p e R s m args below meth c H locs cells slots Q ls C hP hS hl k => lv_if_lt C.1 C.2.1 hdg (jt_ok h2) (fun _ => k) (fun e => absurd hc e))
      · rename_i hc
        exact sg_same (hgo _ _ _ _ _ _ h (hI.stk hr)) (fun p e R s m args below meth c H locs cells slots Q ls C hP hS hl k => lv_if_lt C.1 C.2.1 hdg (jt_ok h2) (fun e => absurd e hc) (fun _ => k))
    · split at h
      · rename_i hc
        exact sg_same (hgo _ _ _ _ _ _ h (hI.stk hr)) (fun p e R s m args below meth c H locs cells slots Q ls C hP hS hl k => lv_if_ge C.1 C.2.1 hdg (jt_ok h2) (fun _ => k) (fun e => absurd hc e))
      · rename_i hc
        exact sg_same (hgo _ _ _ _ _ _ h (hI.stk hr)) (fun p e R s m args below meth c H locs cells slots Q ls C hP hS hl k => lv_if_ge C.1 C.2.1 hdg (jt_ok h2) (fun e => absurd e hc) (fun _ => k))
    · split at h
      · rename_i hc
        exact sg_same (hgo _ _ _ _ _ _ h (hI.stk hr)) (fun p e R s m args below meth c H locs cells slots Q ls C hP hS hl k => lv_if_gt C.1 C.2.1 hdg (jt_ok h2) (fun _ => k) (fun e => absurd hc e))
      · rename_i hc
        exact sg_same (hgo _ _ _ _ _ _ h (hI.stk hr)) (fun p e R s m args below meth c H locs cells slots Q ls C hP hS hl k => lv_if_gt C.1 C.2.1 hdg (jt_ok h2) (fun e => absurd e hc) (fun _ => k))
    · split at h
      · rename_i hc
        exact sg_same (hgo _ _ _ _ _ _ h (hI.stk hr)) (fun p e R s m args below meth c H locs cells slots Q ls C hP hS hl k => lv_if_le C.1 C.2.1 hdg (jt_ok h2) (fun _ => k) (fun e => absurd hc e))
      · rename_i hc
        exact sg_same (hgo _ _ _ _ _ _ h (hI.stk hr)) (fun p e R s m args below meth c H locs cells slots Q ls C hP hS hl k => lv_if_le C.1 C.2.1 hdg (jt_ok h2) (fun e => absurd e hc) (fun _ => k))
  · cases h
theorem s_if_icmp {kk : ClassFile.Cond} {i : Int} (htb : tb pc = (.if_icmp kk i, nx, (a, b, cc), v, w, sw)) (hok : okI on (decide (nm = "<init>")) cd pc (.if_icmp kk i, nx, (a, b, cc), v, w, sw) = true) (hgo : ∀ pc lc st L σ o, go pc lc st L σ = some o → INV L0 σ0 fl lc st L σ → SG G l on nm cd nL ret d L0 (dec o) pc lc st L σ) (h : stp tb rt fl cl Rk go pc lc st L σ = some o) (hI : INV L0 σ0 fl lc st L σ)  : SG G l on nm cd nL ret d L0 (dec o) pc lc st L σ := by
  unfold stp at h
  rw [htb] at h
  simp only [okI, Bool.and_eq_true, decide_eq_true_eq] at hok
  simp only at h
  obtain ⟨h1, h2⟩ := hok
  obtain ⟨hdg, rfl⟩ := dk_ok h1
  split at h
  · rename_i y x r
    obtain ⟨-, hr⟩ := okl_cons.mp hI.2.2.2.1
    obtain ⟨-, hr⟩ := okl_cons.mp hr
    unfold cmpc at h
    split at h
    · split at h
      · rename_i hc
        exact sg_same (hgo _ _ _ _ _ _ h (hI.stk hr)) (fun p e R s m args below meth c H locs cells slots Q ls C hP hS hl k => lv_icmp_eq C.1 C.2.1 hdg (jt_ok h2) (fun _ => k) (fun e => absurd hc e))
      · rename_i hc
        exact sg_same (hgo _ _ _ _ _ _ h (hI.stk hr)) (fun p e R s m args below meth c H locs cells slots Q ls C hP hS hl k => lv_icmp_eq C.1 C.2.1 hdg (jt_ok h2) (fun e => absurd e hc) (fun _ => k))
    · split at h
      · rename_i hc
        exact sg_same (hgo _ _ _ _ _ _ h (hI.stk hr)) (fun p e R s m args below meth c H locs cells slots Q ls C hP hS hl k => lv_icmp_ne C.1 C.2.1 hdg (jt_ok h2) (fun e => absurd hc e) (fun _ => k))
      · rename_i hc
        exact sg_same (hgo _ _ _ _ _ _ h (hI.stk hr)) (fun p e R s m args below meth c H locs cells slots Q ls C hP hS hl k => lv_icmp_ne C.1 C.2.1 hdg (jt_ok h2) (fun _ => k) (fun e => absurd e hc))
    · split at h
      · rename_i hc
        exact sg_same (hgo _ _ _ _ _ _ h (hI.stk hr)) (fun p e R s m args below meth c H locs cells slots Q ls C hP hS hl k => lv_icmp_lt C.1 C.2.1 hdg (jt_ok h2) (fun _ => k) (fun e => absurd hc e))
      · rename_i hc
        exact sg_same (hgo _ _ _ _ _ _ h (hI.stk hr)) (fun p e R s m args below meth c H locs cells slots Q ls C hP hS hl k => lv_icmp_lt C.1 C.2.1 hdg (jt_ok h2) (fun e => absurd e hc) (fun _ => k))
    · split at h
      · rename_i hc
        exact sg_same (hgo _ _ _ _ _ _ h (hI.stk hr)) (fun p e R s m args below meth c H locs cells slots Q ls C hP hS hl k => lv_icmp_ge C.1 C.2.1 hdg (jt_ok h2) (fun _ => k) (fun e => absurd hc e))
      · rename_i hc
        exact sg_same (hgo _ _ _ _ _ _ h (hI.stk hr)) (fun p e R s m args below meth c H locs cells slots Q ls C hP hS hl k => lv_icmp_ge C.1 C.2.1 hdg (jt_ok h2) (fun e => absurd e hc) (fun _ => k))
    · split at h
      · rename_i hc
        exact sg_same (hgo _ _ _ _ _ _ h (hI.stk hr)) (fun p e R s m args below meth c H locs cells slots Q ls C hP hS hl k => lv_icmp_gt C.1 C.2.1 hdg (jt_ok h2) (fun _ => k) (fun e => absurd hc e))
      · rename_i hc
        exact sg_same (hgo _ _ _ _ _ _ h (hI.stk hr)) (fun p e R s m args below meth c H locs cells slots Q ls C hP hS hl k => lv_icmp_gt C.1 C.2.1 hdg (jt_ok h2) (fun e => absurd e hc) (fun _ => k))
    · split at h
      · rename_i hc
        exact sg_same (hgo _ _ _ _ _ _ h (hI.stk hr)) (fun p e R s m args below meth c H locs cells slots Q ls C hP hS hl k => lv_icmp_le C.1 C.2.1 hdg (jt_ok h2) (fun _ => k) (fun e => absurd hc e))
      · rename_i hc
        exact sg_same (hgo _ _ _ _ _ _ h (hI.stk hr)) (fun p e R s m args below meth c H locs cells slots Q ls C hP hS hl k => lv_icmp_le C.1 C.2.1 hdg (jt_ok h2) (fun e => absurd e hc) (fun _ => k))
  · cases h
theorem s_ifnull {i : Int} (htb : tb pc = (.ifnull i, nx, (a, b, cc), v, w, sw)) (hok : okI on (decide (nm = "<init>")) cd pc (.ifnull i, nx, (a, b, cc), v, w, sw) = true) (hgo : ∀ pc lc st L σ o, go pc lc st L σ = some o → INV L0 σ0 fl lc st L σ → SG G l on nm cd nL ret d L0 (dec o) pc lc st L σ) (h : stp tb rt fl cl Rk go pc lc st L σ = some o) (hI : INV L0 σ0 fl lc st L σ)  : SG G l on nm cd nL ret d L0 (dec o) pc lc st L σ := by
  unfold stp at h
  rw [htb] at h
  simp only [okI, Bool.and_eq_true, decide_eq_true_eq] at hok
  simp only at h
  obtain ⟨h1, h2⟩ := hok
  obtain ⟨hdg, rfl⟩ := dk_ok h1
  split at h
  · rename_i q0 r
    obtain ⟨-, hr⟩ := okl_cons.mp hI.2.2.2.1
    obtain ⟨t, _ | x⟩ := q0
    · exact sg_same (hgo _ _ _ _ _ _ h (hI.stk hr)) (fun p e R s m args below meth c H locs cells slots Q ls C hP hS hl k => lv_ifnullN C.1 C.2.1 hdg (jt_ok h2) k)
    · exact sg_same (hgo _ _ _ _ _ _ h (hI.stk hr)) (fun p e R s m args below meth c H locs cells slots Q ls C hP hS hl k => lv_ifnull C.1 C.2.1 hdg k)
  · cases h
theorem s_ifnonnull {i : Int} (htb : tb pc = (.ifnonnull i, nx, (a, b, cc), v, w, sw)) (hok : okI on (decide (nm = "<init>")) cd pc (.ifnonnull i, nx, (a, b, cc), v, w, sw) = true) (hgo : ∀ pc lc st L σ o, go pc lc st L σ = some o → INV L0 σ0 fl lc st L σ → SG G l on nm cd nL ret d L0 (dec o) pc lc st L σ) (h : stp tb rt fl cl Rk go pc lc st L σ = some o) (hI : INV L0 σ0 fl lc st L σ)  : SG G l on nm cd nL ret d L0 (dec o) pc lc st L σ := by
  unfold stp at h
  rw [htb] at h
  simp only [okI, Bool.and_eq_true, decide_eq_true_eq] at hok
  simp only at h
  obtain ⟨h1, h2⟩ := hok
  obtain ⟨hdg, rfl⟩ := dk_ok h1
  split at h
  · rename_i q0 r
    obtain ⟨-, hr⟩ := okl_cons.mp hI.2.2.2.1
    obtain ⟨t, _ | x⟩ := q0
    · exact sg_same (hgo _ _ _ _ _ _ h (hI.stk hr)) (fun p e R s m args below meth c H locs cells slots Q ls C hP hS hl k => lv_ifnonnullN C.1 C.2.1 hdg k)
    · exact sg_same (hgo _ _ _ _ _ _ h (hI.stk hr)) (fun p e R s m args below meth c H locs cells slots Q ls C hP hS hl k => lv_ifnonnull C.1 C.2.1 hdg (jt_ok h2) k)
  · cases h
end
