/-! Making arrays; constants; arraycopy -/
theorem ac_int : Cond.arrayClass .int ∈ tw := by decide +kernel
theorem ac_short : Cond.arrayClass .short ∈ tw := by decide +kernel
theorem ac_bool : Cond.arrayClass .boolean ∈ tw := by decide +kernel
def atk (t : ArrayType) (k : Nat) : Bool := match t with
  | .int => Nat.beq k 20
  | .short => Nat.beq k 21
  | .boolean => Nat.beq k 22
  | _ => false
theorem zrow (G : GT) (L : Lay) (σ : Sto) (k b : Nat) (h1 : 20 ≤ k) (h2 : k < 23) : cE G (pL L k b b) (zS σ L.2.2.1) L.2.2.1 = .inl (G.2.2.1 k, b, .inl (fun _ => 0)) := by
  have hk' : (pL L k b b).1 L.2.2.1 = k := if_pos rfl
  have hl' : (pL L k b b).2.1 L.2.2.1 = b := if_pos rfl
  rw [cE_int hk' h1 h2, hl']
  have : (zS σ L.2.2.1).1 L.2.2.1 = fun _ => 0 := by funext i; simp [zS]
  rw [this]
theorem zrow2 (G : GT) (L : Lay) (σ : Sto) (k b : Nat) (h1 : 23 ≤ k) : cE G (pL L k b b) (zS σ L.2.2.1) L.2.2.1 = .inl (G.2.2.1 k, b, .inr (.inr (.inr (.inr (fun _ => none))))) := by
  have hk' : (pL L k b b).1 L.2.2.1 = k := if_pos rfl
  have hl' : (pL L k b b).2.1 L.2.2.1 = b := if_pos rfl
  rw [cE_ref hk' h1, hl']
  have : (fun j => ((zS σ L.2.2.1).2.1 L.2.2.1 j).map (G.1 + ·)) = fun _ => none := by funext i; simp [zS]
  rw [this]
theorem nI_nn {b : Nat} (h : b ≤ 1000) : ¬ nI b < 0 := nI_pos (by omega)
theorem nI_cl {b : Nat} (h : b ≤ 1000) : (nI b).toNatClampNeg = b := nI_clamp (by omega)
section
variable {G : GT} {p : Program} {l : Launch} {e : Env} {R : Room} {s : State} {m : MethodId} {args : Array Value} {below : List Frame} {meth : Method} {c : Code} {H : Heap} {locs : List Loc} {cells slots : Nat} {Q : State → Prop}
variable {on : Nat} {nm : String} {cd : ByteArray} {nL : Nat} {ret : Option FieldType} {pc i : Nat} {ls : Array Slot} {rest : List Value} {L : Lay} {σ σ' : Sto} {x : Nat}
theorem w_push {k n w : Nat} {H1 : Heap} (hP : va_P G.2.1 vwCl (wof G L σ) H) (hz : H.size = G.1 + L.2.2.1) (o1 : ∀ q : Nat, q < G.1 + L.2.2.1 → H1[q]? = H[q]?) (e1 : va_at G.2.1 vwCl (G.1 + L.2.2.1, cE G (pL L k n w) (zS σ L.2.2.1) L.2.2.1) H1) : va_P G.2.1 vwCl (wof G (pL L k n w) (zS σ L.2.2.1)) H1 := by
  rw [← wof_push rfl]
  refine (hP.kept (fun j q hj => o1 q.1 (by rw [← hz]; exact (hP j q hj).lt))).app (fun j q hj => ?_)
  have hz : j < 1 := (List.getElem?_eq_some_iff.mp hj).1
  rw [show j = 0 by omega] at hj
  cases hj
  exact e1
theorem w_newa {k b : Nat} {t : ArrayType} (C : CX G p s m args meth c on nm cd nL ret) (hP : va_P G.2.1 vwCl (wof G L σ) H) (hS : va_S (fA G) s.heap H locs) (hz : H.size = G.1 + L.2.2.1) (ht : atk t k = true) (hb1 : b ≤ 1000) (hcells : cells + 1 ≤ R.cells) (hslots : slots + b ≤ R.slots) (hdg : decode cd pc = .ok (.newarray t, 2))
    (kk : ∀ H1 : Heap, va_P G.2.1 vwCl (wof G (pL L k b b) (zS σ L.2.2.1)) H1 → va_S (fA G) s.heap H1 locs → W p l e R s m args below meth c H1 locs (cells + 1) (slots + b) Q (F0 m (pc + 2) ls (.ref (G.1 + L.2.2.1) :: rest))) : W p l e R s m args below meth c H locs cells slots Q (F0 m pc ls (.int (nI b) :: rest)) := by
  obtain ⟨hx1, hb, hml, hown, hts, hr, hlk, hnm, hK, hB⟩ := C
  have key : ∀ (ty : FieldType) (t0 : Nat), newarray.typeOf t = ty → Cond.arrayClass ty ∈ tw → (tysG G)[t0]? = some (G.2.2.1 k, ty) → (va_RA s (G.2.2.1 k) ty → s.vm.findClass ("[" ++ ty.toString) = some (G.2.2.1 k)) → defaultValue ty = .int 0 → b * componentBytes ty ≤ 536870912 → 20 ≤ k → k < 23 → W p l e R s m args below meth c H locs cells slots Q (F0 m pc ls (.int (nI b) :: rest)) := by
    intro ty t0 e0 hw h1 h2 h3 h4 h5 h6
    subst e0
    refine va_newaK hx1 hb (hts _ hw) rfl hdg rfl (nI_nn hb1) (nI_cl hb1) h4 hcells hslots hz fun H1 cA e1 z1 o1 hAr hNm => ?_
    have hcA : cA = G.2.2.1 k := Option.some.inj (hNm.symm.trans (h2 (hK.1.2 t0 _ h1).2))
    subst hcA
    refine kk H1 (w_push hP hz o1 ?_) ⟨Nat.le_trans hS.1 (by omega), fun q h1 h2 => (o1 q (by have := hS.1; omega)).trans (hS.2.1 q h1 h2), hS.2.2⟩
    rw [zrow G L σ k b h5 h6]
    show H1[G.1 + L.2.2.1]? = some (vp_cell _ _)
    rw [vp_cell_i, e1, h3]
  cases t <;> first | (cases ht; done) | skip
  · obtain rfl := Nat.eq_of_beq_eq_true ht
    exact key .boolean 2 rfl ac_bool rfl (fun h => h) rfl (by simp [componentBytes]; omega) (by omega) (by omega)
  · obtain rfl := Nat.eq_of_beq_eq_true ht
    exact key .short 1 rfl ac_short rfl (fun h => h) rfl (by simp [componentBytes]; omega) (by omega) (by omega)
  · obtain rfl := Nat.eq_of_beq_eq_true ht
    exact key .int 0 rfl ac_int rfl (fun h => h) rfl (by simp [componentBytes]; omega) (by omega) (by omega)
theorem w_newq {k b z : Nat} (C : CX G p s m args meth c on nm cd nL ret) (hP : va_P G.2.1 vwCl (wof G L σ) H) (hS : va_S (fA G) s.heap H locs) (hz : H.size = G.1 + L.2.2.1) (hk1 : 23 ≤ k) (hk2 : k ≤ 25) (hf : (on, i, etg k, z) ∈ lkC) (hb1 : b ≤ 1000) (hcells : cells + 1 ≤ R.cells) (hslots : slots + b ≤ R.slots) (hdg : decode cd pc = .ok (.anewarray i, 3))
    (kk : ∀ H1 : Heap, va_P G.2.1 vwCl (wof G (pL L k b b) (zS σ L.2.2.1)) H1 → va_S (fA G) s.heap H1 locs → W p l e R s m args below meth c H1 locs (cells + 1) (slots + b) Q (F0 m (pc + 3) ls (.ref (G.1 + L.2.2.1) :: rest))) : W p l e R s m args below meth c H locs cells slots Q (F0 m pc ls (.int (nI b) :: rest)) := by
  obtain ⟨hx1, hb, hml, hown, hts, hr, hlk, hnm, hK, hB⟩ := C
  have hc := List.all_eq_true.mp lkC_ok _ hf
  simp only [ckC, Bool.and_eq_true, decide_eq_true_eq] at hc
  obtain ⟨Cn, q1, q2, q3, q4⟩ := k3 (G := G) hk1 hk2
  have hAO : va_AO (cK (etg k)).1 s := by
    rcases (show k = 23 ∨ k = 24 ∨ k = 25 by omega) with rfl | rfl | rfl
    · exact hK.2.2.1.1
    · exact hK.2.2.1.2.1
    · exact hK.2.2.1.2.2
  subst q3
  obtain ⟨kA', comp', r1, r2, r3, r4⟩ := (hK.1.2 (k - 20) _ q1).2
  refine W.anew hx1 hb hown (hts _ (gAt_mem hc.2)) (va_AO.use hAO) rfl hdg rfl (nI_nn hb1) (by rw [nI_cl hb1]; omega) hcells (by rw [nI_cl hb1]; exact hslots) fun cA kA comp f1 f2 f3 f4 => ?_
  have hcA : cA = G.2.2.1 k := Option.some.inj (f1.symm.trans r4)
  subst hcA
  rw [nI_cl hb1, hz]
  generalize hH1 : H.push ({ cls := G.2.2.1 k, slots := Array.replicate b .null, vm := .none } : Cell) = H1
  have z1 : H1.size = H.size + 1 := by rw [← hH1, Array.size_push]
  have e1 : H1[H.size]? = some (arrV (G.2.2.1 k) b (fun _ => .null)) := by rw [← hH1, Array.getElem?_push_size, ← arrV_new]
  have o1 : ∀ q : Nat, q < H.size → H1[q]? = H[q]? := fun q hq => by rw [← hH1, Array.getElem?_push, if_neg (Nat.ne_of_lt hq)]
  refine kk H1 (w_push hP hz (fun q hq => o1 q (by rw [hz]; exact hq)) ?_) ⟨Nat.le_trans hS.1 (by omega), fun q h1 h2 => (o1 q (by have := hS.1; omega)).trans (hS.2.1 q h1 h2), hS.2.2⟩
  rw [zrow2 G L σ k b hk1]
  show H1[G.1 + L.2.2.1]? = some (vp_cell _ _)
  rw [vp_cell_q, ← hz]
  exact e1
/-- a text's fields -/
theorem w_getC {b z w : Nat} (C : CX G p s m args meth c on nm cd nL ret) (hS : va_S (fA G) s.heap H locs) (hw : w < 8) (hf : (on, i, b, z) ∈ lkV) (hdg : decode cd pc = .ok (.getfield i, 3))
    (kk : W p l e R s m args below meth c H locs cells slots Q (F0 m (pc + 3) ls (cv G (bif Nat.beq b 0 then vC 1 w else vI 0) :: rest))) : W p l e R s m args below meth c H locs cells slots Q (F0 m pc ls (cv G (vC 0 w) :: rest)) := by
  obtain ⟨hx1, hb, hml, hown, hts, hr, hlk, hnm, hK, hB⟩ := C
  have hc := List.all_eq_true.mp lkV_ok _ hf
  simp only [ckV] at hc
  obtain ⟨k, v, a1, a2, a3, a4, a5, a6⟩ := hK.2.2.2.2.1 w hw
  have e0 : cv G (vC 0 w) = .ref k := by simp [cv, a1, va_rf]
  rw [e0]
  by_cases hb0 : Nat.beq b 0 = true
  · rw [hb0] at hc kk
    have e1 : cv G (vC 1 w) = .ref v := by simp [cv, a2, va_rf]
    simp only [cond_true] at kk
    rw [e1] at kk
    exact vk_getf hx1 hb a5 hS hown (hts _ (gAt_mem hc)) (fun _ h => h) hdg kk
  · rw [Bool.not_eq_true] at hb0
    rw [hb0] at hc kk
    exact vk_getf hx1 hb a4 hS hown (hts _ (gAt_mem hc)) (fun _ h => h) hdg kk
theorem w_aldC {t w : Nat} {j v : Int32} {ins : Instr} (C : CX G p s m args meth c on nm cd nL ret) (hS : va_S (fA G) s.heap H locs) (ht : (t = 1 ∧ w < 8 ∧ ins = .baload) ∨ (t = 2 ∧ w < 2 ∧ ins = .iaload)) (hv : rC t w j = some v) (hdg : decode cd pc = .ok (ins, 1))
    (kk : W p l e R s m args below meth c H locs cells slots Q (F0 m (pc + 1) ls (.int v :: rest))) : W p l e R s m args below meth c H locs cells slots Q (F0 m pc ls (.int j :: cv G (vC t w) :: rest)) := by
  obtain ⟨hx1, hb, hml, hown, hts, hr, hlk, hnm, hK, hB⟩ := C
  unfold rC at hv
  split at hv
  · rename_i hi
    have hv := Option.some.inj hv
    subst hv
    rcases ht with ⟨rfl, hw, rfl⟩ | ⟨rfl, hw, rfl⟩
    · obtain ⟨k, q, a1, a2, a3, a4, a5, a6⟩ := hK.2.2.2.2.1 w hw
      have e0 : cv G (vC 1 w) = .ref q := by simp [cv, a2, va_rf]
      rw [e0]
      exact va_tb hx1 hb a6 hS (inb_vp hi) rfl hdg kk
    · obtain ⟨q, a1, a2, a3⟩ := hK.2.2.2.2.2.1 w hw
      have e0 : cv G (vC 2 w) = .ref q := by simp [cv, a1, va_rf]
      rw [e0]
      exact va_ti hx1 hb a3 hS (inb_vp hi) rfl hdg kk
  · cases hv
theorem w_alenC {w : Nat} (C : CX G p s m args meth c on nm cd nL ret) (hS : va_S (fA G) s.heap H locs) (hw : w < 8) (hdg : decode cd pc = .ok (.arraylength, 1))
    (kk : W p l e R s m args below meth c H locs cells slots Q (F0 m (pc + 1) ls (.int (nI (cal 1 w).length) :: rest))) : W p l e R s m args below meth c H locs cells slots Q (F0 m pc ls (cv G (vC 1 w) :: rest)) := by
  obtain ⟨hx1, hb, hml, hown, hts, hr, hlk, hnm, hK, hB⟩ := C
  obtain ⟨k, q, a1, a2, a3, a4, a5, a6⟩ := hK.2.2.2.2.1 w hw
  have e0 : cv G (vC 1 w) = .ref q := by simp [cv, a2, va_rf]
  rw [e0]
  obtain ⟨cell, h1, h2, h3, h4, h5, h6, h7⟩ := a6
  exact W.alen (n := nI (cal 1 w).length) hx1 hb (by rw [hS.2.1 q (Array.getElem?_eq_some_iff.mp h1).1 h7]; exact h1) h2 h5 rfl rfl hdg kk
theorem w_ldcS {w : Nat} (C : CX G p s m args meth c on nm cd nL ret) (hw : w < 8) (ho : on = (stq w).1) (hi : i = (stq w).2.1) (hdg : decode cd pc = .ok (.ldc i, 2))
    (kk : W p l e R s m args below meth c H locs cells slots Q (F0 m (pc + 2) ls (cv G (vC 0 w) :: rest))) : W p l e R s m args below meth c H locs cells slots Q (F0 m pc ls rest) := by
  obtain ⟨hx1, hb, hml, hown, hts, hr, hlk, hnm, hK, hB⟩ := C
  obtain ⟨k, a1, a2⟩ := hK.2.2.2.1 w hw
  have e0 : cv G (vC 0 w) = .ref k := by simp [cv, a1, va_rf]
  rw [e0] at kk
  subst ho
  subst hi
  exact va_ldcS hx1 hb hown a2 hdg kk
theorem w_ldcwS {w : Nat} (C : CX G p s m args meth c on nm cd nL ret) (hw : w < 8) (ho : on = (stq w).1) (hi : i = (stq w).2.1) (hdg : decode cd pc = .ok (.ldc_w i, 3))
    (kk : W p l e R s m args below meth c H locs cells slots Q (F0 m (pc + 3) ls (cv G (vC 0 w) :: rest))) : W p l e R s m args below meth c H locs cells slots Q (F0 m pc ls rest) := by
  obtain ⟨hx1, hb, hml, hown, hts, hr, hlk, hnm, hK, hB⟩ := C
  obtain ⟨q, a1, a2⟩ := hK.2.2.2.1 w hw
  have e0 : cv G (vC 0 w) = .ref q := by simp [cv, a1, va_rf]
  rw [e0] at kk
  subst ho
  subst hi
  intro T hT X
  obtain ⟨t, b1, b2⟩ := kk T hT X
  refine ⟨t, ?_, b2⟩
  obtain ⟨k, cf, i, a', hk, hcf, hcp, -, hr0, hev'⟩ := Cond.stringRef_spec hown a2.1
  cases a2.2.symm.trans hev'
  obtain ⟨k', hk', he⟩ := X.warmed.alike.2.2 _ _ hk
  have hr' : k'.resolved[(stq w).2.1]? = some (some (.string q)) := by
    rcases X.warmed.entry hk hk' (stq w).2.1 with h | ⟨h, -⟩
    · rw [h]; exact hr0
    · rw [hr0] at h; cases h
  subst hb
  jvm_step X.here [hx1, hdg, ldc_w.wp_string (e := e) (s := T) (f := F0 m pc ls rest) X.here.top hk' (by rw [he]; exact hcf) hcp hr']
  exact b1
/-- statics: 0 the switch of compact strings, 1 the formatter, 2 and 3 the rows -/
def gsv (k : Nat) : AV := match k with
  | 0 => vI 1
  | 1 => vC 3 0
  | 2 => vC 2 0
  | _ => vC 2 1
theorem w_gets {k n z : Nat} (C : CX G p s m args meth c on nm cd nL ret) (hS : va_S (fA G) s.heap H locs) (hf : (on, i, k, n, z) ∈ lkG) (hk : k < 4) (hdg : decode cd pc = .ok (.getstatic i, 3))
    (kk : W p l e R s m args below meth c H locs cells slots Q (F0 m (pc + 3) ls (cv G (gsv k) :: rest))) : W p l e R s m args below meth c H locs cells slots Q (F0 m pc ls rest) := by
  obtain ⟨hx1, hb, hml, hown, hts, hr, hlk, hnm, hK, hB⟩ := C
  have hc := List.all_eq_true.mp lkG_ok _ hf
  simp only [ckG] at hc
  have hZ : va_Z (gsn k).1 (gsn k).2.1 (gsn k).2.2 (cv G (gsv k)) (fA G) s s.heap := by
    obtain ⟨-, k2, k3, k4⟩ := hK.2.2.2.2
    rcases (show k = 0 ∨ k = 1 ∨ k = 2 ∨ k = 3 by omega) with rfl | rfl | rfl | rfl
    · exact k3
    · exact k4
    · obtain ⟨t, a1, a2, -⟩ := k2 0 (by decide)
      rw [show cv G (gsv 2) = .ref t by simp [cv, gsv, a1, va_rf]]
      exact a2
    · obtain ⟨t, a1, a2, -⟩ := k2 1 (by decide)
      rw [show cv G (gsv 3) = .ref t by simp [cv, gsv, a1, va_rf]]
      exact a2
  by_cases hn : Nat.beq n 0 = true
  · rw [hn] at hc
    exact va_gets hx1 hb hZ hS hown (hts _ (gAt_mem hc)) (fun _ h => h) hdg kk
  · rw [Bool.not_eq_true] at hn
    rw [hn] at hc
    exact va_getsN hx1 hb hZ hS hown (va_Nw.use rfl (hK.2.1 _ (nAt_mem hc))) (fun _ h => h) hdg kk
end
