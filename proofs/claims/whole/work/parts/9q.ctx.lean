/-! What holds at the law's entry -/
def cn1 : List Cond := flatC (Jvm.Cond.and given_1 narrow_1)
def stT (w : Nat) : Term := .string (cnm (stq w).1) (stq w).2.1
def stV (w : Nat) : Term := .field (stT w) "java/lang/String" "value" "[B"
def gsT (w : Nat) : Term := .static (gsn w).1 (gsn w).2.1 (gsn w).2.2
theorem in_s1 : ∀ w, w < 8 → Cond.exactly (stT w) "java/lang/String" ∈ cn1 := by decide +kernel
theorem in_s2 : ∀ w, w < 8 → Cond.eq (.field (stT w) "java/lang/String" "coder" "B") (.int 0) ∈ cn1 := by decide +kernel
theorem in_s3 : ∀ w, w < 8 → Cond.arrayOf (stV w) .byte ∈ cn1 := by decide +kernel
theorem in_s4 : ∀ w, w < 8 → Cond.eq (.length (stV w)) (.int (Int32.ofNat (cal 1 w).length)) ∈ cn1 := by decide +kernel
theorem in_s5 : ∀ w, w < 8 → ∀ j, j < (cal 1 w).length → Cond.eq (.elem (stV w) (.int (Int32.ofNat j))) (.int (cnth (cal 1 w) j)) ∈ cn1 := by decide +kernel
theorem in_s6 : ∀ w, w < 8 → Cond.stringRef (cnm (stq w).1) (stq w).2.1 (stq w).2.2 ∈ lw_tbl := by decide +kernel
theorem in_s7 : ∀ w, w < 8 → (cal 1 w).length < 2 ^ 31 := by decide +kernel
theorem in_t1 : ∀ w, w < 2 → Cond.arrayOf (gsT (w + 2)) .int ∈ cn1 := by decide +kernel
theorem in_t2 : ∀ w, w < 2 → Cond.eq (.length (gsT (w + 2))) (.int (Int32.ofNat (cal 2 w).length)) ∈ cn1 := by decide +kernel
theorem in_t3 : ∀ w, w < 2 → ∀ j, j < (cal 2 w).length → Cond.eq (.elem (gsT (w + 2)) (.int (Int32.ofNat j))) (.int (cnth (cal 2 w) j)) ∈ cn1 := by decide +kernel
theorem in_t4 : ∀ w, w < 4 → Cond.laysStatic (gsn w).1 (gsn w).2.1 (gsn w).2.2 ∈ lw_tbl := by decide +kernel
theorem in_t5 : ∀ w, w < 4 → Cond.initialized (gsn w).1 ∈ lw_tbl := by decide +kernel
theorem in_t6 : ∀ w, w < 2 → (cal 2 w).length < 2 ^ 31 := by decide +kernel
theorem in_z1 : Cond.eq (gsT 0) (.int 1) ∈ cn1 := by decide +kernel
theorem in_z2 : Cond.isRef (gsT 1) ∈ cn1 := by decide +kernel
theorem in_a1 : Cond.arrayOver (.object RX2) ∈ lw_tbl := by decide +kernel
theorem in_a2 : Cond.arrayOver (.object RX0) ∈ lw_tbl := by decide +kernel
theorem in_a3 : Cond.arrayOver (.object RX4) ∈ lw_tbl := by decide +kernel
section
variable {args : Array Value} {s : State} {A : Nat → Prop}
theorem kc_str (hc : ∀ c ∈ cn1, c.before args s = true) (hA : ∀ a : Nat, a < s.heap.size → ¬ A a) {w : Nat} (hw : w < 8) : ∃ q : Nat × Nat, (stT w).eval args s none [] s = some (.ref q.1) ∧ va_O "java/lang/String" q.1 A s s.heap ∧ va_OF "java/lang/String" "coder" "B" (.int 0) q.1 A s s.heap ∧ va_OF "java/lang/String" "value" "[B" (.ref q.2) q.1 A s s.heap ∧ va_T .byte q.2 (cal 1 w).length (fun j => .int (cnth (cal 1 w) j)) A s s.heap := by
  have h1 := hc _ (in_s1 w hw)
  obtain ⟨a, c, cA, kA, q1, -⟩ := Cond.exactly_spec (args := args) (first := s) (o := none) (s := s) (idx := []) (t := stT w) (cls := "java/lang/String") h1
  obtain ⟨t, ht, hT⟩ := va_Tof (f := fun j => .int (cnth (cal 1 w) j)) (A := A) (in_s7 w hw) (hc _ (in_s3 w hw)) (va_eqt (hc _ (in_s4 w hw))) (fun j hj => va_eqt (hc _ (in_s5 w hw j hj))) hA
  exact ⟨(a, t), q1, va_Oof h1 q1 hA, vk_OFof q1 (va_eqt (hc _ (in_s2 w hw))) hA, vk_OFof q1 ht hA, hT⟩
theorem kc_tab (hts : ∀ w ∈ lw_tbl, w.before args s = true) (hc : ∀ c ∈ cn1, c.before args s = true) (hA : ∀ a : Nat, a < s.heap.size → ¬ A a) {w : Nat} (hw : w < 2) : ∃ t : Nat, va_Z (gsn (w + 2)).1 (gsn (w + 2)).2.1 (gsn (w + 2)).2.2 (.ref t) A s s.heap ∧ va_T .int t (cal 2 w).length (fun j => .int (cnth (cal 2 w) j)) A s s.heap := by
  obtain ⟨t, ht, hT⟩ := va_Tof (f := fun j => .int (cnth (cal 2 w) j)) (A := A) (in_t6 w hw) (hc _ (in_t1 w hw)) (va_eqt (hc _ (in_t2 w hw))) (fun j hj => va_eqt (hc _ (in_t3 w hw j hj))) hA
  exact ⟨t, va_Zref (hts _ (in_t4 (w + 2) (by omega))) (hts _ (in_t5 (w + 2) (by omega))) ht hA, hT⟩
theorem kc_arr {ty : FieldType} (h : (Cond.arrayClass ty).before args s = true) : ∃ cA : ClassId, ArrOfT s cA ty ∧ s.vm.findClass ("[" ++ ty.toString) = some cA := by
  obtain ⟨cA, kA, comp, h1, h2, h3⟩ := Cond.arrayClass_spec h
  exact ⟨cA, fun n z => ⟨fun k h => (by cases h), kA, h2, comp, h3⟩, h1⟩
theorem kc_ovr {C : String} (h : (Cond.arrayOver (.object C)).before args s = true) : ∃ cA : ClassId, ArrOfT s cA (.object C) ∧ va_RA s cA (.object C) := by
  obtain ⟨comp, cA, kA, h1, -, h2, h3, h4⟩ := Cond.arrayOver_spec h
  exact ⟨cA, fun n z => ⟨fun k h => (by cases h), kA, h2, comp, h3⟩, kA, comp, h2, h3, h1, h4⟩
theorem kk_start (hts : ∀ w ∈ lw_tbl, w.before args s = true) (hgv : (Jvm.Cond.and given_1 narrow_1).before args s = true) : ∃ G : GT, s.heap.size = G.1 ∧ KK G s s.heap := by
  have hc : ∀ c ∈ cn1, c.before args s = true := flat_of_before _ hgv
  have htw : ∀ w ∈ tw, w.before args s = true := fun w hw => hts w (List.mem_filter.mp hw).1
  have hA : ∀ a : Nat, a < s.heap.size → ¬ (fun q : Nat => s.heap.size ≤ q) a := fun a h u => by
    have u : s.heap.size ≤ a := u
    omega
  have h1 : ∀ w : Nat, ∃ q : Nat × Nat, w < 8 → ((stT w).eval args s none [] s = some (.ref q.1) ∧ va_O "java/lang/String" q.1 (fun q : Nat => s.heap.size ≤ q) s s.heap ∧ va_OF "java/lang/String" "coder" "B" (.int 0) q.1 (fun q : Nat => s.heap.size ≤ q) s s.heap ∧ va_OF "java/lang/String" "value" "[B" (.ref q.2) q.1 (fun q : Nat => s.heap.size ≤ q) s s.heap ∧ va_T .byte q.2 (cal 1 w).length (fun j => .int (cnth (cal 1 w) j)) (fun q : Nat => s.heap.size ≤ q) s s.heap) := fun w => by
    by_cases hw : w < 8
    · obtain ⟨q, hq⟩ := kc_str hc hA hw
      exact ⟨q, fun _ => hq⟩
    · exact ⟨(0, 0), fun h => absurd h hw⟩
  obtain ⟨ad, had⟩ := Classical.axiomOfChoice h1
  have h2 : ∀ w : Nat, ∃ t : Nat, w < 2 → (va_Z (gsn (w + 2)).1 (gsn (w + 2)).2.1 (gsn (w + 2)).2.2 (.ref t) (fun q : Nat => s.heap.size ≤ q) s s.heap ∧ va_T .int t (cal 2 w).length (fun j => .int (cnth (cal 2 w) j)) (fun q : Nat => s.heap.size ≤ q) s s.heap) := fun w => by
    by_cases hw : w < 2
    · obtain ⟨q, hq⟩ := kc_tab hts hc hA hw
      exact ⟨q, fun _ => hq⟩
    · exact ⟨0, fun h => absurd h hw⟩
  obtain ⟨tb, htb⟩ := Classical.axiomOfChoice h2
  have h3 : ∃ fo : Option Nat, va_Z (gsn 1).1 (gsn 1).2.1 (gsn 1).2.2 (va_rf fo) (fun q : Nat => s.heap.size ≤ q) s s.heap := by
    rcases va_Zqof (hts _ (in_t4 1 (by omega))) (hts _ (in_t5 1 (by omega))) (hc _ in_z2) hA with h | ⟨t, h⟩
    · exact ⟨none, h⟩
    · exact ⟨some t, h⟩
  obtain ⟨fo, hfo⟩ := h3
  have h4 : ∀ k : Nat, ∃ q : ClassId × (Nat → Nat), k < 13 → u_Kn s (cK k).1 (cK k).2.1 (cK k).2.2 q.1 q.2 := fun k => by
    by_cases hk : k < 13
    · obtain ⟨-, c2, -, -, -, c6, -⟩ := CK_ok k hk
      obtain ⟨cC, iS, h⟩ := u_known htw c2 (htw _ c6)
      exact ⟨(cC, iS), fun _ => h⟩
    · exact ⟨(Classical.choice ⟨(kc_arr (htw _ ac_int)).choose⟩, fun _ => 0), fun h => absurd h hk⟩
  obtain ⟨dc, hdc⟩ := Classical.axiomOfChoice h4
  obtain ⟨a0, b0, b0'⟩ := kc_arr (htw _ ac_int)
  obtain ⟨a1, b1, b1'⟩ := kc_arr (htw _ ac_short)
  obtain ⟨a2, b2, b2'⟩ := kc_arr (htw _ ac_bool)
  obtain ⟨a3, b3, b3'⟩ := kc_ovr (hts _ in_a1)
  obtain ⟨a4, b4, b4'⟩ := kc_ovr (hts _ in_a2)
  obtain ⟨a5, b5, b5'⟩ := kc_ovr (hts _ in_a3)
  refine ⟨(s.heap.size, (fun k => (dc k).1, fun k => (dc k).2), fun k => if k = 20 then a0 else if k = 21 then a1 else if k = 22 then a2 else if k = 23 then a3 else if k = 24 then a4 else a5, fun t w => if t = 0 then some (ad w).1 else if t = 1 then some (ad w).2 else if t = 2 then some (tb w) else fo), rfl, ⟨?_, ?_⟩, ?_, ⟨?_, ?_, ?_⟩, ?_, ?_, ?_, ?_, ?_⟩
  · intro k q hq
    have hl : k < 13 := (List.getElem?_eq_some_iff.mp hq).1
    have e := (CK_ok k hl).1
    rw [hq] at e
    cases e
    exact hdc k hl
  · intro k q hq
    have hl : k < 6 := (List.getElem?_eq_some_iff.mp hq).1
    rcases (show k = 0 ∨ k = 1 ∨ k = 2 ∨ k = 3 ∨ k = 4 ∨ k = 5 by omega) with rfl | rfl | rfl | rfl | rfl | rfl
    · cases hq; exact ⟨b0, b0'⟩
    · cases hq; exact ⟨b1, b1'⟩
    · cases hq; exact ⟨b2, b2'⟩
    · cases hq; exact ⟨b3, b3'⟩
    · cases hq; exact ⟨b4, b4'⟩
    · cases hq; exact ⟨b5, b5'⟩
  · intro w hw
    have h := List.mem_filter.mp hw
    have hb := hts w h.1
    have hi := h.2
    cases w <;> first | (exact va_Nw.of rfl hb) | (cases hi)
  · exact va_AO.of (hts _ in_a1)
  · exact va_AO.of (hts _ in_a2)
  · exact va_AO.of (hts _ in_a3)
  · intro w hw
    exact ⟨(ad w).1, rfl, vk_R.of (hts _ (in_s6 w hw)) (had w hw).1⟩
  · intro w hw
    exact ⟨(ad w).1, (ad w).2, rfl, rfl, (had w hw).2⟩
  · intro w hw
    exact ⟨tb w, rfl, htb w hw⟩
  · exact va_Zof (hts _ (in_t4 0 (by omega))) (hts _ (in_t5 0 (by omega))) (va_eqt (hc _ in_z1)) hA
  · exact hfo
end
