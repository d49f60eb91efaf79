/-! the two new objects -/
def iL : Lay := (fun _ => 0, fun _ => 0, 0, 0)
def iS : Sto := (fun _ _ => 0, fun _ _ => none, fun _ _ => 0)
def st0 : Option (Lay × Sto) := (al iL iS 11 0 (nf 11)).bind fun q => (f_X11_init q.2.1 q.2.2 0).bind fun r => (al r.1 r.2 12 0 (nf 12)).bind fun p => f_X12_init p.2.1 p.2.2 37
theorem st_some : st0.isSome = true := by decide +kernel
def stL : Lay := (st0.get st_some).1
def stS : Sto := (st0.get st_some).2
theorem st_eq : st0 = some (stL, stS) := by
  unfold stL stS
  rw [Option.some_get]
theorem st_next : stL.2.2.1 = 80 := by decide +kernel
theorem st_SF : SF stL := by
  unfold SF
  (repeat' (apply And.intro)) <;> decide +kernel
theorem st_RF : RF 17 stS.2.1 := by
  unfold RF
  (repeat' (apply And.intro)) <;> decide +kernel
theorem st_NUM : NUM 0 0 0 0 0 0 0 0 stS := by
  unfold NUM
  (repeat' (apply And.intro)) <;> decide +kernel
theorem st_HAR : HAR stS := fun i hi => by
  have h : ∀ i, i < 12 → stS.1 29 i = nI 0 ∧ stS.1 63 i = nI 0 := by decide +kernel
  exact ⟨0, by omega, h i hi⟩
theorem st_RUL : RUL stS := fun i hi => by
  have h : ∀ i, i < 5 → (stS.1 65 i = nI (lo5 i) ∧ stS.1 66 i = nI (hi5 i)) ∧ (lo5 i ≤ (stS.1 30 i).toNatClampNeg ∧ (stS.1 30 i).toNatClampNeg ≤ hi5 i ∧ stS.1 30 i = nI (stS.1 30 i).toNatClampNeg ∧ stS.1 64 i = nI (stS.1 30 i).toNatClampNeg) := by decide +kernel
  exact ⟨(h i hi).1, _, (h i hi).2⟩
theorem st_SHE : SHE stS := by
  have h : ∀ i, i < 40 → (stS.1 34 i = stS.1 69 (40 * 0 + i) ∧ fits .short (.int (stS.1 34 i)) = true ∧ nSh (stS.1 34 i) = stS.1 34 i) ∧ (stS.1 36 i = stS.1 69 (40 * 1 + i) ∧ fits .short (.int (stS.1 36 i)) = true ∧ nSh (stS.1 36 i) = stS.1 36 i) := by decide +kernel
  exact ⟨⟨⟨by decide +kernel, Or.inl (by decide +kernel)⟩, fun i hi => (h i hi).1⟩, ⟨⟨by decide +kernel, Or.inl (by decide +kernel)⟩, fun i hi => (h i hi).2⟩⟩
theorem st_IV : IV stL stS := ⟨0, 0, 0, 0, 0, 0, 0, 0, 17, fun _ => 0, st_SF, st_RF, st_NUM, fun i hi => absurd hi (by omega), fun i hi => absurd hi (by omega), fun i hi => absurd hi (by omega), fun i hi => absurd hi (by omega), fun i hi => absurd hi (by omega), fun i hi => absurd hi (by omega), st_HAR, st_RUL, fun i hi => absurd hi (by omega), st_SHE, Or.inl ⟨by decide +kernel, by decide +kernel⟩⟩
