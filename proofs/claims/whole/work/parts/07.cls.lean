/-! Rows of the heap, by layout and store -/
def tyK (k : Nat) : Nat → FieldType := match k with
  | 0 => tyX0
  | 1 => tyX1
  | 2 => tyX2
  | 3 => tyX3
  | 4 => tyX4
  | 5 => tyX5
  | 6 => tyX6
  | 7 => tyX7
  | 8 => tyX8
  | 9 => tyX9
  | 10 => tyX10
  | 11 => tyX11
  | _ => tyX12
def isRf : FieldType → Bool
  | .object _ => true
  | .array _ => true
  | _ => false
def okT (k j : Nat) : Bool := match ftc k j with
  | 0 => decide (tyK k j = nty (fnc k j))
  | 1 => decide (tyK k j = .long)
  | _ + 2 => isRf (tyK k j)
/-- what is known of class k -/
def CK (k : Nat) : Prop := vwCl[k]? = some (cK k) ∧ (∀ w ∈ u_ws (cK k).1 (cK k).2.1 (cK k).2.2, w ∈ tw) ∧ (∀ a, a < (cK k).2.2 → ∀ b, b < (cK k).2.2 → a ≠ b → ((cK k).2.1 a).2.1 ≠ ((cK k).2.1 b).2.1) ∧ (∀ j, j < (cK k).2.2 → parseFieldDescriptor ((cK k).2.1 j).2.2.1 = some (tyK k j)) ∧ nf k = (cK k).2.2 ∧ Cond.instantiable (cK k).1 (cK k).2.2 ∈ tw ∧ Cond.initialized (cK k).1 ∈ tw ∧ ∀ j, j < (cK k).2.2 → okT k j = true
theorem CK0 : CK 0 := ⟨rfl, by decide +kernel, nmX0, tyX0_ok, rfl, by decide +kernel, by decide +kernel, by decide +kernel⟩
theorem CK1 : CK 1 := ⟨rfl, by decide +kernel, nmX1, tyX1_ok, rfl, by decide +kernel, by decide +kernel, by decide +kernel⟩
theorem CK2 : CK 2 := ⟨rfl, by decide +kernel, nmX2, tyX2_ok, rfl, by decide +kernel, by decide +kernel, by decide +kernel⟩
theorem CK3 : CK 3 := ⟨rfl, by decide +kernel, nmX3, tyX3_ok, rfl, by decide +kernel, by decide +kernel, by decide +kernel⟩
theorem CK4 : CK 4 := ⟨rfl, by decide +kernel, nmX4, tyX4_ok, rfl, by decide +kernel, by decide +kernel, by decide +kernel⟩
theorem CK5 : CK 5 := ⟨rfl, by decide +kernel, nmX5, tyX5_ok, rfl, by decide +kernel, by decide +kernel, by decide +kernel⟩
theorem CK6 : CK 6 := ⟨rfl, by decide +kernel, nmX6, tyX6_ok, rfl, by decide +kernel, by decide +kernel, by decide +kernel⟩
theorem CK7 : CK 7 := ⟨rfl, by decide +kernel, nmX7, tyX7_ok, rfl, by decide +kernel, by decide +kernel, by decide +kernel⟩
theorem CK8 : CK 8 := ⟨rfl, by decide +kernel, nmX8, tyX8_ok, rfl, by decide +kernel, by decide +kernel, by decide +kernel⟩
theorem CK9 : CK 9 := ⟨rfl, by decide +kernel, nmX9, tyX9_ok, rfl, by decide +kernel, by decide +kernel, by decide +kernel⟩
theorem CK10 : CK 10 := ⟨rfl, by decide +kernel, nmX10, tyX10_ok, rfl, by decide +kernel, by decide +kernel, by decide +kernel⟩
theorem CK11 : CK 11 := ⟨rfl, by decide +kernel, nmX11, tyX11_ok, rfl, by decide +kernel, by decide +kernel, by decide +kernel⟩
theorem CK12 : CK 12 := ⟨rfl, by decide +kernel, nmX12, tyX12_ok, rfl, by decide +kernel, by decide +kernel, by decide +kernel⟩
theorem CK_ok : ∀ k, k < 13 → CK k := fun k hk => match k, hk with
  | 0, _ => CK0
  | 1, _ => CK1
  | 2, _ => CK2
  | 3, _ => CK3
  | 4, _ => CK4
  | 5, _ => CK5
  | 6, _ => CK6
  | 7, _ => CK7
  | 8, _ => CK8
  | 9, _ => CK9
  | 10, _ => CK10
  | 11, _ => CK11
  | 12, _ => CK12
  | n + 13, h => absurd h (by omega)
