/-! plan: sets of days, the best one -/
def hmN (H : Nat → Nat) (T : Nat) : Nat → Nat
  | 0 => 0
  | i + 1 => hmN H T i + if T.testBit i = true then H i else 0
def pcN (T : Nat) : Nat → Nat
  | 0 => 0
  | i + 1 => pcN T i + if T.testBit i = true then 1 else 0
def rnN (T : Nat) : Nat → Nat
  | 0 => 0
  | i + 1 => if T.testBit i = true then rnN T i + 1 else 0
/-- days that rule, fund and pay allow -/
def OKN (F A c l T n : Nat) : Prop := ∀ i, i < n → T.testBit i = true → c * (pcN T i + 1) ≤ F + i * A ∧ rnN T i + 1 ≤ l
def btr (H : Nat → Nat) (T B : Nat) : Prop := hmN H B 12 < hmN H T 12 ∨ (hmN H T 12 = hmN H B 12 ∧ (pcN T 12 < pcN B 12 ∨ (pcN T 12 = pcN B 12 ∧ T < B)))
theorem btr_tr {H : Nat → Nat} {T B C : Nat} (h : btr H T B) (k : btr H B C) : btr H T C := by
  unfold btr at *
  omega
theorem btr_tot {H : Nat → Nat} {T B : Nat} (h : ¬ btr H T B) (k : ¬ btr H B T) : T = B := by
  unfold btr at *
  omega
theorem btr_ir {H : Nat → Nat} {T : Nat} : ¬ btr H T T := by
  unfold btr
  omega
theorem hmN_c {H : Nat → Nat} {T T' : Nat} : ∀ i, (∀ k, k < i → T'.testBit k = T.testBit k) → hmN H T' i = hmN H T i
  | 0, _ => rfl
  | i + 1, h => by
    show hmN H T' i + _ = hmN H T i + _
    rw [hmN_c i (fun k hk => h k (by omega)), h i (by omega)]
theorem pcN_c {T T' : Nat} : ∀ i, (∀ k, k < i → T'.testBit k = T.testBit k) → pcN T' i = pcN T i
  | 0, _ => rfl
  | i + 1, h => by
    show pcN T' i + _ = pcN T i + _
    rw [pcN_c i (fun k hk => h k (by omega)), h i (by omega)]
theorem rnN_c {T T' : Nat} : ∀ i, (∀ k, k < i → T'.testBit k = T.testBit k) → rnN T' i = rnN T i
  | 0, _ => rfl
  | i + 1, h => by
    show (if T'.testBit i = true then rnN T' i + 1 else 0) = (if T.testBit i = true then rnN T i + 1 else 0)
    rw [rnN_c i (fun k hk => h k (by omega)), h i (by omega)]
theorem pcN_s {T T' : Nat} (s : ∀ k, T'.testBit k = true → T.testBit k = true) : ∀ i, pcN T' i ≤ pcN T i
  | 0 => Nat.le_refl _
  | i + 1 => by
    show pcN T' i + (if T'.testBit i = true then 1 else 0) ≤ pcN T i + (if T.testBit i = true then 1 else 0)
    have := pcN_s s i
    by_cases q : T'.testBit i = true
    · rw [if_pos q, if_pos (s i q)]; omega
    · rw [if_neg q]; omega
theorem rnN_s {T T' : Nat} (s : ∀ k, T'.testBit k = true → T.testBit k = true) : ∀ i, rnN T' i ≤ rnN T i
  | 0 => Nat.le_refl _
  | i + 1 => by
    show (if T'.testBit i = true then rnN T' i + 1 else 0) ≤ (if T.testBit i = true then rnN T i + 1 else 0)
    have := rnN_s s i
    by_cases q : T'.testBit i = true
    · rw [if_pos q, if_pos (s i q)]; omega
    · rw [if_neg q]; omega
theorem OKN_s {F A c l T T' n : Nat} (s : ∀ k, T'.testBit k = true → T.testBit k = true) (h : OKN F A c l T n) : OKN F A c l T' n := fun i hi q => by
  obtain ⟨a, b⟩ := h i hi (s i q)
  have := rnN_s s i
  exact ⟨Nat.le_trans (Nat.mul_le_mul_left c (Nat.succ_le_succ (pcN_s s i))) a, by omega⟩
theorem OKN_c {F A c l T T' n : Nat} (h : ∀ k, k < n → T'.testBit k = T.testBit k) (o : OKN F A c l T n) : OKN F A c l T' n := fun i hi q => by
  rw [pcN_c i (fun k hk => h k (by omega)), rnN_c i (fun k hk => h k (by omega))]
  exact o i hi (by rw [← h i hi]; exact q)
theorem OKN_le {F A c l T n m : Nat} (h : m ≤ n) (o : OKN F A c l T n) : OKN F A c l T m := fun i hi q => o i (by omega) q
theorem OKN_0 (F A c l n : Nat) : OKN F A c l 0 n := fun i _ q => by
  rw [Nat.zero_testBit] at q
  cases q
/-- the fund never falls below nothing -/
theorem OKN_f {F A c l T : Nat} : ∀ n, OKN F A c l T n → c * pcN T n ≤ F + n * A
  | 0, _ => by show c * 0 ≤ _; omega
  | n + 1, o => by
    have ih := OKN_f n (OKN_le (by omega) o)
    have e : (n + 1) * A = n * A + A := Nat.succ_mul n A
    show c * (pcN T n + _) ≤ _
    by_cases q : T.testBit n = true
    · rw [if_pos q]
      have := (o n (by omega) q).1
      omega
    · rw [if_neg q, Nat.add_zero]
      omega
theorem hmN_up {H : Nat → Nat} {T n : Nat} (hT : T < 2 ^ n) : ∀ d, hmN H T (n + d) = hmN H T n
  | 0 => rfl
  | d + 1 => by
    show hmN H T (n + d) + (if T.testBit (n + d) = true then H (n + d) else 0) = _
    rw [hmN_up hT d, Nat.testBit_lt_two_pow (Nat.lt_of_lt_of_le hT (Nat.pow_le_pow_right (by omega) (Nat.le_add_right n d))), if_neg (by decide)]
    rfl
theorem pcN_up {T n : Nat} (hT : T < 2 ^ n) : ∀ d, pcN T (n + d) = pcN T n
  | 0 => rfl
  | d + 1 => by
    show pcN T (n + d) + (if T.testBit (n + d) = true then 1 else 0) = _
    rw [pcN_up hT d, Nat.testBit_lt_two_pow (Nat.lt_of_lt_of_le hT (Nat.pow_le_pow_right (by omega) (Nat.le_add_right n d))), if_neg (by decide)]
    rfl
theorem ext_n {T T' n : Nat} (hT : T < 2 ^ n) (hT' : T' < 2 ^ n) (h : ∀ k, k < n → T'.testBit k = T.testBit k) : T' = T := Nat.eq_of_testBit_eq (fun k => by
  rcases Nat.lt_or_ge k n with q | q
  · exact h k q
  · have := Nat.pow_le_pow_right (n := 2) (by omega) q
    rw [Nat.testBit_lt_two_pow (Nat.lt_of_lt_of_le hT this), Nat.testBit_lt_two_pow (Nat.lt_of_lt_of_le hT' this)])
/-- the bit at i more -/
theorem add_bit {T i : Nat} (hT : T < 2 ^ i) (k : Nat) : (T + 2 ^ i).testBit k = (if k = i then true else T.testBit k) := by
  have h := Nat.testBit_two_pow_mul_add 1 hT k
  rw [Nat.mul_one, Nat.add_comm] at h
  rw [h]
  rcases Nat.lt_trichotomy k i with q | q | q
  · rw [if_pos q, if_neg (by omega)]
  · subst q
    rw [if_neg (by omega), if_pos rfl, Nat.sub_self]
    rfl
  · rw [if_neg (by omega), if_neg (by omega), Nat.testBit_lt_two_pow (x := T) (i := k) (Nat.lt_trans hT (Nat.pow_lt_pow_right (by omega) q)), Nat.testBit_lt_two_pow]
    have : 2 ^ 1 ≤ 2 ^ (k - i) := Nat.pow_le_pow_right (by omega) (by omega)
    omega
theorem pcN_le (T : Nat) : ∀ i, pcN T i ≤ i
  | 0 => Nat.le_refl _
  | i + 1 => by
    have := pcN_le T i
    show pcN T i + (if T.testBit i = true then 1 else 0) ≤ i + 1
    split <;> omega
theorem rnN_le (T : Nat) : ∀ i, rnN T i ≤ i
  | 0 => Nat.le_refl _
  | i + 1 => by
    have := rnN_le T i
    show (if T.testBit i = true then rnN T i + 1 else 0) ≤ i + 1
    split <;> omega
theorem hmN_le {H : Nat → Nat} (hH : ∀ k, H k ≤ 999) (T : Nat) : ∀ i, hmN H T i ≤ 999 * i
  | 0 => Nat.le_refl _
  | i + 1 => by
    have := hmN_le hH T i
    have := hH i
    show hmN H T i + (if T.testBit i = true then H i else 0) ≤ 999 * (i + 1)
    split <;> omega
/-- what may still come from day i on -/
def sxN (H : Nat → Nat) (n : Nat) : Nat → Nat → Nat
  | 0, _ => 0
  | d + 1, i => sxN H n d (i + 1) + if i < n then H i else 0
theorem sxN_b {H : Nat → Nat} {T n : Nat} : ∀ d i, i + d = n → hmN H T n ≤ hmN H T i + sxN H n d i
  | 0, i, h => by
    subst h
    exact Nat.le_refl _
  | d + 1, i, h => by
    have ih := sxN_b (H := H) (T := T) (n := n) d (i + 1) (by omega)
    have e : hmN H T (i + 1) = hmN H T i + if T.testBit i = true then H i else 0 := rfl
    have e2 : sxN H n (d + 1) i = sxN H n d (i + 1) + if i < n then H i else 0 := rfl
    rw [if_pos (show i < n by omega)] at e2
    by_cases q : T.testBit i = true
    · rw [if_pos q] at e; omega
    · rw [if_neg q] at e; omega
theorem sxN_z {H : Nat → Nat} {n : Nat} : ∀ d i, n ≤ i → sxN H n d i = 0
  | 0, _, _ => rfl
  | d + 1, i, h => by
    show sxN H n d (i + 1) + (if i < n then H i else 0) = 0
    rw [sxN_z (H := H) (n := n) d (i + 1) (by omega), if_neg (by omega)]
theorem sxN_d {H : Nat → Nat} {n : Nat} : ∀ d e i, n ≤ i + d → sxN H n (d + e) i = sxN H n d i
  | 0, e, i, h => by rw [sxN_z (0 + e) i (by omega)]; rfl
  | d + 1, e, i, h => by
    rw [show d + 1 + e = (d + e) + 1 by omega]
    show sxN H n (d + e) (i + 1) + _ = sxN H n d (i + 1) + _
    rw [sxN_d d e (i + 1) (by omega)]
theorem sxN_le {H : Nat → Nat} (hH : ∀ k, H k ≤ 999) {n : Nat} : ∀ d i, sxN H n d i ≤ 999 * d
  | 0, _ => Nat.le_refl _
  | d + 1, i => by
    have := sxN_le hH (n := n) d (i + 1)
    have := hH i
    show sxN H n d (i + 1) + (if i < n then H i else 0) ≤ 999 * (d + 1)
    split <;> omega
def bcA (a : Int32) : Int32 := a - (((a.toUInt32 >>> ((1 : Int32).toUInt32 &&& Int32.toUInt32 31)).toInt32) &&& 1431655765)
def bcB (a : Int32) : Int32 := (a &&& 858993459) + (((a.toUInt32 >>> ((2 : Int32).toUInt32 &&& Int32.toUInt32 31)).toInt32) &&& 858993459)
def bcC (a : Int32) : Int32 := (a + ((a.toUInt32 >>> ((4 : Int32).toUInt32 &&& Int32.toUInt32 31)).toInt32)) &&& 252645135
def bcD (a : Int32) : Int32 := a + ((a.toUInt32 >>> ((8 : Int32).toUInt32 &&& Int32.toUInt32 31)).toInt32)
def bcE (a : Int32) : Int32 := a + ((a.toUInt32 >>> ((16 : Int32).toUInt32 &&& Int32.toUInt32 31)).toInt32)
theorem bc_f (L : Lay) (σ : Sto) (a : Int32) : f_J6_bitCount_0f7a4 L σ a = some (bcE (bcD (bcC (bcB (bcA a)))) &&& 63) := rfl
theorem bc_d : ∀ a, a < 64 → ∀ b, b < 64 → bcE (bcD (bcC (bcB (bcA (nI (64 * a + b)))))) &&& 63 = nI (pcN (64 * a + b) 12) := by decide +kernel
theorem bc12 (L : Lay) (σ : Sto) {T : Nat} (h : T < 4096) : f_J6_bitCount_0f7a4 L σ (nI T) = some (nI (pcN T 12)) := by
  have e := bc_d (T / 64) (by omega) (T % 64) (by omega)
  rw [Nat.div_add_mod] at e
  rw [bc_f, e]
theorem btr_nt {H : Nat → Nat} {T B C : Nat} (h : ¬ btr H T B) (k : ¬ btr H B C) : ¬ btr H T C := by
  unfold btr at *
  omega
theorem tx_bit {T i k : Nat} : (T ^^^ 2 ^ i).testBit k = (if k = i then !T.testBit i else T.testBit k) := by
  rw [Nat.testBit_xor, Nat.testBit_two_pow]
  by_cases q : k = i
  · subst q
    rw [if_pos rfl, decide_eq_true rfl, Bool.xor_true]
  · rw [if_neg q, decide_eq_false (fun e => q e.symm), Bool.xor_false]
theorem tx_hm {H : Nat → Nat} {T i : Nat} (hH : H i = 0) : ∀ m, hmN H (T ^^^ 2 ^ i) m = hmN H T m
  | 0 => rfl
  | m + 1 => by
    show hmN H (T ^^^ 2 ^ i) m + (if (T ^^^ 2 ^ i).testBit m = true then H m else 0) = hmN H T m + (if T.testBit m = true then H m else 0)
    rw [tx_hm hH m, tx_bit]
    by_cases q : m = i
    · rw [q, hH, ite_self, ite_self]
    · rw [if_neg q]
theorem tx_pc {T i : Nat} (hb : T.testBit i = true) : ∀ m, pcN (T ^^^ 2 ^ i) m + (if i < m then 1 else 0) = pcN T m
  | 0 => rfl
  | m + 1 => by
    have ih := tx_pc hb m
    show pcN (T ^^^ 2 ^ i) m + (if (T ^^^ 2 ^ i).testBit m = true then 1 else 0) + (if i < m + 1 then 1 else 0) = pcN T m + (if T.testBit m = true then 1 else 0)
    rw [tx_bit]
    by_cases q : m = i
    · subst q
      rw [if_neg (Nat.lt_irrefl _)] at ih
      rw [if_pos rfl, hb, if_neg (by decide), if_pos (by omega), if_pos rfl]
      omega
    · rw [if_neg q]
      by_cases z : i < m
      · rw [if_pos z] at ih
        rw [if_pos (show i < m + 1 by omega)]
        omega
      · rw [if_neg z] at ih
        rw [if_neg (show ¬ i < m + 1 by omega)]
        omega
