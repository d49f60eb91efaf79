/-! Bits of longs: the first rows are out of kit/laws/BITS.to-paste (lN to 2^64; lN under >>) -/
theorem wb_tb (n : Nat) : (lN n).toBitVec = BitVec.ofNat 64 n := rfl
theorem wb_inj {a b : Int64} (h : a.toBitVec = b.toBitVec) : a = b := Int64.toBitVec_inj.mp h
theorem wb_tn {n : Nat} (h : n < 2 ^ 64) : (lN n).toBitVec.toNat = n := by rw [wb_tb, BitVec.toNat_ofNat, Nat.mod_eq_of_lt h]
theorem wb_of (x : Int64) : ∃ n, n < 2 ^ 64 ∧ x = lN n := ⟨x.toBitVec.toNat, x.toBitVec.isLt, wb_inj (by rw [wb_tb]; simp)⟩
theorem wb_of32 (x : Int32) : ∃ n, n < 2 ^ 32 ∧ x = nI n := ⟨x.toBitVec.toNat, x.toBitVec.isLt, Int32.toBitVec_inj.mp (by show _ = BitVec.ofNat 32 _; simp)⟩
theorem wb_c : ∀ k, k < 64 → ((nI k).toInt64 &&& 63) = lN k := by decide +kernel
theorem wb_cu : ∀ k, k < 64 → ((nI k).toInt64.toUInt64 &&& Int64.toUInt64 63) = UInt64.ofNat k := by decide +kernel
theorem wb_sm : ∀ k, k < 64 → (BitVec.ofNat 64 k).smod 64 = BitVec.ofNat 64 k := by decide +kernel
theorem wb_pw {a b : Nat} (h : a ≤ b) : 2 ^ b = 2 ^ a * 2 ^ (b - a) := by rw [← Nat.pow_add]; congr 1; omega
theorem wb_lt2 {a b : Nat} (h : a < b) : 2 ^ a < 2 ^ b := Nat.pow_lt_pow_right (by decide) h
theorem wb_mod (n : Nat) : lN n = lN (n % 2 ^ 64) := wb_inj (by rw [wb_tb, wb_tb]; apply BitVec.eq_of_toNat_eq; rw [BitVec.toNat_ofNat, BitVec.toNat_ofNat, Nat.mod_mod])
theorem wb_shr {n k : Nat} (hn : n < 2 ^ 64) (hk : k < 64) : ((lN n).toUInt64 >>> ((nI k).toInt64.toUInt64 &&& Int64.toUInt64 63)).toInt64 = lN (n / 2 ^ k) := by
  rw [wb_cu k hk]
  apply wb_inj
  apply BitVec.eq_of_toNat_eq
  show ((lN n).toUInt64 >>> UInt64.ofNat k).toNat = (BitVec.ofNat 64 _).toNat
  have h1 : (UInt64.ofNat k).toNat = k := by
    show (BitVec.ofNat 64 k).toNat = k
    rw [BitVec.toNat_ofNat, Nat.mod_eq_of_lt (by omega)]
  have h2 : (lN n).toUInt64.toNat = n := wb_tn hn
  rw [UInt64.toNat_shiftRight, h1, h2, Nat.mod_eq_of_lt hk, Nat.shiftRight_eq_div_pow, BitVec.toNat_ofNat, Nat.mod_eq_of_lt (Nat.lt_of_le_of_lt (Nat.div_le_self _ _) hn)]
theorem wb_shl (n : Nat) {k : Nat} (hk : k < 64) : lN n <<< ((nI k).toInt64 &&& 63) = lN (n * 2 ^ k) := by
  rw [wb_c k hk]
  apply wb_inj
  rw [Int64.toBitVec_shiftLeft, wb_tb, wb_tb, wb_tb, wb_sm k hk]
  apply BitVec.eq_of_toNat_eq
  rw [BitVec.shiftLeft_eq', BitVec.toNat_shiftLeft, BitVec.toNat_ofNat, BitVec.toNat_ofNat, BitVec.toNat_ofNat, Nat.mod_eq_of_lt (show k < 2 ^ 64 by omega), Nat.shiftLeft_eq, Nat.mul_mod, Nat.mod_mod, ← Nat.mul_mod]
theorem wb_and {a b : Nat} (ha : a < 2 ^ 64) (hb : b < 2 ^ 64) : lN a &&& lN b = lN (a &&& b) := by
  apply wb_inj
  rw [Int64.toBitVec_and, wb_tb, wb_tb, wb_tb]
  apply BitVec.eq_of_toNat_eq
  rw [BitVec.toNat_and, BitVec.toNat_ofNat, BitVec.toNat_ofNat, BitVec.toNat_ofNat, Nat.mod_eq_of_lt ha, Nat.mod_eq_of_lt hb, Nat.mod_eq_of_lt (Nat.and_lt_two_pow _ hb)]
theorem wb_or {a b : Nat} (ha : a < 2 ^ 64) (hb : b < 2 ^ 64) : lN a ||| lN b = lN (a ||| b) := by
  apply wb_inj
  rw [Int64.toBitVec_or, wb_tb, wb_tb, wb_tb]
  apply BitVec.eq_of_toNat_eq
  rw [BitVec.toNat_or, BitVec.toNat_ofNat, BitVec.toNat_ofNat, BitVec.toNat_ofNat, Nat.mod_eq_of_lt ha, Nat.mod_eq_of_lt hb, Nat.mod_eq_of_lt (Nat.or_lt_two_pow ha hb)]
theorem wb_mask {n k : Nat} (hn : n < 2 ^ 64) (hk : k < 64) : lN n &&& lN (2 ^ k - 1) = lN (n % 2 ^ k) := by
  rw [wb_and hn (by have := wb_lt2 hk; omega), Nat.and_two_pow_sub_one_eq_mod]
theorem wb_a1 {n : Nat} (hn : n < 2 ^ 64) : lN n &&& 1 = lN (n % 2) := wb_mask (k := 1) hn (by decide)
theorem wb_bit {n k : Nat} (hn : n < 2 ^ 64) (hk : k < 64) : ((lN n).toUInt64 >>> ((nI k).toInt64.toUInt64 &&& Int64.toUInt64 63)).toInt64 &&& 1 = lN (n / 2 ^ k % 2) := by
  rw [wb_shr hn hk, wb_a1 (Nat.lt_of_le_of_lt (Nat.div_le_self _ _) hn)]
theorem pf_lI {a : Nat} (h : a < 2 ^ 63) : (lN a).toInt = (a : Int) := lg_ofNat_toInt h
theorem pf_shr {a d : Nat} {D : Int64} (hD : (D.toBitVec.smod 64).toNat = d) (h : a < 2 ^ 62) : lN a >>> D = lN (a / 2 ^ d) := by
  have hd : a / 2 ^ d ≤ a := Nat.div_le_self _ _
  apply Int64.toInt_inj.mp
  have e : (lN a >>> D).toInt = (lN a).toInt >>> d := by
    rw [← hD]
    exact BitVec.toInt_sshiftRight ..
  rw [e, Int.shiftRight_eq_div_pow, pf_lI (by omega), pf_lI (by omega)]
  rfl
/-! how many bits a long has -/
def sb (T : Nat) : Nat → Nat
  | 0 => 0
  | n + 1 => sb T n + T / 2 ^ n % 2
theorem sb_z (T : Nat) : sb T 0 = 0 := rfl
theorem sb_low (x : Nat) : ∀ n, sb x (n + 1) = x % 2 + sb (x / 2) n
  | 0 => by
    show 0 + x / 2 ^ 0 % 2 = x % 2 + 0
    rw [Nat.pow_zero, Nat.div_one]
    omega
  | n + 1 => by
    show sb x (n + 1) + x / 2 ^ (n + 1) % 2 = x % 2 + (sb (x / 2) n + x / 2 / 2 ^ n % 2)
    rw [sb_low x n, Nat.pow_succ', ← Nat.div_div_eq_div_mul]
    omega
theorem sb_8 (x n : Nat) : sb x (n + 8) = sb (x % 256) 8 + sb (x / 256) n := by
  have e : x / 2 / 2 / 2 / 2 / 2 / 2 / 2 / 2 = x / 256 := by omega
  have h1 : sb x (n + 8) = x % 2 + (x / 2 % 2 + (x / 2 / 2 % 2 + (x / 2 / 2 / 2 % 2 + (x / 2 / 2 / 2 / 2 % 2 + (x / 2 / 2 / 2 / 2 / 2 % 2 + (x / 2 / 2 / 2 / 2 / 2 / 2 % 2 + (x / 2 / 2 / 2 / 2 / 2 / 2 / 2 % 2 + sb (x / 256) n))))))) := by
    rw [← e, ← sb_low, ← sb_low, ← sb_low, ← sb_low, ← sb_low, ← sb_low, ← sb_low, ← sb_low]
  have h2 : ∀ y, sb y 8 = y % 2 + (y / 2 % 2 + (y / 2 / 2 % 2 + (y / 2 / 2 / 2 % 2 + (y / 2 / 2 / 2 / 2 % 2 + (y / 2 / 2 / 2 / 2 / 2 % 2 + (y / 2 / 2 / 2 / 2 / 2 / 2 % 2 + (y / 2 / 2 / 2 / 2 / 2 / 2 / 2 % 2 + sb (y / 2 / 2 / 2 / 2 / 2 / 2 / 2 / 2) 0))))))) := fun y => by
    rw [← sb_low, ← sb_low, ← sb_low, ← sb_low, ← sb_low, ← sb_low, ← sb_low, ← sb_low]
  have f0 : x % 256 % 2 = x % 2 := by omega
  have f1 : x % 256 / 2 % 2 = x / 2 % 2 := by omega
  have f2 : x % 256 / 2 / 2 % 2 = x / 2 / 2 % 2 := by omega
  have f3 : x % 256 / 2 / 2 / 2 % 2 = x / 2 / 2 / 2 % 2 := by omega
  have f4 : x % 256 / 2 / 2 / 2 / 2 % 2 = x / 2 / 2 / 2 / 2 % 2 := by omega
  have f5 : x % 256 / 2 / 2 / 2 / 2 / 2 % 2 = x / 2 / 2 / 2 / 2 / 2 % 2 := by omega
  have f6 : x % 256 / 2 / 2 / 2 / 2 / 2 / 2 % 2 = x / 2 / 2 / 2 / 2 / 2 / 2 % 2 := by omega
  have f7 : x % 256 / 2 / 2 / 2 / 2 / 2 / 2 / 2 % 2 = x / 2 / 2 / 2 / 2 / 2 / 2 / 2 % 2 := by omega
  rw [h1, h2, sb_z, f0, f1, f2, f3, f4, f5, f6, f7]
  simp only [Nat.add_assoc, Nat.zero_add]
theorem sb_le (x : Nat) : ∀ n, sb x n ≤ n
  | 0 => Nat.le_refl _
  | n + 1 => by
    show sb x n + x / 2 ^ n % 2 ≤ n + 1
    have := sb_le x n
    omega
theorem sb_hi {x n : Nat} (h : x < 2 ^ n) : ∀ k, sb x (n + k) = sb x n
  | 0 => rfl
  | k + 1 => by
    show sb x (n + k) + x / 2 ^ (n + k) % 2 = sb x n
    rw [sb_hi h k, Nat.div_eq_of_lt (Nat.lt_of_lt_of_le h (Nat.pow_le_pow_right (by omega) (by omega))), Nat.zero_mod, Nat.add_zero]
theorem and256 {lo m : Nat} (hl : lo < 2 ^ 8) (hm : m < 2 ^ 8) (a M : Nat) : (2 ^ 8 * a + lo) &&& (2 ^ 8 * M + m) = 2 ^ 8 * (a &&& M) + (lo &&& m) := by
  apply Nat.eq_of_testBit_eq
  intro j
  rw [Nat.testBit_and, Nat.testBit_two_pow_mul_add _ hl, Nat.testBit_two_pow_mul_add _ hm, Nat.testBit_two_pow_mul_add _ (Nat.and_lt_two_pow _ hm)]
  by_cases q : j < 8
  · rw [if_pos q, if_pos q, if_pos q, Nat.testBit_and]
  · rw [if_neg q, if_neg q, if_neg q, Nat.testBit_and]
def mk8 (m : Nat) : Nat → Nat
  | 0 => 0
  | k + 1 => 2 ^ 8 * mk8 m k + m
def pq1 (k x : Nat) : Nat := x - (x / 2 &&& mk8 85 k)
def pq2 (k x : Nat) : Nat := (x &&& mk8 51 k) + (x / 4 &&& mk8 51 k)
def pq3 (k x : Nat) : Nat := (x + x / 16) &&& mk8 15 k
def pb1 (x : Nat) : Nat := x - (x / 2 &&& 85)
def pb2 (x : Nat) : Nat := (x &&& 51) + (x / 4 &&& 51)
def pb3 (x : Nat) : Nat := (x + x / 16) &&& 15
theorem d1 : ∀ lo, lo < 256 → ∀ e, e < 2 → (128 * e + lo / 2) &&& 85 = lo / 2 &&& 85 := by decide +kernel
theorem d2 : ∀ lo, lo < 256 → ∀ e, e < 4 → (64 * e + lo / 4) &&& 51 = lo / 4 &&& 51 := by decide +kernel
theorem d3 : ∀ lo, lo < 256 → lo % 16 ≤ 4 → lo / 16 ≤ 4 → ∀ e, e ≤ 4 → (lo + (16 * e + lo / 16)) &&& 15 = pb3 lo := by decide +kernel
theorem d4 : ∀ lo, lo < 256 → pb1 lo < 256 ∧ pb2 (pb1 lo) < 256 ∧ pb2 (pb1 lo) % 16 ≤ 4 ∧ pb2 (pb1 lo) / 16 ≤ 4 ∧ pb3 (pb2 (pb1 lo)) = sb lo 8 := by decide +kernel
theorem pq1_s {lo : Nat} (hl : lo < 256) (k hi : Nat) : pq1 (k + 1) (2 ^ 8 * hi + lo) = 2 ^ 8 * pq1 k hi + pb1 lo := by
  unfold pq1 pb1
  rw [show (2 ^ 8 * hi + lo) / 2 = 2 ^ 8 * (hi / 2) + (128 * (hi % 2) + lo / 2) by omega, show mk8 85 (k + 1) = 2 ^ 8 * mk8 85 k + 85 from rfl, and256 (by omega) (by decide), d1 lo hl _ (Nat.mod_lt _ (by omega))]
  have h1 : hi / 2 &&& mk8 85 k ≤ hi / 2 := Nat.and_le_left
  have h2 : lo / 2 &&& 85 ≤ lo / 2 := Nat.and_le_left
  omega
theorem pq2_s {lo : Nat} (hl : lo < 256) (k hi : Nat) : pq2 (k + 1) (2 ^ 8 * hi + lo) = 2 ^ 8 * pq2 k hi + pb2 lo := by
  unfold pq2 pb2
  rw [show (2 ^ 8 * hi + lo) / 4 = 2 ^ 8 * (hi / 4) + (64 * (hi % 4) + lo / 4) by omega, show mk8 51 (k + 1) = 2 ^ 8 * mk8 51 k + 51 from rfl, and256 (by omega) (by decide), and256 (by omega) (by decide), d2 lo hl _ (Nat.mod_lt _ (by omega))]
  omega
theorem pq3_s {lo : Nat} (hl : lo < 256) (k hi : Nat) (h1 : lo % 16 ≤ 4) (h2 : lo / 16 ≤ 4) (h3 : hi % 16 ≤ 4) : pq3 (k + 1) (2 ^ 8 * hi + lo) = 2 ^ 8 * pq3 k hi + pb3 lo := by
  unfold pq3
  rw [show 2 ^ 8 * hi + lo + (2 ^ 8 * hi + lo) / 16 = 2 ^ 8 * (hi + hi / 16) + (lo + (16 * (hi % 16) + lo / 16)) by omega, show mk8 15 (k + 1) = 2 ^ 8 * mk8 15 k + 15 from rfl, and256 (by omega) (by decide), d3 lo hl h1 h2 _ h3]
/-- the bytes' counts, side by side -/
def spr : Nat → Nat → Nat
  | 0, _ => 0
  | k + 1, x => 2 ^ 8 * spr k (x / 256) + sb (x % 256) 8
theorem pq_spr : ∀ k x, x < 256 ^ k → pq3 k (pq2 k (pq1 k x)) = spr k x ∧ pq2 k (pq1 k x) % 16 ≤ 4
  | 0, x, h => by
    have : x = 0 := by simpa using h
    subst this
    exact ⟨rfl, by decide⟩
  | k + 1, x, h => by
    have hx : x = 2 ^ 8 * (x / 256) + x % 256 := by omega
    have hl : x % 256 < 256 := Nat.mod_lt _ (by omega)
    have hd : x / 256 < 256 ^ k := by
      rw [Nat.pow_succ] at h
      exact Nat.div_lt_of_lt_mul (by rw [Nat.mul_comm]; exact h)
    obtain ⟨i1, i2⟩ := pq_spr k (x / 256) hd
    obtain ⟨j1, j2, j3, j4, j5⟩ := d4 _ hl
    have e : pq2 (k + 1) (pq1 (k + 1) x) = 2 ^ 8 * pq2 k (pq1 k (x / 256)) + pb2 (pb1 (x % 256)) := by
      rw [← pq2_s j1, ← pq1_s hl, ← hx]
    rw [e, pq3_s j2 k _ j3 j4 i2, i1, j5]
    refine ⟨rfl, ?_⟩
    omega
theorem mk85 : mk8 85 8 = 6148914691236517205 := by decide
theorem mk51 : mk8 51 8 = 3689348814741910323 := by decide
theorem mk15 : mk8 15 8 = 1085102592571150095 := by decide
theorem spr_sum {T : Nat} (h : T < 2 ^ 40) : ∃ p0 p1 p2 p3 p4, spr 8 T = p0 + 256 * p1 + 65536 * p2 + 16777216 * p3 + 4294967296 * p4 ∧ p0 ≤ 8 ∧ p1 ≤ 8 ∧ p2 ≤ 8 ∧ p3 ≤ 8 ∧ p4 ≤ 8 ∧ sb T 40 = p0 + p1 + p2 + p3 + p4 := by
  refine ⟨sb (T % 256) 8, sb (T / 256 % 256) 8, sb (T / 256 / 256 % 256) 8, sb (T / 256 / 256 / 256 % 256) 8, sb (T / 256 / 256 / 256 / 256 % 256) 8, ?_, sb_le _ _, sb_le _ _, sb_le _ _, sb_le _ _, sb_le _ _, ?_⟩
  · have z : T / 256 / 256 / 256 / 256 / 256 = 0 := by omega
    have z8 : sb (0 % 256) 8 = 0 := by decide
    have zd : (0 : Nat) / 256 = 0 := rfl
    simp only [spr, z, zd, z8]
    omega
  · rw [show sb T 40 = sb T (32 + 8) from rfl, sb_8, show sb (T / 256) 32 = sb (T / 256) (24 + 8) from rfl, sb_8 (T / 256) 24, show sb (T / 256 / 256) 24 = sb (T / 256 / 256) (16 + 8) from rfl, sb_8 (T / 256 / 256) 16, show sb (T / 256 / 256 / 256) 16 = sb (T / 256 / 256 / 256) (8 + 8) from rfl, sb_8 (T / 256 / 256 / 256) 8, show sb (T / 256 / 256 / 256 / 256) 8 = sb (T / 256 / 256 / 256 / 256) (0 + 8) from rfl, sb_8 (T / 256 / 256 / 256 / 256) 0, sb_z]
    simp only [Nat.add_assoc, Nat.add_zero]
theorem lbits (L : Lay) (σ : Sto) {T : Nat} (h : T < 2 ^ 40) : f_J13_bitCount_95d88 L σ (lN T) = some (nI (sb T 40)) := by
  unfold f_J13_bitCount_95d88 f_J13_bitCount_95d88_10 f_J13_bitCount_95d88_24 f_J13_bitCount_95d88_34 f_J13_bitCount_95d88_41 f_J13_bitCount_95d88_48 f_J13_bitCount_95d88_55
  have hT : T < 256 ^ 8 := by omega
  obtain ⟨i1, i2⟩ := pq_spr 8 T hT
  have k1 : pq1 8 T ≤ T := Nat.sub_le _ _
  have c1 : (6148914691236517205 : Int64) = lN (mk8 85 8) := by rw [mk85]; rfl
  have c2 : (3689348814741910323 : Int64) = lN (mk8 51 8) := by rw [mk51]; rfl
  have c3 : (1085102592571150095 : Int64) = lN (mk8 15 8) := by rw [mk15]; rfl
  have b1 : mk8 85 8 < 2 ^ 64 := by decide
  have b2 : mk8 51 8 < 2 ^ 64 := by decide
  have b3 : mk8 15 8 < 2 ^ 64 := by decide
  have s1 : ((lN T).toUInt64 >>> ((1 : Int32).toInt64.toUInt64 &&& Int64.toUInt64 63)).toInt64 = lN (T / 2 ^ 1) := wb_shr (k := 1) (by omega) (by omega)
  have e1 : lN T - (lN (T / 2 ^ 1) &&& lN (mk8 85 8)) = lN (pq1 8 T) := by
    rw [wb_and (by omega) b1, lN_sub (Nat.le_trans Nat.and_le_left (Nat.div_le_self _ _))]
    rfl
  rw [s1, c1, e1]
  have s2 : ((lN (pq1 8 T)).toUInt64 >>> ((2 : Int32).toInt64.toUInt64 &&& Int64.toUInt64 63)).toInt64 = lN (pq1 8 T / 2 ^ 2) := wb_shr (k := 2) (by omega) (by omega)
  have e2 : (lN (pq1 8 T) &&& lN (mk8 51 8)) + (lN (pq1 8 T / 2 ^ 2) &&& lN (mk8 51 8)) = lN (pq2 8 (pq1 8 T)) := by
    rw [wb_and (by omega) b2, wb_and (by omega) b2, lN_add]
    rfl
  rw [s2, c2, e2]
  have k2 : pq2 8 (pq1 8 T) < 2 ^ 42 := by
    have a1 : pq1 8 T &&& mk8 51 8 ≤ pq1 8 T := Nat.and_le_left
    have a2 : pq1 8 T / 4 &&& mk8 51 8 ≤ pq1 8 T / 4 := Nat.and_le_left
    unfold pq2
    omega
  generalize pq2 8 (pq1 8 T) = X at i1 k2 ⊢
  have s3 : ((lN X).toUInt64 >>> ((4 : Int32).toInt64.toUInt64 &&& Int64.toUInt64 63)).toInt64 = lN (X / 2 ^ 4) := wb_shr (k := 4) (by omega) (by omega)
  have e3 : (lN X + lN (X / 2 ^ 4)) &&& lN (mk8 15 8) = lN (pq3 8 X) := by
    rw [lN_add, wb_and (by omega) b3]
    rfl
  rw [s3, c3, e3, i1]
  obtain ⟨p0, p1, p2, p3, p4, q, q0, q1, q2, q3, q4, qs⟩ := spr_sum h
  rw [q, qs]
  generalize hY : p0 + 256 * p1 + 65536 * p2 + 16777216 * p3 + 4294967296 * p4 = Y
  have s4 : ((lN Y).toUInt64 >>> ((8 : Int32).toInt64.toUInt64 &&& Int64.toUInt64 63)).toInt64 = lN (Y / 2 ^ 8) := wb_shr (k := 8) (by omega) (by omega)
  have y1 : Y / 2 ^ 8 = p1 + 256 * p2 + 65536 * p3 + 16777216 * p4 := by omega
  rw [s4, lN_add, y1]
  generalize hZ : Y + (p1 + 256 * p2 + 65536 * p3 + 16777216 * p4) = Z
  have s5 : ((lN Z).toUInt64 >>> ((16 : Int32).toInt64.toUInt64 &&& Int64.toUInt64 63)).toInt64 = lN (Z / 2 ^ 16) := wb_shr (k := 16) (by omega) (by omega)
  have z1 : Z / 2 ^ 16 = p2 + p3 + 256 * (p3 + p4) + 65536 * p4 := by omega
  rw [s5, lN_add, z1]
  generalize hV : Z + (p2 + p3 + 256 * (p3 + p4) + 65536 * p4) = V
  have s6 : ((lN V).toUInt64 >>> ((32 : Int32).toInt64.toUInt64 &&& Int64.toUInt64 63)).toInt64 = lN (V / 2 ^ 32) := wb_shr (k := 32) (by omega) (by omega)
  have v1 : V / 2 ^ 32 = p4 := by omega
  rw [s6, lN_add, v1, lN_i, pk_and _ 7 (by decide)]
  congr 2
  show (V + p4) % 2 ^ 32 % 2 ^ 7 = _
  omega
