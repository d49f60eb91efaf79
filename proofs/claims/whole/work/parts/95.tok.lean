/-! tokens that follow tokens -/
def TK (t : Nat → Int32) (n : Nat) (s : TS) : Prop := TB n s ∧ (s.2.2 ≤ 3 → s = nxf t n s.1)
theorem nxf_k {t : Nat → Int32} {n fr : Nat} (hf : fr ≤ n) : TK t n (nxf t n fr) := ⟨nxf_b hf, fun _ => rfl⟩
theorem nx_k {t : Nat → Int32} {n p : Nat} (hp : p ≤ n) : TK t n (nx t n p) := by
  refine ⟨nx_b hp, fun u => ?_⟩
  unfold nx at u ⊢
  by_cases q : stk t n p (sps t n 109 p) (srt t n (sps t n 109 p)) = true
  · rw [if_pos q] at u
    exact absurd u (by show ¬ 4 ≤ 3; omega)
  · rw [if_neg q]
    rfl
theorem nx_ge {t : Nat → Int32} {n p : Nat} (hp : p ≤ n) : p ≤ (nx t n p).1 := by
  have := (sps_b (t := t) 109 p hp).1
  unfold nx
  by_cases q : stk t n p (sps t n 109 p) (srt t n (sps t n 109 p)) = true
  · rw [if_pos q]; exact this
  · rw [if_neg q]; exact this
theorem srt_in {t : Nat → Int32} {n fr : Nat} (h : srt t n fr ≠ 0) : fr < n := by
  rcases Nat.lt_or_ge fr n with y | y
  · exact y
  · exact absurd (srt_out y) h
theorem tke_gt {t : Nat → Int32} {n fr : Nat} (h : srt t n fr ≠ 0) : fr + 1 ≤ tke t n fr (srt t n fr) := by
  have hf := srt_in h
  unfold tke
  by_cases q : row (srt t n fr) = true
  · rw [if_pos q]
    show fr + 1 ≤ (if srt t n fr = srt t n fr then rns t n (srt t n fr) 108 (fr + 1) else fr)
    rw [if_pos rfl]
    exact (rns_b h 108 (fr + 1) (by omega)).1
  · rw [if_neg q]
    have := srt_le t n fr
    have c : srt t n fr = 3 := by
      rcases (show srt t n fr = 0 ∨ srt t n fr = 1 ∨ srt t n fr = 2 ∨ srt t n fr = 3 by omega) with z | z | z | z
      · exact absurd z h
      · rw [z] at q; exact absurd rfl q
      · rw [z] at q; exact absurd rfl q
      · exact z
    rw [if_pos c]
    exact Nat.le_refl _
theorem tok_gt {t : Nat → Int32} {n : Nat} {s : TS} (h : TK t n s) (h0 : s.2.2 ≠ 0) (h3 : s.2.2 ≤ 3) : s.1 + 1 ≤ s.2.1 := by
  have e := h.2 h3
  have e1 : s.2.1 = tke t n s.1 (srt t n s.1) := congrArg (fun x : TS => x.2.1) e
  have e2 : s.2.2 = srt t n s.1 := congrArg (fun x : TS => x.2.2) e
  rw [e1]
  exact tke_gt (by rw [← e2]; exact h0)
theorem rns_last {t : Nat → Int32} {n s : Nat} : ∀ f p, p < rns t n s f p → srt t n (rns t n s f p - 1) = s
  | 0, p, h => absurd h (Nat.lt_irrefl _)
  | f + 1, p, h => by
    rw [show rns t n s (f + 1) p = if srt t n p = s then rns t n s f (p + 1) else p from rfl] at h ⊢
    by_cases q : srt t n p = s
    · rw [if_pos q] at h ⊢
      rcases Nat.lt_or_ge (p + 1) (rns t n s f (p + 1)) with z | z
      · exact rns_last f (p + 1) z
      · rw [show rns t n s f (p + 1) - 1 = p by omega]
        exact q
    · rw [if_neg q] at h
      exact absurd h (Nat.lt_irrefl _)
theorem tok_row {t : Nat → Int32} {n : Nat} {s : TS} (h : TK t n s) (h0 : s.2.2 ≠ 0) (h3 : s.2.2 ≤ 3) : row (srt t n (s.2.1 - 1)) = row s.2.2 := by
  have g := tok_gt h h0 h3
  have e := h.2 h3
  have e1 : s.2.1 = tke t n s.1 (srt t n s.1) := congrArg (fun x : TS => x.2.1) e
  have e2 : s.2.2 = srt t n s.1 := congrArg (fun x : TS => x.2.2) e
  rw [e1] at g ⊢
  rw [← e2] at g ⊢
  unfold tke at g ⊢
  by_cases q : row s.2.2 = true
  · rw [if_pos q] at g ⊢
    rw [rns_last 109 s.1 (by omega)]
  · rw [if_neg q] at g ⊢
    by_cases q3 : s.2.2 = 3
    · rw [if_pos q3, Nat.add_sub_cancel, ← e2]
    · rw [if_neg q3] at g
      omega
theorem wrn_stk {t : Nat → Int32} {n : Nat} {s : TS} (h : TK t n s) (h0 : s.2.2 ≠ 0) (h3 : s.2.2 ≤ 3) (fr so : Nat) : wrn 0 s.2.2 s.2.1 fr so = if stk t n s.2.1 fr so = true then 1 else 0 := by
  have g := tok_gt h h0 h3
  unfold wrn stk
  rw [tok_row h h0 h3]
  have z : Nat.beq s.2.1 0 = false := pf_of (fun u => by have := Nat.eq_of_beq_eq_true u; omega)
  rw [z]
  by_cases a : row s.2.2 = true
  · by_cases b : row so = true
    · by_cases c : fr = s.2.1
      · rw [if_neg (fun u => u.2 ⟨a, c, b⟩), a, b, c, Nat.beq_refl]; rfl
      · have c' : Nat.beq fr s.2.1 = false := pf_of (fun u => c (Nat.eq_of_beq_eq_true u))
        rw [if_pos ⟨rfl, fun u => c u.2.1⟩, a, b, c']; rfl
    · rw [if_pos ⟨rfl, fun u => b u.2.2⟩, pf_of b]; rfl
  · rw [if_pos ⟨rfl, fun u => a u.1⟩, pf_of a]
    cases row so <;> cases Nat.beq fr s.2.1 <;> rfl
/-- the reference stands at s; a stuck one is wrong -/
def RW (s : TS) (σ : Sto) : Prop := (s.2.2 ≤ 3 ∧ RT s σ ∧ σ.1 37 56 = 0) ∨ (s.2.2 = 4 ∧ σ.1 37 54 = nI s.1 ∧ σ.1 37 56 = 1)
section
variable {n : Nat} {L : Lay} {σ : Sto}
theorem x12_nextT (h : RPE n L σ) {s : TS} (e : RT s σ) (w : σ.1 37 56 = 0) (k : TK (rx n σ) n s) (h0 : s.2.2 ≠ 0) (h3 : s.2.2 ≤ 3) : ∃ σ2, f_X12_next L σ 37 = some σ2 ∧ RS σ σ2 ∧ RW (nx (rx n σ) n s.2.1) σ2 := by
  obtain ⟨σ2, g1, g2, g3, g4⟩ := x12_next h h3 k.1.2.1 e.2.2 e.2.1
  rw [w, wrn_stk k h0 h3] at g4
  refine ⟨σ2, g1, g2, ?_⟩
  unfold nx
  by_cases q : stk (rx n σ) n s.2.1 (sps (rx n σ) n 109 s.2.1) (srt (rx n σ) n (sps (rx n σ) n 109 s.2.1)) = true
  · rw [if_pos q] at g4 ⊢
    exact Or.inr ⟨rfl, g3.1, g4⟩
  · rw [if_neg q] at g4 ⊢
    exact Or.inl ⟨srt_le _ _ _, ⟨g3.1, g3.2.1, g3.2.2⟩, g4⟩
theorem x12_take1 (h : RPE n L σ) {s : TS} (e : RT s σ) (w : σ.1 37 56 = 0) (k : TK (rx n σ) n s) (h0 : s.2.2 ≠ 0) (h3 : s.2.2 ≤ 3) : ∃ σ2, f_X12_takes L σ 37 1 = some σ2 ∧ RS σ σ2 ∧ RW (nx (rx n σ) n s.2.1) σ2 := by
  have r : RS σ (sI σ 37 56 0) := (RS.rf σ).wr (by omega)
  obtain ⟨σ2, g1, g2, g3⟩ := x12_nextT (h.rs r) (s := s) ⟨(sI_nk (by omega)).trans e.1, (sI_nk (by omega)).trans e.2.1, (sI_nk (by omega)).trans e.2.2⟩ (sI_eq _ _ _ _) (by rw [rx_rs r]; exact k) h0 h3
  rw [rx_rs r] at g3
  refine ⟨σ2, ?_, r.tr g2, g3⟩
  unfold f_X12_takes f_X12_takes_17
  rw [if_pos w, if_neg (by decide), ck0]
  simp only [Option.bind_some, putI, sI_eq, if_true, g1]
theorem x12_takeW (w : ¬ σ.1 37 56 = 0) (x : Int32) : f_X12_takes L σ 37 x = some (sI σ 37 56 1) := by
  unfold f_X12_takes f_X12_takes_12 f_X12_takes_17
  rw [if_neg w, ck1]
  simp only [Option.bind_some, putI, sI_eq, one_ne0, if_false]
theorem x12_take0 (w : σ.1 37 56 = 0) : f_X12_takes L σ 37 0 = some (sI σ 37 56 1) := by
  unfold f_X12_takes f_X12_takes_12 f_X12_takes_17
  rw [if_pos w, if_pos rfl, ck1]
  simp only [Option.bind_some, putI, sI_eq, one_ne0, if_false]
theorem x12_number (h : RPE n L σ) {s : TS} (e : RT s σ) (b : TB n s) : ∃ a x, f_X12_number L σ 37 = (f_X12_takes L (sI σ 37 60 (σ.1 37 60 + 1)) 37 x).bind (fun σ1 => some (a, σ1)) ∧ (if s.2.1 - s.1 ≤ 4 then x = 1 ∧ a = num (rx n σ) s.1 (s.2.1 - s.1) else x = 0) := by
  obtain ⟨e1, e2, e3⟩ := e
  have hn := h.2.2.1
  obtain ⟨b1, b2, b3', b4⟩ := b
  have c48 : ∀ a, f_X12_number_48 L σ 37 a = (f_X12_takes L (sI σ 37 60 (σ.1 37 60 + 1)) 37 (if 4 < s.2.1 - s.1 then 0 else 1)).bind (fun σ1 => some (a, σ1)) := fun a => by
    unfold f_X12_number_48 f_X12_number_77
    have k1 : (sI σ 37 60 (σ.1 37 60 + 1)).1 37 55 = nI s.2.1 := (sI_nk (by omega)).trans e2
    have k2 : (sI σ 37 60 (σ.1 37 60 + 1)).1 37 54 = nI s.1 := (sI_nk (by omega)).trans e1
    rw [putI, Option.bind_some, k1, k2, pk_sub b1]
    by_cases q : 4 < s.2.1 - s.1
    · rw [if_pos q, if_pos (show (4 : Int32) < nI (s.2.1 - s.1) from (nI_ltI (a := 4) (by omega) (by omega)).mpr q)]
    · rw [if_neg q, if_neg (show ¬ (4 : Int32) < nI (s.2.1 - s.1) from fun u => q ((nI_ltI (a := 4) (by omega) (by omega)).mp u))]
  have st : f_X12_number L σ 37 = f_X12_number_7 (4999 + 1) L σ 37 0 (nI s.1) := by
    unfold f_X12_number
    rw [e1]
    rfl
  by_cases q : s.2.1 - s.1 ≤ 4
  · refine ⟨num (rx n σ) s.1 (s.2.1 - s.1), 1, ?_, by rw [if_pos q]; exact ⟨rfl, rfl⟩⟩
    have c := c48 (num (rx n σ) s.1 (s.2.1 - s.1))
    rw [if_neg (show ¬ 4 < s.2.1 - s.1 by omega)] at c
    rw [st, ← c]
    refine loop (F := fun f (q : Int32 × Int32) => f_X12_number_7 f L σ 37 q.1 q.2) (s := fun m => (num (rx n σ) s.1 m, nI (s.1 + m))) (s.2.1 - s.1) _ ?_ ?_ (by omega)
    · intro m K hm
      show f_X12_number_7 (K + 1) L σ 37 (num (rx n σ) s.1 m) (nI (s.1 + m)) = f_X12_number_7 K L σ 37 (num (rx n σ) s.1 m * 10 + rx n σ (s.1 + m) - 48) (nI (s.1 + m + 1))
      rw [f_X12_number_7]
      dsimp only
      rw [e1, e2, pk_sub b1, if_neg (fun u => by have := (nI_leI (by omega) (by omega)).mp u; omega), if_neg (fun u => by have := (nI_ltI (a := 4) (by omega) (by omega)).mp u; omega), x12_at h (by omega), Option.bind_some, if_pos (by omega), nI_1, Int32.mul_comm 10]
    · intro K
      show f_X12_number_7 (K + 1) L σ 37 (num (rx n σ) s.1 (s.2.1 - s.1)) (nI (s.1 + (s.2.1 - s.1))) = _
      rw [f_X12_number_7]
      dsimp only
      rw [e2, if_pos ((nI_leI (by omega) (by omega)).mpr (by omega))]
  · refine ⟨0, 0, ?_, by rw [if_neg q]⟩
    have c := c48 0
    rw [if_pos (show 4 < s.2.1 - s.1 by omega)] at c
    rw [st, ← c, f_X12_number_7]
    dsimp only
    rw [e1, e2, pk_sub b1, if_neg (fun u => by have := (nI_leI (by omega) (by omega)).mp u; omega), if_pos (show (4 : Int32) < nI (s.2.1 - s.1) from (nI_ltI (a := 4) (by omega) (by omega)).mpr (by omega))]
end
/-! words -/
def wrd (t : Nat → Int32) (s : TS) (w : Nat) : Bool := Nat.beq s.2.2 1 && (Nat.beq (s.2.1 - s.1) (cal 1 w).length && (List.range (cal 1 w).length).all (fun i => decide (t (s.1 + i) = cnth (cal 1 w) i)))
theorem wrd_iff {t : Nat → Int32} {s : TS} {w : Nat} : wrd t s w = true ↔ (s.2.2 = 1 ∧ s.2.1 - s.1 = (cal 1 w).length ∧ ∀ i, i < (cal 1 w).length → t (s.1 + i) = cnth (cal 1 w) i) := by
  unfold wrd
  rw [Bool.and_eq_true, Bool.and_eq_true, List.all_eq_true]
  constructor
  · rintro ⟨a, b, c⟩
    exact ⟨Nat.eq_of_beq_eq_true a, Nat.eq_of_beq_eq_true b, fun i hi => of_decide_eq_true (c i (List.mem_range.mpr hi))⟩
  · rintro ⟨a, b, c⟩
    exact ⟨by rw [a]; rfl, by rw [b, Nat.beq_refl], fun i hi => decide_eq_true (c i (List.mem_range.mp hi))⟩
theorem j0_charAt (L : Lay) (σ : Sto) {w i : Nat} (hw : w < 8) (hi : i < (cal 1 w).length) : f_J0_charAt_5068e L σ w (nI i) = some (cnth (cal 1 w) i) := by
  have hl : ∀ w, w < 8 → (cal 1 w).length ≤ 10 := by decide +kernel
  have hl := hl w hw
  have e : rC 1 w (nI i) = some (cnth (cal 1 w) i) := by
    unfold rC
    rw [if_pos (inb_nI hi (by omega)), nI_clamp (by omega)]
  have tb : ∀ w, w < 8 → ∀ i, i < 10 → (((cnth (cal 1 w) i &&& 255).toUInt32 % 65536).toInt32 = cnth (cal 1 w) i ∧ ckN 2 (cnth (cal 1 w) i) = some ()) := by decide +kernel
  obtain ⟨t1, t2⟩ := tb w hw i (by omega)
  unfold f_J0_charAt_5068e f_J0_isLatin1_aae02 f_J1_charAt_3b067 f_J0_checkIndex_df160 f_J3_checkIndex_8e157
  rw [if_neg (by decide), if_pos rfl, ck1, if_neg (nI_pos (by omega)), if_pos (nI_lt hi (by omega)), e]
  simp only [Option.bind_some, t1, t2, one_ne0, if_false]
section
variable {n : Nat} {L : Lay} {σ : Sto}
theorem x9_word (h : TPE n L σ) {s : TS} (e : TP s σ) (b : TB n s) {w : Nat} (hw : w < 8) : f_X9_isAtWord L σ 15 w = some (b3 (wrd (tx n σ) s w = true)) := by
  obtain ⟨e2, e3, e4⟩ := e
  obtain ⟨b1, b2, b3', b4⟩ := b
  have hn := h.2.2.1
  have hl : ∀ w, w < 8 → (cal 1 w).length ≤ 10 := by decide +kernel
  have hl := hl w hw
  unfold f_X9_isAtWord
  rw [e4, e3, e2, j0_length L σ rfl (by omega), Option.bind_some, ck0, pk_sub b1]
  have c1 : (nI s.2.2 = 1) = (s.2.2 = 1) := propext (nI_eq (b := 1) (by omega) (by omega))
  have c2 : (nI (s.2.1 - s.1) = nI (cal 1 w).length) = (s.2.1 - s.1 = (cal 1 w).length) := propext (nI_eq (by omega) (by omega))
  simp only [c1, c2, Option.bind_some]
  by_cases q : s.2.2 = 1
  · rw [if_pos q]
    by_cases q2 : s.2.1 - s.1 = (cal 1 w).length
    · rw [if_pos q2]
      obtain ⟨r, g1, g2⟩ : OK (f_X9_isAtWord_28 FU L σ 15 w 0) (fun r => r = b3 (wrd (tx n σ) s w = true)) := by
        refine loopI (F := fun k q => f_X9_isAtWord_28 k L σ 15 w q) (I := fun i q => q = nI i ∧ ∀ k, k < i → tx n σ (s.1 + k) = cnth (cal 1 w) k) _ (cal 1 w).length ?_ ?_ (FU_lt (by omega)) (by exact ⟨nI_0.symm, fun k hk => absurd hk (by omega)⟩)
        · rintro i K z hi ⟨rfl, hI⟩
          simp only [f_X9_isAtWord_28, j0_length L σ rfl (show (cal 1 w).length ≤ 20 by omega), e2, nI_add]
          rw [Option.bind_some, if_neg (fun u => by have := (nI_leI (by omega) (by omega)).mp u; omega), x9_byte h (by omega), Option.bind_some, j0_charAt L σ hw hi, Option.bind_some, nI_1, ck0, Option.bind_some]
          by_cases q3 : tx n σ (s.1 + i) = cnth (cal 1 w) i
          · rw [if_pos q3]
            refine Or.inl ⟨_, rfl, rfl, fun k hk => ?_⟩
            by_cases z : k = i
            · subst z; exact q3
            · exact hI k (by omega)
          · rw [if_neg q3]
            exact Or.inr ⟨0, rfl, (b3_f (fun u => q3 ((wrd_iff.mp u).2.2 i hi))).symm⟩
        · rintro K z ⟨rfl, hI⟩
          refine ⟨1, ?_, (b3_t (wrd_iff.mpr ⟨q, q2, hI⟩)).symm⟩
          simp only [f_X9_isAtWord_28, j0_length L σ rfl (show (cal 1 w).length ≤ 20 by omega)]
          rw [Option.bind_some, if_pos (nI_le (Nat.le_refl _) (by omega)), ck1, Option.bind_some]
      rw [g1, g2]
    · rw [if_neg q2, b3_f (fun u => q2 (wrd_iff.mp u).2.1)]
  · rw [if_neg q, b3_f (fun u => q (wrd_iff.mp u).1)]
theorem x12_word (h : RPE n L σ) {s : TS} (e : RT s σ) (b : TB n s) {w : Nat} (hw : w < 8) : f_X12_isWord L σ 37 w = some (b3 (wrd (rx n σ) s w = true)) := by
  obtain ⟨e2, e3, e4⟩ := e
  obtain ⟨b1, b2, b3', b4⟩ := b
  have hn := h.2.2.1
  have hl : ∀ w, w < 8 → (cal 1 w).length ≤ 10 := by decide +kernel
  have hl := hl w hw
  have z0 : f_X12_isWord_28 L σ 37 w = some 0 := by
    unfold f_X12_isWord_28 f_X12_isWord_29
    show f_X12_isWord_32 (4999 + 1) L σ 37 w 0 0 = some 0
    rw [f_X12_isWord_32]
    dsimp only
    rw [if_pos rfl, ck0, Option.bind_some]
  unfold f_X12_isWord
  rw [e4, e3, e2, j0_length L σ rfl (by omega), Option.bind_some, z0, pk_sub b1]
  have c1 : (nI s.2.2 = 1) = (s.2.2 = 1) := propext (nI_eq (b := 1) (by omega) (by omega))
  have c2 : (nI (s.2.1 - s.1) = nI (cal 1 w).length) = (s.2.1 - s.1 = (cal 1 w).length) := propext (nI_eq (by omega) (by omega))
  simp only [c1, c2]
  by_cases q : s.2.2 = 1
  · rw [if_pos q]
    by_cases q2 : s.2.1 - s.1 = (cal 1 w).length
    · rw [if_pos q2]
      unfold f_X12_isWord_29
      obtain ⟨r, g1, g2⟩ : OK (f_X12_isWord_32 FU L σ 37 w 1 0) (fun r => r = b3 (wrd (rx n σ) s w = true)) := by
        refine loopI (F := fun k (q : Int32 × Int32) => f_X12_isWord_32 k L σ 37 w q.1 q.2) (I := fun i (q : Int32 × Int32) => q.2 = nI i ∧ ((q.1 = 1 ∧ ∀ k, k < i → rx n σ (s.1 + k) = cnth (cal 1 w) k) ∨ (q.1 = 0 ∧ wrd (rx n σ) s w = false))) _ (cal 1 w).length ?_ ?_ (s := (1, 0)) (FU_lt (by omega)) (by exact ⟨nI_0.symm, Or.inl ⟨rfl, fun k hk => absurd hk (by omega)⟩⟩)
        · rintro i K ⟨z1, z2⟩ hi ⟨rfl, hI⟩
          simp only [f_X12_isWord_32, f_X12_isWord_67, j0_length L σ rfl (show (cal 1 w).length ≤ 20 by omega), e2, nI_add]
          rcases hI with ⟨rfl, hI⟩ | ⟨rfl, hI⟩
          · rw [if_neg (by decide), Option.bind_some, if_neg (fun u => by have := (nI_leI (by omega) (by omega)).mp u; omega), x12_at h (by omega), Option.bind_some, if_pos (by omega), j0_charAt L σ hw hi, Option.bind_some, nI_1]
            by_cases q3 : rx n σ (s.1 + i) = cnth (cal 1 w) i
            · rw [if_pos q3]
              refine Or.inl ⟨(1, nI (i + 1)), rfl, rfl, Or.inl ⟨rfl, fun k hk => ?_⟩⟩
              by_cases z : k = i
              · subst z; exact q3
              · exact hI k (by omega)
            · rw [if_neg q3]
              exact Or.inl ⟨(0, nI (i + 1)), rfl, rfl, Or.inr ⟨rfl, pf_of (fun u => q3 ((wrd_iff.mp u).2.2 i hi))⟩⟩
          · rw [if_pos rfl, ck0, Option.bind_some]
            exact Or.inr ⟨0, rfl, by rw [hI, b3_f (by decide)]⟩
        · rintro K ⟨z1, z2⟩ ⟨rfl, hI⟩
          simp only [f_X12_isWord_32, j0_length L σ rfl (show (cal 1 w).length ≤ 20 by omega)]
          rw [Option.bind_some, if_pos (nI_le (Nat.le_refl _) (by omega)), ite_self]
          rcases hI with ⟨rfl, hI⟩ | ⟨rfl, hI⟩
          · exact ⟨1, by rw [ck1, Option.bind_some], (b3_t (wrd_iff.mpr ⟨q, q2, hI⟩)).symm⟩
          · exact ⟨0, by rw [ck0, Option.bind_some], by rw [hI, b3_f (by decide)]⟩
      rw [g1, g2]
    · rw [if_neg q2, b3_f (fun u => q2 (wrd_iff.mp u).2.1)]
  · rw [if_neg q, b3_f (fun u => q (wrd_iff.mp u).1)]
end
/-! names -/
theorem nm_eq : ∀ a, a < 128 → (hasC 0 10 (nI a) = nmB (nI a) ∧ hasC 1 3 (nI a) = nmN (nI a)) := by decide +kernel
theorem x1_isNameHere (L : Lay) (σ : Sto) {dw p a : Nat} (hp : σ.1 dw 5 = nI p) (hp2 : p < 10) (ha : a < 128) : f_X1_isNameHere L σ dw (nI a) = some (b3 (nmo (Nat.beq p 1) (nI a) = true)) := by
  obtain ⟨r, e, q⟩ := j0_indexOf L σ (w := 1) (n := 3) rfl (by omega) (by omega) ha
  obtain ⟨t1, t2⟩ := nm_eq a ha
  unfold f_X1_isNameHere nmo
  rw [x1_isBallotName L σ ha, Option.bind_some, hp, e, Option.bind_some, ck0, ck1, Option.bind_some, Option.bind_some, t1]
  rw [t2] at q
  by_cases z : nmB (nI a) = true
  · rw [b3_t z, if_neg (by decide), b3_t (by rw [z]; rfl)]
  · rw [b3_f z, if_pos rfl, pf_of z]
    by_cases y : p = 1
    · subst y
      rw [if_pos (show nI 1 = 1 from rfl)]
      by_cases x : nmN (nI a) = true
      · rw [if_neg (fun u => q.mp u x), b3_t (by rw [x]; rfl)]
      · rw [if_pos (q.mpr x), b3_f (by rw [pf_of x]; decide)]
    · have y' : Nat.beq p 1 = false := pf_of (fun u => y (Nat.eq_of_beq_eq_true u))
      rw [if_neg (show ¬ nI p = 1 from fun u => y ((nI_eq (b := 1) (by omega) (by omega)).mp u)), y', b3_f (by simp)]
