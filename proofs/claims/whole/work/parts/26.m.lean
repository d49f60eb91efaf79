def tt_J0_checkIndex_df160 (pc : Nat) : TI := bif Nat.blt pc 5 then (bif Nat.blt pc 1 then (bif Nat.beq pc 0 then (.iload_n 0, 1, (0, 0, 0), 0, 0, []) else TN) else (bif Nat.blt pc 2 then (bif Nat.beq pc 1 then (.iload_n 1, 2, (1, 0, 0), 0, 0, []) else TN) else (bif Nat.beq pc 2 then (.getstatic 1053, 5, (1, 0, 3), 0, 0, []) else TN))) else (bif Nat.blt pc 8 then (bif Nat.beq pc 5 then (.invokestatic 1059, 8, (28, 3, 0), 0, 0, []) else TN) else (bif Nat.blt pc 9 then (bif Nat.beq pc 8 then (.pop, 9, (0, 0, 0), 0, 0, []) else TN) else (bif Nat.beq pc 9 then (.return_, 10, (0, 0, 0), 0, 0, []) else TN)))
def tb_J0_checkIndex_df160 (pc : Nat) : TI := bif Nat.ble 10 pc then TN else tt_J0_checkIndex_df160 pc
theorem ok_J0_checkIndex_df160 : tOK 14 (decide ("checkIndex" = "<init>")) cJ0_checkIndex_df160 tb_J0_checkIndex_df160 := tOK_of 10 tn_of (by decide +kernel)
def f_J0_checkIndex_df160 (L : Lay) (σ : Sto) (a0 : Int32) (a1 : Int32) : Option Unit := (f_J3_checkIndex_8e157 L σ a0 a1 0).bind fun r1 => some ()
def ad_J0_checkIndex_df160 : ADT := fun O L σ as k => match as with
  | [.inl a0, .inl a1] => (f_J0_checkIndex_df160 L σ a0 a1).bind fun _ => k none L σ
  | _ => none
abbrev cl_J0_checkIndex_df160 {O : Type} : CLT O := (clc 28 ad_J3_checkIndex_8e157 cl0)
theorem hc_J0_checkIndex_df160 (G : GT) (l : Launch) {d : Nat} (hd : 2 ≤ d) {O : Type} : HCL G l (true, true) d (cl_J0_checkIndex_df160 (O := O)) := (hclc (ca_J3_checkIndex_8e157 G l (d := 1) (Nat.le_refl _)) (fun _ => rfl) (fun _ => rfl) (by omega) hcl0)
theorem rt_J0_checkIndex_df160 : retOK (6, 0) none := ⟨fun h => absurd h (by decide), fun h => absurd h (by decide), fun _ => rfl⟩
set_option maxRecDepth 20000 in
theorem ca_J0_checkIndex_df160 (G : GT) (l : Launch) {d : Nat} (hd : 2 ≤ d) : CA G l 4 (true, true) d ad_J0_checkIndex_df160 := by
  intro O L σ as k o h hW hok
  unfold ad_J0_checkIndex_df160 at h
  split at h
  · have hA0 := h
    obtain ⟨r, hr, hk⟩ := Option.bind_eq_some_iff.mp hA0
    exact ca_of (q := (dcPV L σ) r) (by decide) rfl (Nat.le_of_ble_eq_true rfl) hk (fun _ => rfl) (fun _ => rfl) (exs (sp := []) (K := k0) (L0 := L) (σ0 := σ) ok_J0_checkIndex_df160 rt_J0_checkIndex_df160 (by omega) (hc_J0_checkIndex_df160 G l hd) (hrPV rfl rfl) hk0 9 hr (inv0 hW hok))
  · cases h
def tt_J1_charAt_3b067 (pc : Nat) : TI := bif Nat.blt pc 7 then (bif Nat.blt pc 2 then (bif Nat.blt pc 1 then (bif Nat.beq pc 0 then (.iload_n 1, 1, (1, 0, 0), 0, 0, []) else TN) else (bif Nat.beq pc 1 then (.aload_n 0, 2, (0, 0, 0), 0, 0, []) else TN)) else (bif Nat.blt pc 3 then (bif Nat.beq pc 2 then (.arraylength, 3, (0, 0, 0), 0, 0, []) else TN) else (bif Nat.blt pc 6 then (bif Nat.beq pc 3 then (.invokestatic 9, 6, (4, 2, 0), 0, 0, []) else TN) else (bif Nat.beq pc 6 then (.aload_n 0, 7, (0, 0, 0), 0, 0, []) else TN)))) else (bif Nat.blt pc 12 then (bif Nat.blt pc 8 then (bif Nat.beq pc 7 then (.iload_n 1, 8, (1, 0, 0), 0, 0, []) else TN) else (bif Nat.blt pc 9 then (bif Nat.beq pc 8 then (.baload, 9, (0, 0, 0), 0, 0, []) else TN) else (bif Nat.beq pc 9 then (.sipush 255, 12, (0, 0, 0), 255, 0, []) else TN))) else (bif Nat.blt pc 13 then (bif Nat.beq pc 12 then (.iand, 13, (0, 0, 0), 0, 0, []) else TN) else (bif Nat.blt pc 14 then (bif Nat.beq pc 13 then (.i2c, 14, (0, 0, 0), 0, 0, []) else TN) else (bif Nat.beq pc 14 then (.ireturn, 15, (0, 0, 0), 0, 0, []) else TN))))
def tb_J1_charAt_3b067 (pc : Nat) : TI := bif Nat.ble 15 pc then TN else tt_J1_charAt_3b067 pc
theorem ok_J1_charAt_3b067 : tOK 15 (decide ("charAt" = "<init>")) cJ1_charAt_3b067 tb_J1_charAt_3b067 := tOK_of 15 tn_of (by decide +kernel)
def f_J1_charAt_3b067 (L : Lay) (σ : Sto) (a0 : Nat) (a1 : Int32) : Option Int32 := (f_J0_checkIndex_df160 L σ a1 (nI (cal 1 a0).length)).bind fun _ => (rC 1 a0 a1).bind fun v1 => (ckN 2 (((v1 &&& 255).toUInt32 % 65536).toInt32)).bind fun _ => some (((v1 &&& 255).toUInt32 % 65536).toInt32)
def ad_J1_charAt_3b067 : ADT := fun O L σ as k => match as with
  | [.inr (.inr (.inr (ta0, a0))), .inl a1] => bif Nat.beq ta0 1 && true then (f_J1_charAt_3b067 L σ a0 a1).bind fun r => k (some (vI r)) L σ else none
  | _ => none
abbrev cl_J1_charAt_3b067 {O : Type} : CLT O := (clc 4 ad_J0_checkIndex_df160 cl0)
theorem hc_J1_charAt_3b067 (G : GT) (l : Launch) {d : Nat} (hd : 3 ≤ d) {O : Type} : HCL G l (true, true) d (cl_J1_charAt_3b067 (O := O)) := (hclc (ca_J0_checkIndex_df160 G l (d := 2) (Nat.le_refl _)) (fun _ => rfl) (fun _ => rfl) (by omega) hcl0)
theorem rt_J1_charAt_3b067 : retOK (2, 0) (some .char) := ⟨fun _ => rfl, fun h => absurd h (by decide), fun h => absurd h (by decide)⟩
set_option maxRecDepth 20000 in
theorem ca_J1_charAt_3b067 (G : GT) (l : Launch) {d : Nat} (hd : 3 ≤ d) : CA G l 15 (true, true) d ad_J1_charAt_3b067 := by
  intro O L σ as k o h hW hok
  unfold ad_J1_charAt_3b067 at h
  split at h
  · obtain ⟨hq0, hA0⟩ := bif_s h
    obtain ⟨e0, hq1⟩ := beq_and hq0
    subst e0
    obtain ⟨r, hr, hk⟩ := Option.bind_eq_some_iff.mp hA0
    exact ca_of (q := (dcPI L σ) r) (by decide) rfl (Nat.le_of_ble_eq_true rfl) hk (fun _ => rfl) (fun _ => rfl) (exs (sp := []) (K := k0) (L0 := L) (σ0 := σ) ok_J1_charAt_3b067 rt_J1_charAt_3b067 (by omega) (hc_J1_charAt_3b067 G l hd) (hrPI rfl rfl) hk0 14 hr (inv0 hW hok))
  · cases h
def tt_J0_charAt_5068e (pc : Nat) : TI := bif Nat.blt pc 12 then (bif Nat.blt pc 7 then (bif Nat.blt pc 1 then (bif Nat.beq pc 0 then (.aload_n 0, 1, (0, 0, 0), 0, 0, []) else TN) else (bif Nat.blt pc 4 then (bif Nat.beq pc 1 then (.invokevirtual 492, 4, (8, 0, 50), 0, 0, []) else TN) else (bif Nat.beq pc 4 then (.ifCond .eq 12, 7, (16, 0, 0), 0, 0, []) else TN))) else (bif Nat.blt pc 8 then (bif Nat.beq pc 7 then (.aload_n 0, 8, (0, 0, 0), 0, 0, []) else TN) else (bif Nat.blt pc 11 then (bif Nat.beq pc 8 then (.getfield 9, 11, (50, 0, 0), 0, 0, []) else TN) else (bif Nat.beq pc 11 then (.iload_n 1, 12, (1, 0, 0), 0, 0, []) else TN)))) else (bif Nat.blt pc 17 then (bif Nat.blt pc 15 then (bif Nat.beq pc 12 then (.invokestatic 495, 15, (15, 2, 0), 0, 0, []) else TN) else (bif Nat.blt pc 16 then (bif Nat.beq pc 15 then (.ireturn, 16, (0, 0, 0), 0, 0, []) else TN) else (bif Nat.beq pc 16 then (.aload_n 0, 17, (0, 0, 0), 0, 0, []) else TN))) else (bif Nat.blt pc 21 then (bif Nat.blt pc 20 then (bif Nat.beq pc 17 then (.getfield 9, 20, (50, 0, 0), 0, 0, []) else TN) else (bif Nat.beq pc 20 then (.iload_n 1, 21, (1, 0, 0), 0, 0, []) else TN)) else (bif Nat.blt pc 24 then (bif Nat.beq pc 21 then (.invokestatic 498, 24, (18, 2, 0), 0, 0, []) else TN) else (bif Nat.beq pc 24 then (.ireturn, 25, (0, 0, 0), 0, 0, []) else TN))))
def tb_J0_charAt_5068e (pc : Nat) : TI := bif Nat.ble 25 pc then TN else tt_J0_charAt_5068e pc
theorem ok_J0_charAt_5068e : tOK 14 (decide ("charAt" = "<init>")) cJ0_charAt_5068e tb_J0_charAt_5068e := tOK_of 25 tn_of (by decide +kernel)
def f_J0_charAt_5068e (L : Lay) (σ : Sto) (a0 : Nat) (a1 : Int32) : Option Int32 := (f_J0_isLatin1_aae02 L σ a0).bind fun r1 => (if r1 = 0 then none else (f_J1_charAt_3b067 L σ a0 a1).bind fun r2 => (ckN 2 r2).bind fun _ => some r2)
def ad_J0_charAt_5068e : ADT := fun O L σ as k => match as with
  | [.inr (.inr (.inr (ta0, a0))), .inl a1] => bif Nat.beq ta0 0 && true then (f_J0_charAt_5068e L σ a0 a1).bind fun r => k (some (vI r)) L σ else none
  | _ => none
abbrev cl_J0_charAt_5068e {O : Type} : CLT O := (clc 8 ad_J0_isLatin1_aae02 (clc 15 ad_J1_charAt_3b067 cl0))
theorem hc_J0_charAt_5068e (G : GT) (l : Launch) {d : Nat} (hd : 4 ≤ d) {O : Type} : HCL G l (true, true) d (cl_J0_charAt_5068e (O := O)) := (hclc (ca_J0_isLatin1_aae02 G l (d := 1) (Nat.le_refl _)) (fun _ => rfl) (fun _ => rfl) (by omega) (hclc (ca_J1_charAt_3b067 G l (d := 3) (Nat.le_refl _)) (fun _ => rfl) (fun _ => rfl) (by omega) hcl0))
theorem rt_J0_charAt_5068e : retOK (2, 0) (some .char) := ⟨fun _ => rfl, fun h => absurd h (by decide), fun h => absurd h (by decide)⟩
set_option maxRecDepth 20000 in
theorem ca_J0_charAt_5068e (G : GT) (l : Launch) {d : Nat} (hd : 4 ≤ d) : CA G l 2 (true, true) d ad_J0_charAt_5068e := by
  intro O L σ as k o h hW hok
  unfold ad_J0_charAt_5068e at h
  split at h
  · obtain ⟨hq0, hA0⟩ := bif_s h
    obtain ⟨e0, hq1⟩ := beq_and hq0
    subst e0
    obtain ⟨r, hr, hk⟩ := Option.bind_eq_some_iff.mp hA0
    exact ca_of (q := (dcPI L σ) r) (by decide) rfl (Nat.le_of_ble_eq_true rfl) hk (fun _ => rfl) (fun _ => rfl) (exs (sp := []) (K := k0) (L0 := L) (σ0 := σ) ok_J0_charAt_5068e rt_J0_charAt_5068e (by omega) (hc_J0_charAt_5068e G l hd) (hrPI rfl rfl) hk0 16 hr (inv0 hW hok))
  · cases h
def tt_X9_isAtWord (pc : Nat) : TI := bif Nat.blt pc 30 then (bif Nat.blt pc 17 then (bif Nat.blt pc 8 then (bif Nat.blt pc 4 then (bif Nat.blt pc 1 then (bif Nat.beq pc 0 then (.aload_n 0, 1, (0, 0, 0), 0, 0, []) else TN) else (bif Nat.beq pc 1 then (.getfield 33, 4, (9, 4, 0), 0, 0, []) else TN)) else (bif Nat.blt pc 5 then (bif Nat.beq pc 4 then (.iconst 1, 5, (0, 0, 0), 1, 0, []) else TN) else (bif Nat.beq pc 5 then (.if_icmp .ne 19, 8, (24, 0, 0), 0, 0, []) else TN))) else (bif Nat.blt pc 12 then (bif Nat.blt pc 9 then (bif Nat.beq pc 8 then (.aload_n 0, 9, (0, 0, 0), 0, 0, []) else TN) else (bif Nat.beq pc 9 then (.getfield 17, 12, (9, 3, 0), 0, 0, []) else TN)) else (bif Nat.blt pc 13 then (bif Nat.beq pc 12 then (.aload_n 0, 13, (0, 0, 0), 0, 0, []) else TN) else (bif Nat.blt pc 16 then (bif Nat.beq pc 13 then (.getfield 23, 16, (9, 2, 0), 0, 0, []) else TN) else (bif Nat.beq pc 16 then (.isub, 17, (0, 0, 0), 0, 0, []) else TN))))) else (bif Nat.blt pc 25 then (bif Nat.blt pc 21 then (bif Nat.blt pc 18 then (bif Nat.beq pc 17 then (.aload_n 1, 18, (1, 0, 0), 0, 0, []) else TN) else (bif Nat.beq pc 18 then (.invokevirtual 49, 21, (9, 0, 50), 0, 0, []) else TN)) else (bif Nat.blt pc 24 then (bif Nat.beq pc 21 then (.if_icmp .eq 5, 24, (26, 0, 0), 0, 0, []) else TN) else (bif Nat.beq pc 24 then (.iconst 0, 25, (0, 0, 0), 0, 0, []) else TN))) else (bif Nat.blt pc 27 then (bif Nat.blt pc 26 then (bif Nat.beq pc 25 then (.ireturn, 26, (0, 0, 0), 0, 0, []) else TN) else (bif Nat.beq pc 26 then (.iconst 0, 27, (0, 0, 0), 0, 0, []) else TN)) else (bif Nat.blt pc 28 then (bif Nat.beq pc 27 then (.istore_n 2, 28, (2, 0, 0), 0, 0, []) else TN) else (bif Nat.blt pc 29 then (bif Nat.beq pc 28 then (.iload_n 2, 29, (2, 0, 0), 0, 0, []) else TN) else (bif Nat.beq pc 29 then (.aload_n 1, 30, (1, 0, 0), 0, 0, []) else TN)))))) else (bif Nat.blt pc 47 then (bif Nat.blt pc 38 then (bif Nat.blt pc 36 then (bif Nat.blt pc 33 then (bif Nat.beq pc 30 then (.invokevirtual 49, 33, (9, 0, 50), 0, 0, []) else TN) else (bif Nat.beq pc 33 then (.if_icmp .ge 29, 36, (62, 0, 0), 0, 0, []) else TN)) else (bif Nat.blt pc 37 then (bif Nat.beq pc 36 then (.aload_n 0, 37, (0, 0, 0), 0, 0, []) else TN) else (bif Nat.beq pc 37 then (.aload_n 0, 38, (0, 0, 0), 0, 0, []) else TN))) else (bif Nat.blt pc 42 then (bif Nat.blt pc 41 then (bif Nat.beq pc 38 then (.getfield 23, 41, (9, 2, 0), 0, 0, []) else TN) else (bif Nat.beq pc 41 then (.iload_n 2, 42, (2, 0, 0), 0, 0, []) else TN)) else (bif Nat.blt pc 43 then (bif Nat.beq pc 42 then (.iadd, 43, (0, 0, 0), 0, 0, []) else TN) else (bif Nat.blt pc 46 then (bif Nat.beq pc 43 then (.invokevirtual 26, 46, (271, 1, 9), 0, 0, []) else TN) else (bif Nat.beq pc 46 then (.aload_n 1, 47, (1, 0, 0), 0, 0, []) else TN))))) else (bif Nat.blt pc 55 then (bif Nat.blt pc 51 then (bif Nat.blt pc 48 then (bif Nat.beq pc 47 then (.iload_n 2, 48, (2, 0, 0), 0, 0, []) else TN) else (bif Nat.beq pc 48 then (.invokevirtual 54, 51, (2, 1, 50), 0, 0, []) else TN)) else (bif Nat.blt pc 54 then (bif Nat.beq pc 51 then (.if_icmp .eq 5, 54, (56, 0, 0), 0, 0, []) else TN) else (bif Nat.beq pc 54 then (.iconst 0, 55, (0, 0, 0), 0, 0, []) else TN))) else (bif Nat.blt pc 59 then (bif Nat.blt pc 56 then (bif Nat.beq pc 55 then (.ireturn, 56, (0, 0, 0), 0, 0, []) else TN) else (bif Nat.beq pc 56 then (.iinc 2 1, 59, (2, 0, 0), 1, 0, []) else TN)) else (bif Nat.blt pc 62 then (bif Nat.beq pc 59 then (.goto (-31), 62, (28, 0, 0), 0, 0, []) else TN) else (bif Nat.blt pc 63 then (bif Nat.beq pc 62 then (.iconst 1, 63, (0, 0, 0), 1, 0, []) else TN) else (bif Nat.beq pc 63 then (.ireturn, 64, (0, 0, 0), 0, 0, []) else TN))))))
def tb_X9_isAtWord (pc : Nat) : TI := bif Nat.ble 64 pc then TN else tt_X9_isAtWord pc
theorem ok_X9_isAtWord : tOK 9 (decide ("isAtWord" = "<init>")) cX9_isAtWord tb_X9_isAtWord := tOK_of 64 tn_of (by decide +kernel)
def f_X9_isAtWord_28 : Nat → Lay → Sto → Nat → Nat → Int32 → Option Int32
  | 0 => fun _ _ _ _ _ => none
  | k + 1 => fun L σ a0 a1 a2 => (f_J0_length_8abf5 L σ a1).bind fun r1 => (if r1 ≤ a2 then (ckN 1 1).bind fun _ => some 1 else (f_X9_byteAt L σ a0 ((σ.1 a0 2) + a2)).bind fun r2 => (f_J0_charAt_5068e L σ a1 a2).bind fun r3 => (if r2 = r3 then (f_X9_isAtWord_28 k) L σ a0 a1 (a2 + 1) else (ckN 1 0).bind fun _ => some 0))
def A_X9_isAtWord_28 (c : Lay → Sto → Nat → Nat → Int32 → Option Int32) (lc : List (Option AV)) (st : List AV) (L : Lay) (σ : Sto) : Option Int32 := match lc, st with
  | [some (.inr (.inr (.inl (ta0, some a0)))), some (.inr (.inr (.inr (ta1, a1)))), some (.inl a2)], [] => bif Nat.beq ta0 9 && (Nat.beq ta1 0 && true) then c L σ a0 a1 a2 else none
  | _, _ => none
def f_X9_isAtWord (L : Lay) (σ : Sto) (a0 : Nat) (a1 : Nat) : Option Int32 := (if (σ.1 a0 4) = 1 then (f_J0_length_8abf5 L σ a1).bind fun r4 => (if ((σ.1 a0 3) - (σ.1 a0 2)) = r4 then (f_X9_isAtWord_28 FU) L σ a0 a1 0 else (ckN 1 0).bind fun _ => some 0) else (ckN 1 0).bind fun _ => some 0)
def ad_X9_isAtWord : ADT := fun O L σ as k => match as with
  | [.inr (.inr (.inl (ta0, some a0))), .inr (.inr (.inr (ta1, a1)))] => bif Nat.beq ta0 9 && (Nat.beq ta1 0 && true) then (f_X9_isAtWord L σ a0 a1).bind fun r => k (some (vI r)) L σ else none
  | _ => none
abbrev cl_X9_isAtWord {O : Type} : CLT O := (clc 9 ad_J0_length_8abf5 (clc 271 ad_X9_byteAt (clc 2 ad_J0_charAt_5068e cl0)))
theorem hc_X9_isAtWord (G : GT) (l : Launch) {d : Nat} (hd : 5 ≤ d) {O : Type} : HCL G l (true, true) d (cl_X9_isAtWord (O := O)) := (hclc (ca_J0_length_8abf5 G l (d := 2) (Nat.le_refl _)) (fun _ => rfl) (fun _ => rfl) (by omega) (hclc (ca_X9_byteAt G l (d := 1) (Nat.le_refl _)) (fun _ => rfl) (fun _ => rfl) (by omega) (hclc (ca_J0_charAt_5068e G l (d := 4) (Nat.le_refl _)) (fun _ => rfl) (fun _ => rfl) (by omega) hcl0)))
theorem rt_X9_isAtWord : retOK (1, 0) (some .boolean) := ⟨fun _ => rfl, fun h => absurd h (by decide), fun h => absurd h (by decide)⟩
set_option maxRecDepth 20000 in
theorem b_X9_isAtWord_28 {G : GT} {l : Launch} {d : Nat} {L0 : Lay} {σ0 : Sto} (hd : 5 ≤ d) : ∀ k : Nat, HF G l 9 "isAtWord" cX9_isAtWord 3 (some .boolean) d L0 σ0 (true, true) (dcPI L0 σ0) 28 (A_X9_isAtWord_28 (f_X9_isAtWord_28 k))
  | 0 => by
    intro lc st L σ o h hI
    unfold A_X9_isAtWord_28 at h
    split at h
    · obtain ⟨_, hA1⟩ := bif_s h
      cases hA1
    · cases h
  | k + 1 => by
    have ih := b_X9_isAtWord_28 (G := G) (l := l) (d := d) (L0 := L0) (σ0 := σ0) hd k
    intro lc st L σ o h hI
    unfold A_X9_isAtWord_28 at h
    split at h
    · obtain ⟨hq0, hA1⟩ := bif_s h
      obtain ⟨e0, hq1⟩ := beq_and hq0
      obtain ⟨e1, hq2⟩ := beq_and hq1
      subst e0
      subst e1
      exact exs (sp := [28]) (K := (kc 28 (A_X9_isAtWord_28 (f_X9_isAtWord_28 k)) k0)) ok_X9_isAtWord rt_X9_isAtWord (by omega) (hc_X9_isAtWord G l hd) (hrPI rfl rfl) (hkc ih hk0) 39 hA1 hI
    · cases h
set_option maxRecDepth 20000 in
theorem ca_X9_isAtWord (G : GT) (l : Launch) {d : Nat} (hd : 5 ≤ d) : CA G l 275 (true, true) d ad_X9_isAtWord := by
  intro O L σ as k o h hW hok
  unfold ad_X9_isAtWord at h
  split at h
  · obtain ⟨hq0, hA0⟩ := bif_s h
    obtain ⟨e0, hq1⟩ := beq_and hq0
    obtain ⟨e1, hq2⟩ := beq_and hq1
    subst e0
    subst e1
    obtain ⟨r, hr, hk⟩ := Option.bind_eq_some_iff.mp hA0
    exact ca_of (q := (dcPI L σ) r) (by decide) rfl (Nat.le_of_ble_eq_true rfl) hk (fun _ => rfl) (fun _ => rfl) (exs (sp := [28]) (K := (kc 28 (A_X9_isAtWord_28 (f_X9_isAtWord_28 FU)) k0)) (L0 := L) (σ0 := σ) ok_X9_isAtWord rt_X9_isAtWord (by omega) (hc_X9_isAtWord G l hd) (hrPI rfl rfl) (hkc (b_X9_isAtWord_28 hd FU) hk0) 39 hr (inv0 hW hok))
  · cases h
def tt_X9_letterAtHand (pc : Nat) : TI := bif Nat.blt pc 17 then (bif Nat.blt pc 8 then (bif Nat.blt pc 4 then (bif Nat.blt pc 1 then (bif Nat.beq pc 0 then (.aload_n 0, 1, (0, 0, 0), 0, 0, []) else TN) else (bif Nat.beq pc 1 then (.getfield 33, 4, (9, 4, 0), 0, 0, []) else TN)) else (bif Nat.blt pc 5 then (bif Nat.beq pc 4 then (.iconst 1, 5, (0, 0, 0), 1, 0, []) else TN) else (bif Nat.beq pc 5 then (.if_icmp .ne 28, 8, (33, 0, 0), 0, 0, []) else TN))) else (bif Nat.blt pc 12 then (bif Nat.blt pc 9 then (bif Nat.beq pc 8 then (.aload_n 0, 9, (0, 0, 0), 0, 0, []) else TN) else (bif Nat.beq pc 9 then (.getfield 17, 12, (9, 3, 0), 0, 0, []) else TN)) else (bif Nat.blt pc 13 then (bif Nat.beq pc 12 then (.aload_n 0, 13, (0, 0, 0), 0, 0, []) else TN) else (bif Nat.blt pc 16 then (bif Nat.beq pc 13 then (.getfield 23, 16, (9, 2, 0), 0, 0, []) else TN) else (bif Nat.beq pc 16 then (.isub, 17, (0, 0, 0), 0, 0, []) else TN))))) else (bif Nat.blt pc 26 then (bif Nat.blt pc 21 then (bif Nat.blt pc 18 then (bif Nat.beq pc 17 then (.iconst 1, 18, (0, 0, 0), 1, 0, []) else TN) else (bif Nat.beq pc 18 then (.if_icmp .ne 15, 21, (33, 0, 0), 0, 0, []) else TN)) else (bif Nat.blt pc 22 then (bif Nat.beq pc 21 then (.aload_n 0, 22, (0, 0, 0), 0, 0, []) else TN) else (bif Nat.blt pc 23 then (bif Nat.beq pc 22 then (.aload_n 0, 23, (0, 0, 0), 0, 0, []) else TN) else (bif Nat.beq pc 23 then (.getfield 23, 26, (9, 2, 0), 0, 0, []) else TN)))) else (bif Nat.blt pc 30 then (bif Nat.blt pc 29 then (bif Nat.beq pc 26 then (.invokevirtual 26, 29, (271, 1, 9), 0, 0, []) else TN) else (bif Nat.beq pc 29 then (.i2c, 30, (0, 0, 0), 0, 0, []) else TN)) else (bif Nat.blt pc 33 then (bif Nat.beq pc 30 then (.goto 4, 33, (34, 0, 0), 0, 0, []) else TN) else (bif Nat.blt pc 34 then (bif Nat.beq pc 33 then (.iconst 0, 34, (0, 0, 0), 0, 0, []) else TN) else (bif Nat.beq pc 34 then (.ireturn, 35, (0, 0, 0), 0, 0, []) else TN)))))
def tb_X9_letterAtHand (pc : Nat) : TI := bif Nat.ble 35 pc then TN else tt_X9_letterAtHand pc
theorem ok_X9_letterAtHand : tOK 9 (decide ("letterAtHand" = "<init>")) cX9_letterAtHand tb_X9_letterAtHand := tOK_of 35 tn_of (by decide +kernel)
def f_X9_letterAtHand (L : Lay) (σ : Sto) (a0 : Nat) : Option Int32 := (if (σ.1 a0 4) = 1 then (if ((σ.1 a0 3) - (σ.1 a0 2)) = 1 then (f_X9_byteAt L σ a0 (σ.1 a0 2)).bind fun r1 => (ckN 2 ((r1.toUInt32 % 65536).toInt32)).bind fun _ => some ((r1.toUInt32 % 65536).toInt32) else (ckN 2 0).bind fun _ => some 0) else (ckN 2 0).bind fun _ => some 0)
def ad_X9_letterAtHand : ADT := fun O L σ as k => match as with
  | [.inr (.inr (.inl (ta0, some a0)))] => bif Nat.beq ta0 9 && true then (f_X9_letterAtHand L σ a0).bind fun r => k (some (vI r)) L σ else none
  | _ => none
abbrev cl_X9_letterAtHand {O : Type} : CLT O := (clc 271 ad_X9_byteAt cl0)
theorem hc_X9_letterAtHand (G : GT) (l : Launch) {d : Nat} (hd : 2 ≤ d) {O : Type} : HCL G l (true, true) d (cl_X9_letterAtHand (O := O)) := (hclc (ca_X9_byteAt G l (d := 1) (Nat.le_refl _)) (fun _ => rfl) (fun _ => rfl) (by omega) hcl0)
theorem rt_X9_letterAtHand : retOK (2, 0) (some .char) := ⟨fun _ => rfl, fun h => absurd h (by decide), fun h => absurd h (by decide)⟩
set_option maxRecDepth 20000 in
theorem ca_X9_letterAtHand (G : GT) (l : Launch) {d : Nat} (hd : 2 ≤ d) : CA G l 277 (true, true) d ad_X9_letterAtHand := by
  intro O L σ as k o h hW hok
  unfold ad_X9_letterAtHand at h
  split at h
  · obtain ⟨hq0, hA0⟩ := bif_s h
    obtain ⟨e0, hq1⟩ := beq_and hq0
    subst e0
    obtain ⟨r, hr, hk⟩ := Option.bind_eq_some_iff.mp hA0
    exact ca_of (q := (dcPI L σ) r) (by decide) rfl (Nat.le_of_ble_eq_true rfl) hk (fun _ => rfl) (fun _ => rfl) (exs (sp := []) (K := k0) (L0 := L) (σ0 := σ) ok_X9_letterAtHand rt_X9_letterAtHand (by omega) (hc_X9_letterAtHand G l hd) (hrPI rfl rfl) hk0 22 hr (inv0 hW hok))
  · cases h
def tt_J1_canEncode_9a6ad (pc : Nat) : TI := bif Nat.blt pc 8 then (bif Nat.blt pc 4 then (bif Nat.blt pc 1 then (bif Nat.beq pc 0 then (.iload_n 0, 1, (0, 0, 0), 0, 0, []) else TN) else (bif Nat.beq pc 1 then (.ifCond .lt 14, 4, (15, 0, 0), 0, 0, []) else TN)) else (bif Nat.blt pc 5 then (bif Nat.beq pc 4 then (.iload_n 0, 5, (0, 0, 0), 0, 0, []) else TN) else (bif Nat.beq pc 5 then (.sipush 255, 8, (0, 0, 0), 255, 0, []) else TN))) else (bif Nat.blt pc 12 then (bif Nat.blt pc 11 then (bif Nat.beq pc 8 then (.if_icmp .gt 7, 11, (15, 0, 0), 0, 0, []) else TN) else (bif Nat.beq pc 11 then (.iconst 1, 12, (0, 0, 0), 1, 0, []) else TN)) else (bif Nat.blt pc 15 then (bif Nat.beq pc 12 then (.goto 4, 15, (16, 0, 0), 0, 0, []) else TN) else (bif Nat.blt pc 16 then (bif Nat.beq pc 15 then (.iconst 0, 16, (0, 0, 0), 0, 0, []) else TN) else (bif Nat.beq pc 16 then (.ireturn, 17, (0, 0, 0), 0, 0, []) else TN))))
def tb_J1_canEncode_9a6ad (pc : Nat) : TI := bif Nat.ble 17 pc then TN else tt_J1_canEncode_9a6ad pc
theorem ok_J1_canEncode_9a6ad : tOK 15 (decide ("canEncode" = "<init>")) cJ1_canEncode_9a6ad tb_J1_canEncode_9a6ad := tOK_of 17 tn_of (by decide +kernel)
def f_J1_canEncode_9a6ad (L : Lay) (σ : Sto) (a0 : Int32) : Option Int32 := (if a0 < 0 then (ckN 1 0).bind fun _ => some 0 else (if 255 < a0 then (ckN 1 0).bind fun _ => some 0 else (ckN 1 1).bind fun _ => some 1))
def ad_J1_canEncode_9a6ad : ADT := fun O L σ as k => match as with
  | [.inl a0] => (f_J1_canEncode_9a6ad L σ a0).bind fun r => k (some (vI r)) L σ
  | _ => none
abbrev cl_J1_canEncode_9a6ad {O : Type} : CLT O := cl0
theorem hc_J1_canEncode_9a6ad (G : GT) (l : Launch) {d : Nat} (hd : 1 ≤ d) {O : Type} : HCL G l (true, true) d (cl_J1_canEncode_9a6ad (O := O)) := hcl0
theorem rt_J1_canEncode_9a6ad : retOK (1, 0) (some .boolean) := ⟨fun _ => rfl, fun h => absurd h (by decide), fun h => absurd h (by decide)⟩
set_option maxRecDepth 20000 in
theorem ca_J1_canEncode_9a6ad (G : GT) (l : Launch) {d : Nat} (hd : 1 ≤ d) : CA G l 14 (true, true) d ad_J1_canEncode_9a6ad := by
  intro O L σ as k o h hW hok
  unfold ad_J1_canEncode_9a6ad at h
  split at h
  · have hA0 := h
    obtain ⟨r, hr, hk⟩ := Option.bind_eq_some_iff.mp hA0
    exact ca_of (q := (dcPI L σ) r) (by decide) rfl (Nat.le_of_ble_eq_true rfl) hk (fun _ => rfl) (fun _ => rfl) (exs (sp := []) (K := k0) (L0 := L) (σ0 := σ) ok_J1_canEncode_9a6ad rt_J1_canEncode_9a6ad (by omega) (hc_J1_canEncode_9a6ad G l hd) (hrPI rfl rfl) hk0 12 hr (inv0 hW hok))
  · cases h
def tt_J1_indexOfChar_4cfef (pc : Nat) : TI := bif Nat.blt pc 14 then (bif Nat.blt pc 5 then (bif Nat.blt pc 2 then (bif Nat.blt pc 1 then (bif Nat.beq pc 0 then (.iload_n 1, 1, (1, 0, 0), 0, 0, []) else TN) else (bif Nat.beq pc 1 then (.i2b, 2, (0, 0, 0), 0, 0, []) else TN)) else (bif Nat.blt pc 4 then (bif Nat.beq pc 2 then (.istore 4, 4, (4, 0, 0), 0, 0, []) else TN) else (bif Nat.beq pc 4 then (.iload_n 2, 5, (2, 0, 0), 0, 0, []) else TN))) else (bif Nat.blt pc 9 then (bif Nat.blt pc 7 then (bif Nat.beq pc 5 then (.istore 5, 7, (5, 0, 0), 0, 0, []) else TN) else (bif Nat.beq pc 7 then (.iload 5, 9, (5, 0, 0), 0, 0, []) else TN)) else (bif Nat.blt pc 10 then (bif Nat.beq pc 9 then (.iload_n 3, 10, (3, 0, 0), 0, 0, []) else TN) else (bif Nat.blt pc 13 then (bif Nat.beq pc 10 then (.if_icmp .ge 21, 13, (31, 0, 0), 0, 0, []) else TN) else (bif Nat.beq pc 13 then (.aload_n 0, 14, (0, 0, 0), 0, 0, []) else TN))))) else (bif Nat.blt pc 24 then (bif Nat.blt pc 17 then (bif Nat.blt pc 16 then (bif Nat.beq pc 14 then (.iload 5, 16, (5, 0, 0), 0, 0, []) else TN) else (bif Nat.beq pc 16 then (.baload, 17, (0, 0, 0), 0, 0, []) else TN)) else (bif Nat.blt pc 19 then (bif Nat.beq pc 17 then (.iload 4, 19, (4, 0, 0), 0, 0, []) else TN) else (bif Nat.blt pc 22 then (bif Nat.beq pc 19 then (.if_icmp .ne 6, 22, (25, 0, 0), 0, 0, []) else TN) else (bif Nat.beq pc 22 then (.iload 5, 24, (5, 0, 0), 0, 0, []) else TN)))) else (bif Nat.blt pc 28 then (bif Nat.blt pc 25 then (bif Nat.beq pc 24 then (.ireturn, 25, (0, 0, 0), 0, 0, []) else TN) else (bif Nat.beq pc 25 then (.iinc 5 1, 28, (5, 0, 0), 1, 0, []) else TN)) else (bif Nat.blt pc 31 then (bif Nat.beq pc 28 then (.goto (-21), 31, (7, 0, 0), 0, 0, []) else TN) else (bif Nat.blt pc 32 then (bif Nat.beq pc 31 then (.iconst (-1), 32, (0, 0, 0), -1, 0, []) else TN) else (bif Nat.beq pc 32 then (.ireturn, 33, (0, 0, 0), 0, 0, []) else TN)))))
def tb_J1_indexOfChar_4cfef (pc : Nat) : TI := bif Nat.ble 33 pc then TN else tt_J1_indexOfChar_4cfef pc
theorem ok_J1_indexOfChar_4cfef : tOK 15 (decide ("indexOfChar" = "<init>")) cJ1_indexOfChar_4cfef tb_J1_indexOfChar_4cfef := tOK_of 33 tn_of (by decide +kernel)
def f_J1_indexOfChar_4cfef_7 : Nat → Lay → Sto → Nat → Int32 → Int32 → Int32 → Option Int32
  | 0 => fun _ _ _ _ _ _ => none
  | k + 1 => fun L σ a0 a3 a4 a5 => (if a3 ≤ a5 then some (-1) else (rC 1 a0 a5).bind fun v1 => (if v1 = a4 then some a5 else (f_J1_indexOfChar_4cfef_7 k) L σ a0 a3 a4 (a5 + 1)))
def A_J1_indexOfChar_4cfef_7 (c : Lay → Sto → Nat → Int32 → Int32 → Int32 → Option Int32) (lc : List (Option AV)) (st : List AV) (L : Lay) (σ : Sto) : Option Int32 := match lc, st with
  | [some (.inr (.inr (.inr (ta0, a0)))), _, _, some (.inl a3), some (.inl a4), some (.inl a5)], [] => bif Nat.beq ta0 1 && true then c L σ a0 a3 a4 a5 else none
  | _, _ => none
def f_J1_indexOfChar_4cfef (L : Lay) (σ : Sto) (a0 : Nat) (a1 : Int32) (a2 : Int32) (a3 : Int32) : Option Int32 := (f_J1_indexOfChar_4cfef_7 FU) L σ a0 a3 a1.toInt8.toInt32 a2
def ad_J1_indexOfChar_4cfef : ADT := fun O L σ as k => match as with
  | [.inr (.inr (.inr (ta0, a0))), .inl a1, .inl a2, .inl a3] => bif Nat.beq ta0 1 && true then (f_J1_indexOfChar_4cfef L σ a0 a1 a2 a3).bind fun r => k (some (vI r)) L σ else none
  | _ => none
abbrev cl_J1_indexOfChar_4cfef {O : Type} : CLT O := cl0
theorem hc_J1_indexOfChar_4cfef (G : GT) (l : Launch) {d : Nat} (hd : 1 ≤ d) {O : Type} : HCL G l (true, true) d (cl_J1_indexOfChar_4cfef (O := O)) := hcl0
theorem rt_J1_indexOfChar_4cfef : retOK (0, 0) (some .int) := ⟨fun _ => rfl, fun h => absurd h (by decide), fun h => absurd h (by decide)⟩
set_option maxRecDepth 20000 in
theorem b_J1_indexOfChar_4cfef_7 {G : GT} {l : Launch} {d : Nat} {L0 : Lay} {σ0 : Sto} (hd : 1 ≤ d) : ∀ k : Nat, HF G l 15 "indexOfChar" cJ1_indexOfChar_4cfef 6 (some .int) d L0 σ0 (true, true) (dcPI L0 σ0) 7 (A_J1_indexOfChar_4cfef_7 (f_J1_indexOfChar_4cfef_7 k))
  | 0 => by
    intro lc st L σ o h hI
    unfold A_J1_indexOfChar_4cfef_7 at h
    split at h
    · obtain ⟨_, hA1⟩ := bif_s h
      cases hA1
    · cases h
  | k + 1 => by
    have ih := b_J1_indexOfChar_4cfef_7 (G := G) (l := l) (d := d) (L0 := L0) (σ0 := σ0) hd k
    intro lc st L σ o h hI
    unfold A_J1_indexOfChar_4cfef_7 at h
    split at h
    · obtain ⟨hq0, hA1⟩ := bif_s h
      obtain ⟨e0, hq1⟩ := beq_and hq0
      subst e0
      exact exs (sp := [7]) (K := (kc 7 (A_J1_indexOfChar_4cfef_7 (f_J1_indexOfChar_4cfef_7 k)) k0)) ok_J1_indexOfChar_4cfef rt_J1_indexOfChar_4cfef (by omega) (hc_J1_indexOfChar_4cfef G l hd) (hrPI rfl rfl) (hkc ih hk0) 22 hA1 hI
    · cases h
set_option maxRecDepth 20000 in
theorem ca_J1_indexOfChar_4cfef (G : GT) (l : Launch) {d : Nat} (hd : 1 ≤ d) : CA G l 16 (true, true) d ad_J1_indexOfChar_4cfef := by
  intro O L σ as k o h hW hok
  unfold ad_J1_indexOfChar_4cfef at h
  split at h
  · obtain ⟨hq0, hA0⟩ := bif_s h
    obtain ⟨e0, hq1⟩ := beq_and hq0
    subst e0
    obtain ⟨r, hr, hk⟩ := Option.bind_eq_some_iff.mp hA0
    exact ca_of (q := (dcPI L σ) r) (by decide) rfl (Nat.le_of_ble_eq_true rfl) hk (fun _ => rfl) (fun _ => rfl) (exs (sp := [7]) (K := (kc 7 (A_J1_indexOfChar_4cfef_7 (f_J1_indexOfChar_4cfef_7 FU)) k0)) (L0 := L) (σ0 := σ) ok_J1_indexOfChar_4cfef rt_J1_indexOfChar_4cfef (by omega) (hc_J1_indexOfChar_4cfef G l hd) (hrPI rfl rfl) (hkc (b_J1_indexOfChar_4cfef_7 hd FU) hk0) 22 hr (inv0 hW hok))
  · cases h
def tt_J1_indexOf_4cfef (pc : Nat) : TI := bif Nat.blt pc 18 then (bif Nat.blt pc 10 then (bif Nat.blt pc 7 then (bif Nat.blt pc 1 then (bif Nat.beq pc 0 then (.iload_n 1, 1, (1, 0, 0), 0, 0, []) else TN) else (bif Nat.blt pc 4 then (bif Nat.beq pc 1 then (.invokestatic 88, 4, (14, 1, 0), 0, 0, []) else TN) else (bif Nat.beq pc 4 then (.ifCond .ne 5, 7, (9, 0, 0), 0, 0, []) else TN))) else (bif Nat.blt pc 8 then (bif Nat.beq pc 7 then (.iconst (-1), 8, (0, 0, 0), -1, 0, []) else TN) else (bif Nat.blt pc 9 then (bif Nat.beq pc 8 then (.ireturn, 9, (0, 0, 0), 0, 0, []) else TN) else (bif Nat.beq pc 9 then (.iload_n 2, 10, (2, 0, 0), 0, 0, []) else TN)))) else (bif Nat.blt pc 15 then (bif Nat.blt pc 11 then (bif Nat.beq pc 10 then (.iconst 0, 11, (0, 0, 0), 0, 0, []) else TN) else (bif Nat.blt pc 14 then (bif Nat.beq pc 11 then (.invokestatic 92, 14, (1000, 0, 0), 0, 0, []) else TN) else (bif Nat.beq pc 14 then (.istore_n 2, 15, (2, 0, 0), 0, 0, []) else TN))) else (bif Nat.blt pc 16 then (bif Nat.beq pc 15 then (.iload_n 3, 16, (3, 0, 0), 0, 0, []) else TN) else (bif Nat.blt pc 17 then (bif Nat.beq pc 16 then (.aload_n 0, 17, (0, 0, 0), 0, 0, []) else TN) else (bif Nat.beq pc 17 then (.arraylength, 18, (0, 0, 0), 0, 0, []) else TN))))) else (bif Nat.blt pc 28 then (bif Nat.blt pc 23 then (bif Nat.blt pc 21 then (bif Nat.beq pc 18 then (.invokestatic 38, 21, (1001, 0, 0), 0, 0, []) else TN) else (bif Nat.blt pc 22 then (bif Nat.beq pc 21 then (.istore_n 3, 22, (3, 0, 0), 0, 0, []) else TN) else (bif Nat.beq pc 22 then (.iload_n 2, 23, (2, 0, 0), 0, 0, []) else TN))) else (bif Nat.blt pc 24 then (bif Nat.beq pc 23 then (.iload_n 3, 24, (3, 0, 0), 0, 0, []) else TN) else (bif Nat.blt pc 27 then (bif Nat.beq pc 24 then (.if_icmp .lt 5, 27, (29, 0, 0), 0, 0, []) else TN) else (bif Nat.beq pc 27 then (.iconst (-1), 28, (0, 0, 0), -1, 0, []) else TN)))) else (bif Nat.blt pc 31 then (bif Nat.blt pc 29 then (bif Nat.beq pc 28 then (.ireturn, 29, (0, 0, 0), 0, 0, []) else TN) else (bif Nat.blt pc 30 then (bif Nat.beq pc 29 then (.aload_n 0, 30, (0, 0, 0), 0, 0, []) else TN) else (bif Nat.beq pc 30 then (.iload_n 1, 31, (1, 0, 0), 0, 0, []) else TN))) else (bif Nat.blt pc 33 then (bif Nat.blt pc 32 then (bif Nat.beq pc 31 then (.iload_n 2, 32, (2, 0, 0), 0, 0, []) else TN) else (bif Nat.beq pc 32 then (.iload_n 3, 33, (3, 0, 0), 0, 0, []) else TN)) else (bif Nat.blt pc 36 then (bif Nat.beq pc 33 then (.invokestatic 95, 36, (16, 4, 0), 0, 0, []) else TN) else (bif Nat.beq pc 36 then (.ireturn, 37, (0, 0, 0), 0, 0, []) else TN)))))
def tb_J1_indexOf_4cfef (pc : Nat) : TI := bif Nat.ble 37 pc then TN else tt_J1_indexOf_4cfef pc
theorem ok_J1_indexOf_4cfef : tOK 15 (decide ("indexOf" = "<init>")) cJ1_indexOf_4cfef tb_J1_indexOf_4cfef := tOK_of 37 tn_of (by decide +kernel)
def f_J1_indexOf_4cfef (L : Lay) (σ : Sto) (a0 : Nat) (a1 : Int32) (a2 : Int32) (a3 : Int32) : Option Int32 := (f_J1_canEncode_9a6ad L σ a1).bind fun r1 => (if r1 = 0 then some (-1) else (if (if a2 < 0 then 0 else a2) < (if (nI (cal 1 a0).length) < a3 then (nI (cal 1 a0).length) else a3) then (f_J1_indexOfChar_4cfef L σ a0 a1 (if a2 < 0 then 0 else a2) (if (nI (cal 1 a0).length) < a3 then (nI (cal 1 a0).length) else a3)).bind fun r2 => some r2 else some (-1)))
def ad_J1_indexOf_4cfef : ADT := fun O L σ as k => match as with
  | [.inr (.inr (.inr (ta0, a0))), .inl a1, .inl a2, .inl a3] => bif Nat.beq ta0 1 && true then (f_J1_indexOf_4cfef L σ a0 a1 a2 a3).bind fun r => k (some (vI r)) L σ else none
  | _ => none
abbrev cl_J1_indexOf_4cfef {O : Type} : CLT O := (clc 14 ad_J1_canEncode_9a6ad (clc 16 ad_J1_indexOfChar_4cfef cl0))
theorem hc_J1_indexOf_4cfef (G : GT) (l : Launch) {d : Nat} (hd : 2 ≤ d) {O : Type} : HCL G l (true, true) d (cl_J1_indexOf_4cfef (O := O)) := (hclc (ca_J1_canEncode_9a6ad G l (d := 1) (Nat.le_refl _)) (fun _ => rfl) (fun _ => rfl) (by omega) (hclc (ca_J1_indexOfChar_4cfef G l (d := 1) (Nat.le_refl _)) (fun _ => rfl) (fun _ => rfl) (by omega) hcl0))
theorem rt_J1_indexOf_4cfef : retOK (0, 0) (some .int) := ⟨fun _ => rfl, fun h => absurd h (by decide), fun h => absurd h (by decide)⟩
set_option maxRecDepth 20000 in
theorem ca_J1_indexOf_4cfef (G : GT) (l : Launch) {d : Nat} (hd : 2 ≤ d) : CA G l 17 (true, true) d ad_J1_indexOf_4cfef := by
  intro O L σ as k o h hW hok
  unfold ad_J1_indexOf_4cfef at h
  split at h
  · obtain ⟨hq0, hA0⟩ := bif_s h
    obtain ⟨e0, hq1⟩ := beq_and hq0
    subst e0
    obtain ⟨r, hr, hk⟩ := Option.bind_eq_some_iff.mp hA0
    exact ca_of (q := (dcPI L σ) r) (by decide) rfl (Nat.le_of_ble_eq_true rfl) hk (fun _ => rfl) (fun _ => rfl) (exs (sp := []) (K := k0) (L0 := L) (σ0 := σ) ok_J1_indexOf_4cfef rt_J1_indexOf_4cfef (by omega) (hc_J1_indexOf_4cfef G l hd) (hrPI rfl rfl) hk0 28 hr (inv0 hW hok))
  · cases h
def tt_J0_indexOf_7cf53 (pc : Nat) : TI := bif Nat.blt pc 17 then (bif Nat.blt pc 8 then (bif Nat.blt pc 4 then (bif Nat.blt pc 1 then (bif Nat.beq pc 0 then (.aload_n 0, 1, (0, 0, 0), 0, 0, []) else TN) else (bif Nat.beq pc 1 then (.invokevirtual 492, 4, (8, 0, 50), 0, 0, []) else TN)) else (bif Nat.blt pc 7 then (bif Nat.beq pc 4 then (.ifCond .eq 19, 7, (23, 0, 0), 0, 0, []) else TN) else (bif Nat.beq pc 7 then (.aload_n 0, 8, (0, 0, 0), 0, 0, []) else TN))) else (bif Nat.blt pc 12 then (bif Nat.blt pc 11 then (bif Nat.beq pc 8 then (.getfield 9, 11, (50, 0, 0), 0, 0, []) else TN) else (bif Nat.beq pc 11 then (.iload_n 1, 12, (1, 0, 0), 0, 0, []) else TN)) else (bif Nat.blt pc 13 then (bif Nat.beq pc 12 then (.iload_n 2, 13, (2, 0, 0), 0, 0, []) else TN) else (bif Nat.blt pc 14 then (bif Nat.beq pc 13 then (.aload_n 0, 14, (0, 0, 0), 0, 0, []) else TN) else (bif Nat.beq pc 14 then (.invokevirtual 505, 17, (9, 0, 50), 0, 0, []) else TN))))) else (bif Nat.blt pc 28 then (bif Nat.blt pc 23 then (bif Nat.blt pc 20 then (bif Nat.beq pc 17 then (.invokestatic 637, 20, (17, 4, 0), 0, 0, []) else TN) else (bif Nat.beq pc 20 then (.goto 16, 23, (36, 0, 0), 0, 0, []) else TN)) else (bif Nat.blt pc 24 then (bif Nat.beq pc 23 then (.aload_n 0, 24, (0, 0, 0), 0, 0, []) else TN) else (bif Nat.blt pc 27 then (bif Nat.beq pc 24 then (.getfield 9, 27, (50, 0, 0), 0, 0, []) else TN) else (bif Nat.beq pc 27 then (.iload_n 1, 28, (1, 0, 0), 0, 0, []) else TN)))) else (bif Nat.blt pc 30 then (bif Nat.blt pc 29 then (bif Nat.beq pc 28 then (.iload_n 2, 29, (2, 0, 0), 0, 0, []) else TN) else (bif Nat.beq pc 29 then (.aload_n 0, 30, (0, 0, 0), 0, 0, []) else TN)) else (bif Nat.blt pc 33 then (bif Nat.beq pc 30 then (.invokevirtual 505, 33, (9, 0, 50), 0, 0, []) else TN) else (bif Nat.blt pc 36 then (bif Nat.beq pc 33 then (.invokestatic 640, 36, (25, 4, 0), 0, 0, []) else TN) else (bif Nat.beq pc 36 then (.ireturn, 37, (0, 0, 0), 0, 0, []) else TN)))))
def tb_J0_indexOf_7cf53 (pc : Nat) : TI := bif Nat.ble 37 pc then TN else tt_J0_indexOf_7cf53 pc
theorem ok_J0_indexOf_7cf53 : tOK 14 (decide ("indexOf" = "<init>")) cJ0_indexOf_7cf53 tb_J0_indexOf_7cf53 := tOK_of 37 tn_of (by decide +kernel)
def f_J0_indexOf_7cf53 (L : Lay) (σ : Sto) (a0 : Nat) (a1 : Int32) (a2 : Int32) : Option Int32 := (f_J0_isLatin1_aae02 L σ a0).bind fun r1 => (if r1 = 0 then (f_J0_length_8abf5 L σ a0).bind fun r2 => none else (f_J0_length_8abf5 L σ a0).bind fun r3 => (f_J1_indexOf_4cfef L σ a0 a1 a2 r3).bind fun r4 => some r4)
def ad_J0_indexOf_7cf53 : ADT := fun O L σ as k => match as with
  | [.inr (.inr (.inr (ta0, a0))), .inl a1, .inl a2] => bif Nat.beq ta0 0 && true then (f_J0_indexOf_7cf53 L σ a0 a1 a2).bind fun r => k (some (vI r)) L σ else none
  | _ => none
abbrev cl_J0_indexOf_7cf53 {O : Type} : CLT O := (clc 8 ad_J0_isLatin1_aae02 (clc 9 ad_J0_length_8abf5 (clc 17 ad_J1_indexOf_4cfef cl0)))
theorem hc_J0_indexOf_7cf53 (G : GT) (l : Launch) {d : Nat} (hd : 3 ≤ d) {O : Type} : HCL G l (true, true) d (cl_J0_indexOf_7cf53 (O := O)) := (hclc (ca_J0_isLatin1_aae02 G l (d := 1) (Nat.le_refl _)) (fun _ => rfl) (fun _ => rfl) (by omega) (hclc (ca_J0_length_8abf5 G l (d := 2) (Nat.le_refl _)) (fun _ => rfl) (fun _ => rfl) (by omega) (hclc (ca_J1_indexOf_4cfef G l (d := 2) (Nat.le_refl _)) (fun _ => rfl) (fun _ => rfl) (by omega) hcl0)))
theorem rt_J0_indexOf_7cf53 : retOK (0, 0) (some .int) := ⟨fun _ => rfl, fun h => absurd h (by decide), fun h => absurd h (by decide)⟩
set_option maxRecDepth 20000 in
theorem ca_J0_indexOf_7cf53 (G : GT) (l : Launch) {d : Nat} (hd : 3 ≤ d) : CA G l 7 (true, true) d ad_J0_indexOf_7cf53 := by
  intro O L σ as k o h hW hok
  unfold ad_J0_indexOf_7cf53 at h
  split at h
  · obtain ⟨hq0, hA0⟩ := bif_s h
    obtain ⟨e0, hq1⟩ := beq_and hq0
    subst e0
    obtain ⟨r, hr, hk⟩ := Option.bind_eq_some_iff.mp hA0
    exact ca_of (q := (dcPI L σ) r) (by decide) rfl (Nat.le_of_ble_eq_true rfl) hk (fun _ => rfl) (fun _ => rfl) (exs (sp := []) (K := k0) (L0 := L) (σ0 := σ) ok_J0_indexOf_7cf53 rt_J0_indexOf_7cf53 (by omega) (hc_J0_indexOf_7cf53 G l hd) (hrPI rfl rfl) hk0 22 hr (inv0 hW hok))
  · cases h
def tt_J0_indexOf_0f7a4 (pc : Nat) : TI := bif Nat.blt pc 2 then (bif Nat.blt pc 1 then (bif Nat.beq pc 0 then (.aload_n 0, 1, (0, 0, 0), 0, 0, []) else TN) else (bif Nat.beq pc 1 then (.iload_n 1, 2, (1, 0, 0), 0, 0, []) else TN)) else (bif Nat.blt pc 3 then (bif Nat.beq pc 2 then (.iconst 0, 3, (0, 0, 0), 0, 0, []) else TN) else (bif Nat.blt pc 6 then (bif Nat.beq pc 3 then (.invokevirtual 633, 6, (7, 2, 50), 0, 0, []) else TN) else (bif Nat.beq pc 6 then (.ireturn, 7, (0, 0, 0), 0, 0, []) else TN)))
def tb_J0_indexOf_0f7a4 (pc : Nat) : TI := bif Nat.ble 7 pc then TN else tt_J0_indexOf_0f7a4 pc
theorem ok_J0_indexOf_0f7a4 : tOK 14 (decide ("indexOf" = "<init>")) cJ0_indexOf_0f7a4 tb_J0_indexOf_0f7a4 := tOK_of 7 tn_of (by decide +kernel)
def f_J0_indexOf_0f7a4 (L : Lay) (σ : Sto) (a0 : Nat) (a1 : Int32) : Option Int32 := (f_J0_indexOf_7cf53 L σ a0 a1 0).bind fun r1 => some r1
def ad_J0_indexOf_0f7a4 : ADT := fun O L σ as k => match as with
  | [.inr (.inr (.inr (ta0, a0))), .inl a1] => bif Nat.beq ta0 0 && true then (f_J0_indexOf_0f7a4 L σ a0 a1).bind fun r => k (some (vI r)) L σ else none
  | _ => none
abbrev cl_J0_indexOf_0f7a4 {O : Type} : CLT O := (clc 7 ad_J0_indexOf_7cf53 cl0)
theorem hc_J0_indexOf_0f7a4 (G : GT) (l : Launch) {d : Nat} (hd : 4 ≤ d) {O : Type} : HCL G l (true, true) d (cl_J0_indexOf_0f7a4 (O := O)) := (hclc (ca_J0_indexOf_7cf53 G l (d := 3) (Nat.le_refl _)) (fun _ => rfl) (fun _ => rfl) (by omega) hcl0)
theorem rt_J0_indexOf_0f7a4 : retOK (0, 0) (some .int) := ⟨fun _ => rfl, fun h => absurd h (by decide), fun h => absurd h (by decide)⟩
set_option maxRecDepth 20000 in
theorem ca_J0_indexOf_0f7a4 (G : GT) (l : Launch) {d : Nat} (hd : 4 ≤ d) : CA G l 6 (true, true) d ad_J0_indexOf_0f7a4 := by
  intro O L σ as k o h hW hok
  unfold ad_J0_indexOf_0f7a4 at h
  split at h
  · obtain ⟨hq0, hA0⟩ := bif_s h
    obtain ⟨e0, hq1⟩ := beq_and hq0
    subst e0
    obtain ⟨r, hr, hk⟩ := Option.bind_eq_some_iff.mp hA0
    exact ca_of (q := (dcPI L σ) r) (by decide) rfl (Nat.le_of_ble_eq_true rfl) hk (fun _ => rfl) (fun _ => rfl) (exs (sp := []) (K := k0) (L0 := L) (σ0 := σ) ok_J0_indexOf_0f7a4 rt_J0_indexOf_0f7a4 (by omega) (hc_J0_indexOf_0f7a4 G l hd) (hrPI rfl rfl) hk0 8 hr (inv0 hW hok))
  · cases h
def tt_X1_isBallotName (pc : Nat) : TI := bif Nat.blt pc 9 then (bif Nat.blt pc 3 then (bif Nat.blt pc 2 then (bif Nat.beq pc 0 then (.ldc 25, 2, (1, 0, 0), 0, 0, []) else TN) else (bif Nat.beq pc 2 then (.iload_n 0, 3, (0, 0, 0), 0, 0, []) else TN)) else (bif Nat.blt pc 6 then (bif Nat.beq pc 3 then (.invokevirtual 27, 6, (6, 1, 50), 0, 0, []) else TN) else (bif Nat.beq pc 6 then (.ifCond .lt 7, 9, (13, 0, 0), 0, 0, []) else TN))) else (bif Nat.blt pc 13 then (bif Nat.blt pc 10 then (bif Nat.beq pc 9 then (.iconst 1, 10, (0, 0, 0), 1, 0, []) else TN) else (bif Nat.beq pc 10 then (.goto 4, 13, (14, 0, 0), 0, 0, []) else TN)) else (bif Nat.blt pc 14 then (bif Nat.beq pc 13 then (.iconst 0, 14, (0, 0, 0), 0, 0, []) else TN) else (bif Nat.beq pc 14 then (.ireturn, 15, (0, 0, 0), 0, 0, []) else TN)))
def tb_X1_isBallotName (pc : Nat) : TI := bif Nat.ble 15 pc then TN else tt_X1_isBallotName pc
theorem ok_X1_isBallotName : tOK 1 (decide ("isBallotName" = "<init>")) cX1_isBallotName tb_X1_isBallotName := tOK_of 15 tn_of (by decide +kernel)
def f_X1_isBallotName (L : Lay) (σ : Sto) (a0 : Int32) : Option Int32 := (f_J0_indexOf_0f7a4 L σ 0 a0).bind fun r1 => (if r1 < 0 then (ckN 1 0).bind fun _ => some 0 else (ckN 1 1).bind fun _ => some 1)
def ad_X1_isBallotName : ADT := fun O L σ as k => match as with
  | [.inl a0] => (f_X1_isBallotName L σ a0).bind fun r => k (some (vI r)) L σ
  | _ => none
abbrev cl_X1_isBallotName {O : Type} : CLT O := (clc 6 ad_J0_indexOf_0f7a4 cl0)
theorem hc_X1_isBallotName (G : GT) (l : Launch) {d : Nat} (hd : 5 ≤ d) {O : Type} : HCL G l (true, true) d (cl_X1_isBallotName (O := O)) := (hclc (ca_J0_indexOf_0f7a4 G l (d := 4) (Nat.le_refl _)) (fun _ => rfl) (fun _ => rfl) (by omega) hcl0)
theorem rt_X1_isBallotName : retOK (1, 0) (some .boolean) := ⟨fun _ => rfl, fun h => absurd h (by decide), fun h => absurd h (by decide)⟩
set_option maxRecDepth 20000 in
theorem ca_X1_isBallotName (G : GT) (l : Launch) {d : Nat} (hd : 5 ≤ d) : CA G l 218 (true, true) d ad_X1_isBallotName := by
  intro O L σ as k o h hW hok
  unfold ad_X1_isBallotName at h
  split at h
  · have hA0 := h
    obtain ⟨r, hr, hk⟩ := Option.bind_eq_some_iff.mp hA0
    exact ca_of (q := (dcPI L σ) r) (by decide) rfl (Nat.le_of_ble_eq_true rfl) hk (fun _ => rfl) (fun _ => rfl) (exs (sp := []) (K := k0) (L0 := L) (σ0 := σ) ok_X1_isBallotName rt_X1_isBallotName (by omega) (hc_X1_isBallotName G l hd) (hrPI rfl rfl) hk0 11 hr (inv0 hW hok))
  · cases h
def tt_X1_isNameHere (pc : Nat) : TI := bif Nat.blt pc 15 then (bif Nat.blt pc 7 then (bif Nat.blt pc 1 then (bif Nat.beq pc 0 then (.iload_n 1, 1, (1, 0, 0), 0, 0, []) else TN) else (bif Nat.blt pc 4 then (bif Nat.beq pc 1 then (.invokestatic 101, 4, (218, 1, 0), 0, 0, []) else TN) else (bif Nat.beq pc 4 then (.ifCond .ne 20, 7, (24, 0, 0), 0, 0, []) else TN))) else (bif Nat.blt pc 11 then (bif Nat.blt pc 8 then (bif Nat.beq pc 7 then (.aload_n 0, 8, (0, 0, 0), 0, 0, []) else TN) else (bif Nat.beq pc 8 then (.getfield 64, 11, (1, 5, 0), 0, 0, []) else TN)) else (bif Nat.blt pc 12 then (bif Nat.beq pc 11 then (.iconst 1, 12, (0, 0, 0), 1, 0, []) else TN) else (bif Nat.beq pc 12 then (.if_icmp .ne 16, 15, (28, 0, 0), 0, 0, []) else TN)))) else (bif Nat.blt pc 24 then (bif Nat.blt pc 18 then (bif Nat.blt pc 17 then (bif Nat.beq pc 15 then (.ldc 104, 17, (1, 1, 0), 0, 0, []) else TN) else (bif Nat.beq pc 17 then (.iload_n 1, 18, (1, 0, 0), 0, 0, []) else TN)) else (bif Nat.blt pc 21 then (bif Nat.beq pc 18 then (.invokevirtual 27, 21, (6, 1, 50), 0, 0, []) else TN) else (bif Nat.beq pc 21 then (.ifCond .lt 7, 24, (28, 0, 0), 0, 0, []) else TN))) else (bif Nat.blt pc 28 then (bif Nat.blt pc 25 then (bif Nat.beq pc 24 then (.iconst 1, 25, (0, 0, 0), 1, 0, []) else TN) else (bif Nat.beq pc 25 then (.goto 4, 28, (29, 0, 0), 0, 0, []) else TN)) else (bif Nat.blt pc 29 then (bif Nat.beq pc 28 then (.iconst 0, 29, (0, 0, 0), 0, 0, []) else TN) else (bif Nat.beq pc 29 then (.ireturn, 30, (0, 0, 0), 0, 0, []) else TN))))
def tb_X1_isNameHere (pc : Nat) : TI := bif Nat.ble 30 pc then TN else tt_X1_isNameHere pc
theorem ok_X1_isNameHere : tOK 1 (decide ("isNameHere" = "<init>")) cX1_isNameHere tb_X1_isNameHere := tOK_of 30 tn_of (by decide +kernel)
def f_X1_isNameHere (L : Lay) (σ : Sto) (a0 : Nat) (a1 : Int32) : Option Int32 := (f_X1_isBallotName L σ a1).bind fun r1 => (if r1 = 0 then (if (σ.1 a0 5) = 1 then (f_J0_indexOf_0f7a4 L σ 1 a1).bind fun r2 => (if r2 < 0 then (ckN 1 0).bind fun _ => some 0 else (ckN 1 1).bind fun _ => some 1) else (ckN 1 0).bind fun _ => some 0) else (ckN 1 1).bind fun _ => some 1)
def ad_X1_isNameHere : ADT := fun O L σ as k => match as with
  | [.inr (.inr (.inl (ta0, some a0))), .inl a1] => bif Nat.beq ta0 1 && true then (f_X1_isNameHere L σ a0 a1).bind fun r => k (some (vI r)) L σ else none
  | _ => none
abbrev cl_X1_isNameHere {O : Type} : CLT O := (clc 218 ad_X1_isBallotName (clc 6 ad_J0_indexOf_0f7a4 cl0))
theorem hc_X1_isNameHere (G : GT) (l : Launch) {d : Nat} (hd : 6 ≤ d) {O : Type} : HCL G l (true, true) d (cl_X1_isNameHere (O := O)) := (hclc (ca_X1_isBallotName G l (d := 5) (Nat.le_refl _)) (fun _ => rfl) (fun _ => rfl) (by omega) (hclc (ca_J0_indexOf_0f7a4 G l (d := 4) (Nat.le_refl _)) (fun _ => rfl) (fun _ => rfl) (by omega) hcl0))
theorem rt_X1_isNameHere : retOK (1, 0) (some .boolean) := ⟨fun _ => rfl, fun h => absurd h (by decide), fun h => absurd h (by decide)⟩
set_option maxRecDepth 20000 in
theorem ca_X1_isNameHere (G : GT) (l : Launch) {d : Nat} (hd : 6 ≤ d) : CA G l 219 (true, true) d ad_X1_isNameHere := by
  intro O L σ as k o h hW hok
  unfold ad_X1_isNameHere at h
  split at h
  · obtain ⟨hq0, hA0⟩ := bif_s h
    obtain ⟨e0, hq1⟩ := beq_and hq0
    subst e0
    obtain ⟨r, hr, hk⟩ := Option.bind_eq_some_iff.mp hA0
    exact ca_of (q := (dcPI L σ) r) (by decide) rfl (Nat.le_of_ble_eq_true rfl) hk (fun _ => rfl) (fun _ => rfl) (exs (sp := []) (K := k0) (L0 := L) (σ0 := σ) ok_X1_isNameHere rt_X1_isNameHere (by omega) (hc_X1_isNameHere G l hd) (hrPI rfl rfl) hk0 18 hr (inv0 hW hok))
  · cases h
def tt_X9_numberAtHand (pc : Nat) : TI := bif Nat.blt pc 30 then (bif Nat.blt pc 17 then (bif Nat.blt pc 8 then (bif Nat.blt pc 4 then (bif Nat.blt pc 1 then (bif Nat.beq pc 0 then (.aload_n 0, 1, (0, 0, 0), 0, 0, []) else TN) else (bif Nat.beq pc 1 then (.getfield 33, 4, (9, 4, 0), 0, 0, []) else TN)) else (bif Nat.blt pc 5 then (bif Nat.beq pc 4 then (.iconst 2, 5, (0, 0, 0), 2, 0, []) else TN) else (bif Nat.beq pc 5 then (.if_icmp .ne 16, 8, (21, 0, 0), 0, 0, []) else TN))) else (bif Nat.blt pc 12 then (bif Nat.blt pc 9 then (bif Nat.beq pc 8 then (.aload_n 0, 9, (0, 0, 0), 0, 0, []) else TN) else (bif Nat.beq pc 9 then (.getfield 17, 12, (9, 3, 0), 0, 0, []) else TN)) else (bif Nat.blt pc 13 then (bif Nat.beq pc 12 then (.aload_n 0, 13, (0, 0, 0), 0, 0, []) else TN) else (bif Nat.blt pc 16 then (bif Nat.beq pc 13 then (.getfield 23, 16, (9, 2, 0), 0, 0, []) else TN) else (bif Nat.beq pc 16 then (.isub, 17, (0, 0, 0), 0, 0, []) else TN))))) else (bif Nat.blt pc 23 then (bif Nat.blt pc 21 then (bif Nat.blt pc 18 then (bif Nat.beq pc 17 then (.iconst 4, 18, (0, 0, 0), 4, 0, []) else TN) else (bif Nat.beq pc 18 then (.if_icmp .le 5, 21, (23, 0, 0), 0, 0, []) else TN)) else (bif Nat.blt pc 22 then (bif Nat.beq pc 21 then (.iconst (-1), 22, (0, 0, 0), -1, 0, []) else TN) else (bif Nat.beq pc 22 then (.ireturn, 23, (0, 0, 0), 0, 0, []) else TN))) else (bif Nat.blt pc 25 then (bif Nat.blt pc 24 then (bif Nat.beq pc 23 then (.iconst 0, 24, (0, 0, 0), 0, 0, []) else TN) else (bif Nat.beq pc 24 then (.istore_n 1, 25, (1, 0, 0), 0, 0, []) else TN)) else (bif Nat.blt pc 26 then (bif Nat.beq pc 25 then (.aload_n 0, 26, (0, 0, 0), 0, 0, []) else TN) else (bif Nat.blt pc 29 then (bif Nat.beq pc 26 then (.getfield 23, 29, (9, 2, 0), 0, 0, []) else TN) else (bif Nat.beq pc 29 then (.istore_n 2, 30, (2, 0, 0), 0, 0, []) else TN)))))) else (bif Nat.blt pc 44 then (bif Nat.blt pc 38 then (bif Nat.blt pc 32 then (bif Nat.blt pc 31 then (bif Nat.beq pc 30 then (.iload_n 2, 31, (2, 0, 0), 0, 0, []) else TN) else (bif Nat.beq pc 31 then (.aload_n 0, 32, (0, 0, 0), 0, 0, []) else TN)) else (bif Nat.blt pc 35 then (bif Nat.beq pc 32 then (.getfield 17, 35, (9, 3, 0), 0, 0, []) else TN) else (bif Nat.beq pc 35 then (.if_icmp .ge 23, 38, (58, 0, 0), 0, 0, []) else TN))) else (bif Nat.blt pc 41 then (bif Nat.blt pc 39 then (bif Nat.beq pc 38 then (.iload_n 1, 39, (1, 0, 0), 0, 0, []) else TN) else (bif Nat.beq pc 39 then (.bipush 10, 41, (0, 0, 0), 10, 0, []) else TN)) else (bif Nat.blt pc 42 then (bif Nat.beq pc 41 then (.imul, 42, (0, 0, 0), 0, 0, []) else TN) else (bif Nat.blt pc 43 then (bif Nat.beq pc 42 then (.aload_n 0, 43, (0, 0, 0), 0, 0, []) else TN) else (bif Nat.beq pc 43 then (.iload_n 2, 44, (2, 0, 0), 0, 0, []) else TN))))) else (bif Nat.blt pc 51 then (bif Nat.blt pc 48 then (bif Nat.blt pc 47 then (bif Nat.beq pc 44 then (.invokevirtual 26, 47, (271, 1, 9), 0, 0, []) else TN) else (bif Nat.beq pc 47 then (.iadd, 48, (0, 0, 0), 0, 0, []) else TN)) else (bif Nat.blt pc 50 then (bif Nat.beq pc 48 then (.bipush 48, 50, (0, 0, 0), 48, 0, []) else TN) else (bif Nat.beq pc 50 then (.isub, 51, (0, 0, 0), 0, 0, []) else TN))) else (bif Nat.blt pc 55 then (bif Nat.blt pc 52 then (bif Nat.beq pc 51 then (.istore_n 1, 52, (1, 0, 0), 0, 0, []) else TN) else (bif Nat.beq pc 52 then (.iinc 2 1, 55, (2, 0, 0), 1, 0, []) else TN)) else (bif Nat.blt pc 58 then (bif Nat.beq pc 55 then (.goto (-25), 58, (30, 0, 0), 0, 0, []) else TN) else (bif Nat.blt pc 59 then (bif Nat.beq pc 58 then (.iload_n 1, 59, (1, 0, 0), 0, 0, []) else TN) else (bif Nat.beq pc 59 then (.ireturn, 60, (0, 0, 0), 0, 0, []) else TN))))))
def tb_X9_numberAtHand (pc : Nat) : TI := bif Nat.ble 60 pc then TN else tt_X9_numberAtHand pc
theorem ok_X9_numberAtHand : tOK 9 (decide ("numberAtHand" = "<init>")) cX9_numberAtHand tb_X9_numberAtHand := tOK_of 60 tn_of (by decide +kernel)
def f_X9_numberAtHand_30 : Nat → Lay → Sto → Nat → Int32 → Int32 → Option Int32
  | 0 => fun _ _ _ _ _ => none
  | k + 1 => fun L σ a0 a1 a2 => (if (σ.1 a0 3) ≤ a2 then some a1 else (f_X9_byteAt L σ a0 a2).bind fun r1 => (f_X9_numberAtHand_30 k) L σ a0 (((a1 * 10) + r1) - 48) (a2 + 1))
def A_X9_numberAtHand_30 (c : Lay → Sto → Nat → Int32 → Int32 → Option Int32) (lc : List (Option AV)) (st : List AV) (L : Lay) (σ : Sto) : Option Int32 := match lc, st with
  | [some (.inr (.inr (.inl (ta0, some a0)))), some (.inl a1), some (.inl a2)], [] => bif Nat.beq ta0 9 && true then c L σ a0 a1 a2 else none
  | _, _ => none
def f_X9_numberAtHand (L : Lay) (σ : Sto) (a0 : Nat) : Option Int32 := (if (σ.1 a0 4) = 2 then (if ((σ.1 a0 3) - (σ.1 a0 2)) ≤ 4 then (f_X9_numberAtHand_30 FU) L σ a0 0 (σ.1 a0 2) else some (-1)) else some (-1))
def ad_X9_numberAtHand : ADT := fun O L σ as k => match as with
  | [.inr (.inr (.inl (ta0, some a0)))] => bif Nat.beq ta0 9 && true then (f_X9_numberAtHand L σ a0).bind fun r => k (some (vI r)) L σ else none
  | _ => none
abbrev cl_X9_numberAtHand {O : Type} : CLT O := (clc 271 ad_X9_byteAt cl0)
theorem hc_X9_numberAtHand (G : GT) (l : Launch) {d : Nat} (hd : 2 ≤ d) {O : Type} : HCL G l (true, true) d (cl_X9_numberAtHand (O := O)) := (hclc (ca_X9_byteAt G l (d := 1) (Nat.le_refl _)) (fun _ => rfl) (fun _ => rfl) (by omega) hcl0)
theorem rt_X9_numberAtHand : retOK (0, 0) (some .int) := ⟨fun _ => rfl, fun h => absurd h (by decide), fun h => absurd h (by decide)⟩
set_option maxRecDepth 20000 in
theorem b_X9_numberAtHand_30 {G : GT} {l : Launch} {d : Nat} {L0 : Lay} {σ0 : Sto} (hd : 2 ≤ d) : ∀ k : Nat, HF G l 9 "numberAtHand" cX9_numberAtHand 3 (some .int) d L0 σ0 (true, true) (dcPI L0 σ0) 30 (A_X9_numberAtHand_30 (f_X9_numberAtHand_30 k))
  | 0 => by
    intro lc st L σ o h hI
    unfold A_X9_numberAtHand_30 at h
    split at h
    · obtain ⟨_, hA1⟩ := bif_s h
      cases hA1
    · cases h
  | k + 1 => by
    have ih := b_X9_numberAtHand_30 (G := G) (l := l) (d := d) (L0 := L0) (σ0 := σ0) hd k
    intro lc st L σ o h hI
    unfold A_X9_numberAtHand_30 at h
    split at h
    · obtain ⟨hq0, hA1⟩ := bif_s h
      obtain ⟨e0, hq1⟩ := beq_and hq0
      subst e0
      exact exs (sp := [30]) (K := (kc 30 (A_X9_numberAtHand_30 (f_X9_numberAtHand_30 k)) k0)) ok_X9_numberAtHand rt_X9_numberAtHand (by omega) (hc_X9_numberAtHand G l hd) (hrPI rfl rfl) (hkc ih hk0) 39 hA1 hI
    · cases h
set_option maxRecDepth 20000 in
theorem ca_X9_numberAtHand (G : GT) (l : Launch) {d : Nat} (hd : 2 ≤ d) : CA G l 278 (true, true) d ad_X9_numberAtHand := by
  intro O L σ as k o h hW hok
  unfold ad_X9_numberAtHand at h
  split at h
  · obtain ⟨hq0, hA0⟩ := bif_s h
    obtain ⟨e0, hq1⟩ := beq_and hq0
    subst e0
    obtain ⟨r, hr, hk⟩ := Option.bind_eq_some_iff.mp hA0
    exact ca_of (q := (dcPI L σ) r) (by decide) rfl (Nat.le_of_ble_eq_true rfl) hk (fun _ => rfl) (fun _ => rfl) (exs (sp := [30]) (K := (kc 30 (A_X9_numberAtHand_30 (f_X9_numberAtHand_30 FU)) k0)) (L0 := L) (σ0 := σ) ok_X9_numberAtHand rt_X9_numberAtHand (by omega) (hc_X9_numberAtHand G l hd) (hrPI rfl rfl) (hkc (b_X9_numberAtHand_30 hd FU) hk0) 39 hr (inv0 hW hok))
  · cases h
def tt_X1_operandAtHand (pc : Nat) : TI := bif Nat.blt pc 16 then (bif Nat.blt pc 8 then (bif Nat.blt pc 4 then (bif Nat.blt pc 1 then (bif Nat.beq pc 0 then (.aload_n 0, 1, (0, 0, 0), 0, 0, []) else TN) else (bif Nat.beq pc 1 then (.getfield 21, 4, (1, 4, 0), 0, 0, []) else TN)) else (bif Nat.blt pc 7 then (bif Nat.beq pc 4 then (.invokevirtual 91, 7, (277, 0, 9), 0, 0, []) else TN) else (bif Nat.beq pc 7 then (.istore_n 1, 8, (1, 0, 0), 0, 0, []) else TN))) else (bif Nat.blt pc 10 then (bif Nat.blt pc 9 then (bif Nat.beq pc 8 then (.aload_n 0, 9, (0, 0, 0), 0, 0, []) else TN) else (bif Nat.beq pc 9 then (.iload_n 1, 10, (1, 0, 0), 0, 0, []) else TN)) else (bif Nat.blt pc 13 then (bif Nat.beq pc 10 then (.invokevirtual 94, 13, (219, 1, 1), 0, 0, []) else TN) else (bif Nat.beq pc 13 then (.ifCond .eq 11, 16, (24, 0, 0), 0, 0, []) else TN)))) else (bif Nat.blt pc 24 then (bif Nat.blt pc 20 then (bif Nat.blt pc 19 then (bif Nat.beq pc 16 then (.sipush 10000, 19, (0, 0, 0), 10000, 0, []) else TN) else (bif Nat.beq pc 19 then (.iload_n 1, 20, (1, 0, 0), 0, 0, []) else TN)) else (bif Nat.blt pc 21 then (bif Nat.beq pc 20 then (.iadd, 21, (0, 0, 0), 0, 0, []) else TN) else (bif Nat.beq pc 21 then (.goto 10, 24, (31, 0, 0), 0, 0, []) else TN))) else (bif Nat.blt pc 28 then (bif Nat.blt pc 25 then (bif Nat.beq pc 24 then (.aload_n 0, 25, (0, 0, 0), 0, 0, []) else TN) else (bif Nat.beq pc 25 then (.getfield 21, 28, (1, 4, 0), 0, 0, []) else TN)) else (bif Nat.blt pc 31 then (bif Nat.beq pc 28 then (.invokevirtual 98, 31, (278, 0, 9), 0, 0, []) else TN) else (bif Nat.beq pc 31 then (.ireturn, 32, (0, 0, 0), 0, 0, []) else TN))))
def tb_X1_operandAtHand (pc : Nat) : TI := bif Nat.ble 32 pc then TN else tt_X1_operandAtHand pc
theorem ok_X1_operandAtHand : tOK 1 (decide ("operandAtHand" = "<init>")) cX1_operandAtHand tb_X1_operandAtHand := tOK_of 32 tn_of (by decide +kernel)
def f_X1_operandAtHand (L : Lay) (σ : Sto) (a0 : Nat) : Option Int32 := (σ.2.1 a0 4).bind fun x1 => (f_X9_letterAtHand L σ x1).bind fun r2 => (f_X1_isNameHere L σ a0 r2).bind fun r3 => (if r3 = 0 then (σ.2.1 a0 4).bind fun x4 => (f_X9_numberAtHand L σ x4).bind fun r5 => some r5 else some (10000 + r2))
def ad_X1_operandAtHand : ADT := fun O L σ as k => match as with
  | [.inr (.inr (.inl (ta0, some a0)))] => bif Nat.beq ta0 1 && true then (f_X1_operandAtHand L σ a0).bind fun r => k (some (vI r)) L σ else none
  | _ => none
abbrev cl_X1_operandAtHand {O : Type} : CLT O := (clc 277 ad_X9_letterAtHand (clc 219 ad_X1_isNameHere (clc 278 ad_X9_numberAtHand cl0)))
theorem hc_X1_operandAtHand (G : GT) (l : Launch) {d : Nat} (hd : 7 ≤ d) {O : Type} : HCL G l (true, true) d (cl_X1_operandAtHand (O := O)) := (hclc (ca_X9_letterAtHand G l (d := 2) (Nat.le_refl _)) (fun _ => rfl) (fun _ => rfl) (by omega) (hclc (ca_X1_isNameHere G l (d := 6) (Nat.le_refl _)) (fun _ => rfl) (fun _ => rfl) (by omega) (hclc (ca_X9_numberAtHand G l (d := 2) (Nat.le_refl _)) (fun _ => rfl) (fun _ => rfl) (by omega) hcl0)))
theorem rt_X1_operandAtHand : retOK (0, 0) (some .int) := ⟨fun _ => rfl, fun h => absurd h (by decide), fun h => absurd h (by decide)⟩
set_option maxRecDepth 20000 in
theorem ca_X1_operandAtHand (G : GT) (l : Launch) {d : Nat} (hd : 7 ≤ d) : CA G l 221 (true, true) d ad_X1_operandAtHand := by
  intro O L σ as k o h hW hok
  unfold ad_X1_operandAtHand at h
  split at h
  · obtain ⟨hq0, hA0⟩ := bif_s h
    obtain ⟨e0, hq1⟩ := beq_and hq0
    subst e0
    obtain ⟨r, hr, hk⟩ := Option.bind_eq_some_iff.mp hA0
    exact ca_of (q := (dcPI L σ) r) (by decide) rfl (Nat.le_of_ble_eq_true rfl) hk (fun _ => rfl) (fun _ => rfl) (exs (sp := []) (K := k0) (L0 := L) (σ0 := σ) ok_X1_operandAtHand rt_X1_operandAtHand (by omega) (hc_X1_operandAtHand G l hd) (hrPI rfl rfl) hk0 19 hr (inv0 hW hok))
  · cases h
def tt_X1_write (pc : Nat) : TI := bif Nat.blt pc 17 then (bif Nat.blt pc 8 then (bif Nat.blt pc 4 then (bif Nat.blt pc 1 then (bif Nat.beq pc 0 then (.aload_n 0, 1, (0, 0, 0), 0, 0, []) else TN) else (bif Nat.beq pc 1 then (.getfield 33, 4, (1, 1, 0), 0, 0, []) else TN)) else (bif Nat.blt pc 5 then (bif Nat.beq pc 4 then (.aload_n 0, 5, (0, 0, 0), 0, 0, []) else TN) else (bif Nat.beq pc 5 then (.getfield 9, 8, (1, 0, 0), 0, 0, []) else TN))) else (bif Nat.blt pc 12 then (bif Nat.blt pc 9 then (bif Nat.beq pc 8 then (.arraylength, 9, (0, 0, 0), 0, 0, []) else TN) else (bif Nat.beq pc 9 then (.if_icmp .ge 23, 12, (32, 0, 0), 0, 0, []) else TN)) else (bif Nat.blt pc 13 then (bif Nat.beq pc 12 then (.aload_n 0, 13, (0, 0, 0), 0, 0, []) else TN) else (bif Nat.blt pc 16 then (bif Nat.beq pc 13 then (.getfield 9, 16, (1, 0, 0), 0, 0, []) else TN) else (bif Nat.beq pc 16 then (.aload_n 0, 17, (0, 0, 0), 0, 0, []) else TN))))) else (bif Nat.blt pc 24 then (bif Nat.blt pc 21 then (bif Nat.blt pc 20 then (bif Nat.beq pc 17 then (.getfield 33, 20, (1, 1, 0), 0, 0, []) else TN) else (bif Nat.beq pc 20 then (.iload_n 1, 21, (1, 0, 0), 0, 0, []) else TN)) else (bif Nat.blt pc 22 then (bif Nat.beq pc 21 then (.iastore, 22, (0, 0, 0), 0, 0, []) else TN) else (bif Nat.blt pc 23 then (bif Nat.beq pc 22 then (.aload_n 0, 23, (0, 0, 0), 0, 0, []) else TN) else (bif Nat.beq pc 23 then (.dup, 24, (0, 0, 0), 0, 0, []) else TN)))) else (bif Nat.blt pc 28 then (bif Nat.blt pc 27 then (bif Nat.beq pc 24 then (.getfield 33, 27, (1, 1, 0), 0, 0, []) else TN) else (bif Nat.beq pc 27 then (.iconst 1, 28, (0, 0, 0), 1, 0, []) else TN)) else (bif Nat.blt pc 29 then (bif Nat.beq pc 28 then (.iadd, 29, (0, 0, 0), 0, 0, []) else TN) else (bif Nat.blt pc 32 then (bif Nat.beq pc 29 then (.putfield 33, 32, (1, 1, 0), 0, 0, []) else TN) else (bif Nat.beq pc 32 then (.return_, 33, (0, 0, 0), 0, 0, []) else TN)))))
def tb_X1_write (pc : Nat) : TI := bif Nat.ble 33 pc then TN else tt_X1_write pc
theorem ok_X1_write : tOK 1 (decide ("write" = "<init>")) cX1_write tb_X1_write := tOK_of 33 tn_of (by decide +kernel)
def f_X1_write (L : Lay) (σ : Sto) (a0 : Nat) (a1 : Int32) : Option Sto := (σ.2.1 a0 0).bind fun x1 => (if (nI (L.2.1 x1)) ≤ (σ.1 a0 1) then some σ else (σ.2.1 a0 0).bind fun x2 => (wI L σ x2 (σ.1 a0 1) a1).bind fun σ3 => (putI σ3 a0 1 ((σ3.1 a0 1) + 1)).bind fun σ4 => some σ4)
def ad_X1_write : ADT := fun O L σ as k => match as with
  | [.inr (.inr (.inl (ta0, some a0))), .inl a1] => bif Nat.beq ta0 1 && true then (f_X1_write L σ a0 a1).bind fun σ2 => k none L σ2 else none
  | _ => none
abbrev cl_X1_write {O : Type} : CLT O := cl0
theorem hc_X1_write (G : GT) (l : Launch) {d : Nat} (hd : 1 ≤ d) {O : Type} : HCL G l (true, false) d (cl_X1_write (O := O)) := hcl0
theorem rt_X1_write : retOK (6, 0) none := ⟨fun h => absurd h (by decide), fun h => absurd h (by decide), fun _ => rfl⟩
set_option maxRecDepth 20000 in
theorem ca_X1_write (G : GT) (l : Launch) {d : Nat} (hd : 1 ≤ d) : CA G l 230 (true, false) d ad_X1_write := by
  intro O L σ as k o h hW hok
  unfold ad_X1_write at h
  split at h
  · obtain ⟨hq0, hA0⟩ := bif_s h
    obtain ⟨e0, hq1⟩ := beq_and hq0
    subst e0
    obtain ⟨r, hr, hk⟩ := Option.bind_eq_some_iff.mp hA0
    exact ca_of (q := (dcV L) r) (by decide) rfl (Nat.le_of_ble_eq_true rfl) hk (fun _ => rfl) (fun e => by cases e) (exs (sp := []) (K := k0) (L0 := L) (σ0 := σ) ok_X1_write rt_X1_write (by omega) (hc_X1_write G l hd) (hrV rfl) hk0 22 hr (inv0 hW hok))
  · cases h
def tt_X9_signAtHand (pc : Nat) : TI := bif Nat.blt pc 10 then (bif Nat.blt pc 5 then (bif Nat.blt pc 1 then (bif Nat.beq pc 0 then (.aload_n 0, 1, (0, 0, 0), 0, 0, []) else TN) else (bif Nat.blt pc 4 then (bif Nat.beq pc 1 then (.getfield 33, 4, (9, 4, 0), 0, 0, []) else TN) else (bif Nat.beq pc 4 then (.iconst 3, 5, (0, 0, 0), 3, 0, []) else TN))) else (bif Nat.blt pc 8 then (bif Nat.beq pc 5 then (.if_icmp .ne 15, 8, (20, 0, 0), 0, 0, []) else TN) else (bif Nat.blt pc 9 then (bif Nat.beq pc 8 then (.aload_n 0, 9, (0, 0, 0), 0, 0, []) else TN) else (bif Nat.beq pc 9 then (.aload_n 0, 10, (0, 0, 0), 0, 0, []) else TN)))) else (bif Nat.blt pc 17 then (bif Nat.blt pc 13 then (bif Nat.beq pc 10 then (.getfield 23, 13, (9, 2, 0), 0, 0, []) else TN) else (bif Nat.blt pc 16 then (bif Nat.beq pc 13 then (.invokevirtual 26, 16, (271, 1, 9), 0, 0, []) else TN) else (bif Nat.beq pc 16 then (.i2c, 17, (0, 0, 0), 0, 0, []) else TN))) else (bif Nat.blt pc 20 then (bif Nat.beq pc 17 then (.goto 4, 20, (21, 0, 0), 0, 0, []) else TN) else (bif Nat.blt pc 21 then (bif Nat.beq pc 20 then (.iconst 0, 21, (0, 0, 0), 0, 0, []) else TN) else (bif Nat.beq pc 21 then (.ireturn, 22, (0, 0, 0), 0, 0, []) else TN))))
def tb_X9_signAtHand (pc : Nat) : TI := bif Nat.ble 22 pc then TN else tt_X9_signAtHand pc
theorem ok_X9_signAtHand : tOK 9 (decide ("signAtHand" = "<init>")) cX9_signAtHand tb_X9_signAtHand := tOK_of 22 tn_of (by decide +kernel)
def f_X9_signAtHand (L : Lay) (σ : Sto) (a0 : Nat) : Option Int32 := (if (σ.1 a0 4) = 3 then (f_X9_byteAt L σ a0 (σ.1 a0 2)).bind fun r1 => (ckN 2 ((r1.toUInt32 % 65536).toInt32)).bind fun _ => some ((r1.toUInt32 % 65536).toInt32) else (ckN 2 0).bind fun _ => some 0)
def ad_X9_signAtHand : ADT := fun O L σ as k => match as with
  | [.inr (.inr (.inl (ta0, some a0)))] => bif Nat.beq ta0 9 && true then (f_X9_signAtHand L σ a0).bind fun r => k (some (vI r)) L σ else none
  | _ => none
abbrev cl_X9_signAtHand {O : Type} : CLT O := (clc 271 ad_X9_byteAt cl0)
theorem hc_X9_signAtHand (G : GT) (l : Launch) {d : Nat} (hd : 2 ≤ d) {O : Type} : HCL G l (true, true) d (cl_X9_signAtHand (O := O)) := (hclc (ca_X9_byteAt G l (d := 1) (Nat.le_refl _)) (fun _ => rfl) (fun _ => rfl) (by omega) hcl0)
theorem rt_X9_signAtHand : retOK (2, 0) (some .char) := ⟨fun _ => rfl, fun h => absurd h (by decide), fun h => absurd h (by decide)⟩
set_option maxRecDepth 20000 in
theorem ca_X9_signAtHand (G : GT) (l : Launch) {d : Nat} (hd : 2 ≤ d) : CA G l 280 (true, true) d ad_X9_signAtHand := by
  intro O L σ as k o h hW hok
  unfold ad_X9_signAtHand at h
  split at h
  · obtain ⟨hq0, hA0⟩ := bif_s h
    obtain ⟨e0, hq1⟩ := beq_and hq0
    subst e0
    obtain ⟨r, hr, hk⟩ := Option.bind_eq_some_iff.mp hA0
    exact ca_of (q := (dcPI L σ) r) (by decide) rfl (Nat.le_of_ble_eq_true rfl) hk (fun _ => rfl) (fun _ => rfl) (exs (sp := []) (K := k0) (L0 := L) (σ0 := σ) ok_X9_signAtHand rt_X9_signAtHand (by omega) (hc_X9_signAtHand G l hd) (hrPI rfl rfl) hk0 15 hr (inv0 hW hok))
  · cases h
def tt_X1_levelOf (pc : Nat) : TI := bif Nat.blt pc 89 then (bif Nat.blt pc 85 then (bif Nat.blt pc 1 then (bif Nat.beq pc 0 then (.iload_n 0, 1, (0, 0, 0), 0, 0, []) else TN) else (bif Nat.blt pc 84 then (bif Nat.beq pc 1 then (.lookupswitch 93 #[(38, 85), (42, 91), (43, 89), (45, 89), (47, 91), (60, 87), (61, 87), (62, 87), (124, 83)], 84, (94, 0, 0), 0, 0, [(38, 86), (42, 92), (43, 90), (45, 90), (47, 92), (60, 88), (61, 88), (62, 88), (124, 84)]) else TN) else (bif Nat.beq pc 84 then (.iconst 0, 85, (0, 0, 0), 0, 0, []) else TN))) else (bif Nat.blt pc 87 then (bif Nat.blt pc 86 then (bif Nat.beq pc 85 then (.ireturn, 86, (0, 0, 0), 0, 0, []) else TN) else (bif Nat.beq pc 86 then (.iconst 1, 87, (0, 0, 0), 1, 0, []) else TN)) else (bif Nat.blt pc 88 then (bif Nat.beq pc 87 then (.ireturn, 88, (0, 0, 0), 0, 0, []) else TN) else (bif Nat.beq pc 88 then (.iconst 2, 89, (0, 0, 0), 2, 0, []) else TN)))) else (bif Nat.blt pc 92 then (bif Nat.blt pc 90 then (bif Nat.beq pc 89 then (.ireturn, 90, (0, 0, 0), 0, 0, []) else TN) else (bif Nat.blt pc 91 then (bif Nat.beq pc 90 then (.iconst 3, 91, (0, 0, 0), 3, 0, []) else TN) else (bif Nat.beq pc 91 then (.ireturn, 92, (0, 0, 0), 0, 0, []) else TN))) else (bif Nat.blt pc 94 then (bif Nat.blt pc 93 then (bif Nat.beq pc 92 then (.iconst 4, 93, (0, 0, 0), 4, 0, []) else TN) else (bif Nat.beq pc 93 then (.ireturn, 94, (0, 0, 0), 0, 0, []) else TN)) else (bif Nat.blt pc 95 then (bif Nat.beq pc 94 then (.iconst (-1), 95, (0, 0, 0), -1, 0, []) else TN) else (bif Nat.beq pc 95 then (.ireturn, 96, (0, 0, 0), 0, 0, []) else TN))))
def tb_X1_levelOf (pc : Nat) : TI := bif Nat.ble 96 pc then TN else tt_X1_levelOf pc
theorem ok_X1_levelOf : tOK 1 (decide ("levelOf" = "<init>")) cX1_levelOf tb_X1_levelOf := tOK_of 96 tn_of (by decide +kernel)
def f_X1_levelOf (L : Lay) (σ : Sto) (a0 : Int32) : Option Int32 := (if a0 = 38 then some 1 else (if a0 = 42 then some 4 else (if a0 = 43 then some 3 else (if a0 = 45 then some 3 else (if a0 = 47 then some 4 else (if a0 = 60 then some 2 else (if a0 = 61 then some 2 else (if a0 = 62 then some 2 else (if a0 = 124 then some 0 else some (-1))))))))))
def ad_X1_levelOf : ADT := fun O L σ as k => match as with
  | [.inl a0] => (f_X1_levelOf L σ a0).bind fun r => k (some (vI r)) L σ
  | _ => none
abbrev cl_X1_levelOf {O : Type} : CLT O := cl0
theorem hc_X1_levelOf (G : GT) (l : Launch) {d : Nat} (hd : 1 ≤ d) {O : Type} : HCL G l (true, true) d (cl_X1_levelOf (O := O)) := hcl0
theorem rt_X1_levelOf : retOK (0, 0) (some .int) := ⟨fun _ => rfl, fun h => absurd h (by decide), fun h => absurd h (by decide)⟩
set_option maxRecDepth 20000 in
theorem ca_X1_levelOf (G : GT) (l : Launch) {d : Nat} (hd : 1 ≤ d) : CA G l 220 (true, true) d ad_X1_levelOf := by
  intro O L σ as k o h hW hok
  unfold ad_X1_levelOf at h
  split at h
  · have hA0 := h
    obtain ⟨r, hr, hk⟩ := Option.bind_eq_some_iff.mp hA0
    exact ca_of (q := (dcPI L σ) r) (by decide) rfl (Nat.le_of_ble_eq_true rfl) hk (fun _ => rfl) (fun _ => rfl) (exs (sp := []) (K := k0) (L0 := L) (σ0 := σ) ok_X1_levelOf rt_X1_levelOf (by omega) (hc_X1_levelOf G l hd) (hrPI rfl rfl) hk0 17 hr (inv0 hW hok))
  · cases h
def adp_X1_readPart (g : Lay → Sto → Nat → Int32 → Int32 → Option (Int32 × Sto)) : ADT := fun O L σ as k => match as with
  | [.inr (.inr (.inl (ta0, some a0))), .inl a1, .inl a2] => bif Nat.beq ta0 1 && true then (g L σ a0 a1 a2).bind fun r => k (some (vI r.1)) L r.2 else none
  | _ => none
def adp_X1_readLevel (g : Lay → Sto → Nat → Int32 → Int32 → Int32 → Option (Int32 × Sto)) : ADT := fun O L σ as k => match as with
  | [.inr (.inr (.inl (ta0, some a0))), .inl a1, .inl a2, .inl a3] => bif Nat.beq ta0 1 && true then (g L σ a0 a1 a2 a3).bind fun r => k (some (vI r.1)) L r.2 else none
  | _ => none
def tt_X1_readPart (pc : Nat) : TI := bif Nat.blt pc 73 then (bif Nat.blt pc 34 then (bif Nat.blt pc 16 then (bif Nat.blt pc 9 then (bif Nat.blt pc 4 then (bif Nat.blt pc 1 then (bif Nat.beq pc 0 then (.aload_n 0, 1, (0, 0, 0), 0, 0, []) else TN) else (bif Nat.beq pc 1 then (.invokevirtual 87, 4, (221, 0, 1), 0, 0, []) else TN)) else (bif Nat.blt pc 5 then (bif Nat.beq pc 4 then (.istore_n 3, 5, (3, 0, 0), 0, 0, []) else TN) else (bif Nat.blt pc 6 then (bif Nat.beq pc 5 then (.iload_n 3, 6, (3, 0, 0), 0, 0, []) else TN) else (bif Nat.beq pc 6 then (.ifCond .lt 27, 9, (33, 0, 0), 0, 0, []) else TN)))) else (bif Nat.blt pc 11 then (bif Nat.blt pc 10 then (bif Nat.beq pc 9 then (.aload_n 0, 10, (0, 0, 0), 0, 0, []) else TN) else (bif Nat.beq pc 10 then (.iload_n 3, 11, (3, 0, 0), 0, 0, []) else TN)) else (bif Nat.blt pc 14 then (bif Nat.beq pc 11 then (.invokevirtual 83, 14, (230, 1, 1), 0, 0, []) else TN) else (bif Nat.blt pc 15 then (bif Nat.beq pc 14 then (.aload_n 0, 15, (0, 0, 0), 0, 0, []) else TN) else (bif Nat.beq pc 15 then (.dup, 16, (0, 0, 0), 0, 0, []) else TN))))) else (bif Nat.blt pc 25 then (bif Nat.blt pc 20 then (bif Nat.blt pc 19 then (bif Nat.beq pc 16 then (.getfield 37, 19, (1, 3, 0), 0, 0, []) else TN) else (bif Nat.beq pc 19 then (.iconst 1, 20, (0, 0, 0), 1, 0, []) else TN)) else (bif Nat.blt pc 21 then (bif Nat.beq pc 20 then (.iadd, 21, (0, 0, 0), 0, 0, []) else TN) else (bif Nat.blt pc 24 then (bif Nat.beq pc 21 then (.putfield 37, 24, (1, 3, 0), 0, 0, []) else TN) else (bif Nat.beq pc 24 then (.aload_n 0, 25, (0, 0, 0), 0, 0, []) else TN)))) else (bif Nat.blt pc 31 then (bif Nat.blt pc 28 then (bif Nat.beq pc 25 then (.getfield 21, 28, (1, 4, 0), 0, 0, []) else TN) else (bif Nat.beq pc 28 then (.invokevirtual 61, 31, (272, 0, 9), 0, 0, []) else TN)) else (bif Nat.blt pc 32 then (bif Nat.beq pc 31 then (.iconst 1, 32, (0, 0, 0), 1, 0, []) else TN) else (bif Nat.blt pc 33 then (bif Nat.beq pc 32 then (.ireturn, 33, (0, 0, 0), 0, 0, []) else TN) else (bif Nat.beq pc 33 then (.aload_n 0, 34, (0, 0, 0), 0, 0, []) else TN)))))) else (bif Nat.blt pc 56 then (bif Nat.blt pc 46 then (bif Nat.blt pc 40 then (bif Nat.blt pc 37 then (bif Nat.beq pc 34 then (.getfield 21, 37, (1, 4, 0), 0, 0, []) else TN) else (bif Nat.beq pc 37 then (.invokevirtual 75, 40, (280, 0, 9), 0, 0, []) else TN)) else (bif Nat.blt pc 42 then (bif Nat.beq pc 40 then (.istore 4, 42, (4, 0, 0), 0, 0, []) else TN) else (bif Nat.blt pc 44 then (bif Nat.beq pc 42 then (.iload 4, 44, (4, 0, 0), 0, 0, []) else TN) else (bif Nat.beq pc 44 then (.bipush 33, 46, (0, 0, 0), 33, 0, []) else TN)))) else (bif Nat.blt pc 50 then (bif Nat.blt pc 49 then (bif Nat.beq pc 46 then (.if_icmp .ne 36, 49, (82, 0, 0), 0, 0, []) else TN) else (bif Nat.beq pc 49 then (.iload_n 2, 50, (2, 0, 0), 0, 0, []) else TN)) else (bif Nat.blt pc 52 then (bif Nat.beq pc 50 then (.bipush 8, 52, (0, 0, 0), 8, 0, []) else TN) else (bif Nat.blt pc 55 then (bif Nat.beq pc 52 then (.if_icmp .ge 30, 55, (82, 0, 0), 0, 0, []) else TN) else (bif Nat.beq pc 55 then (.aload_n 0, 56, (0, 0, 0), 0, 0, []) else TN))))) else (bif Nat.blt pc 65 then (bif Nat.blt pc 62 then (bif Nat.blt pc 59 then (bif Nat.beq pc 56 then (.getfield 21, 59, (1, 4, 0), 0, 0, []) else TN) else (bif Nat.beq pc 59 then (.invokevirtual 61, 62, (272, 0, 9), 0, 0, []) else TN)) else (bif Nat.blt pc 63 then (bif Nat.beq pc 62 then (.aload_n 0, 63, (0, 0, 0), 0, 0, []) else TN) else (bif Nat.blt pc 64 then (bif Nat.beq pc 63 then (.iload_n 1, 64, (1, 0, 0), 0, 0, []) else TN) else (bif Nat.beq pc 64 then (.iload_n 2, 65, (2, 0, 0), 0, 0, []) else TN)))) else (bif Nat.blt pc 67 then (bif Nat.blt pc 66 then (bif Nat.beq pc 65 then (.iconst 1, 66, (0, 0, 0), 1, 0, []) else TN) else (bif Nat.beq pc 66 then (.iadd, 67, (0, 0, 0), 0, 0, []) else TN)) else (bif Nat.blt pc 70 then (bif Nat.beq pc 67 then (.invokevirtual 71, 70, (225, 2, 1), 0, 0, []) else TN) else (bif Nat.blt pc 72 then (bif Nat.beq pc 70 then (.istore 5, 72, (5, 0, 0), 0, 0, []) else TN) else (bif Nat.beq pc 72 then (.aload_n 0, 73, (0, 0, 0), 0, 0, []) else TN))))))) else (bif Nat.blt pc 108 then (bif Nat.blt pc 92 then (bif Nat.blt pc 82 then (bif Nat.blt pc 76 then (bif Nat.blt pc 75 then (bif Nat.beq pc 73 then (.iload 4, 75, (4, 0, 0), 0, 0, []) else TN) else (bif Nat.beq pc 75 then (.ineg, 76, (0, 0, 0), 0, 0, []) else TN)) else (bif Nat.blt pc 79 then (bif Nat.beq pc 76 then (.invokevirtual 83, 79, (230, 1, 1), 0, 0, []) else TN) else (bif Nat.blt pc 81 then (bif Nat.beq pc 79 then (.iload 5, 81, (5, 0, 0), 0, 0, []) else TN) else (bif Nat.beq pc 81 then (.ireturn, 82, (0, 0, 0), 0, 0, []) else TN)))) else (bif Nat.blt pc 86 then (bif Nat.blt pc 84 then (bif Nat.beq pc 82 then (.iload 4, 84, (4, 0, 0), 0, 0, []) else TN) else (bif Nat.beq pc 84 then (.bipush 40, 86, (0, 0, 0), 40, 0, []) else TN)) else (bif Nat.blt pc 89 then (bif Nat.beq pc 86 then (.if_icmp .ne 62, 89, (148, 0, 0), 0, 0, []) else TN) else (bif Nat.blt pc 90 then (bif Nat.beq pc 89 then (.iload_n 1, 90, (1, 0, 0), 0, 0, []) else TN) else (bif Nat.beq pc 90 then (.bipush 8, 92, (0, 0, 0), 8, 0, []) else TN))))) else (bif Nat.blt pc 103 then (bif Nat.blt pc 96 then (bif Nat.blt pc 95 then (bif Nat.beq pc 92 then (.if_icmp .ge 56, 95, (148, 0, 0), 0, 0, []) else TN) else (bif Nat.beq pc 95 then (.aload_n 0, 96, (0, 0, 0), 0, 0, []) else TN)) else (bif Nat.blt pc 99 then (bif Nat.beq pc 96 then (.getfield 21, 99, (1, 4, 0), 0, 0, []) else TN) else (bif Nat.blt pc 102 then (bif Nat.beq pc 99 then (.invokevirtual 61, 102, (272, 0, 9), 0, 0, []) else TN) else (bif Nat.beq pc 102 then (.aload_n 0, 103, (0, 0, 0), 0, 0, []) else TN)))) else (bif Nat.blt pc 105 then (bif Nat.blt pc 104 then (bif Nat.beq pc 103 then (.iconst 0, 104, (0, 0, 0), 0, 0, []) else TN) else (bif Nat.beq pc 104 then (.iload_n 1, 105, (1, 0, 0), 0, 0, []) else TN)) else (bif Nat.blt pc 106 then (bif Nat.beq pc 105 then (.iconst 1, 106, (0, 0, 0), 1, 0, []) else TN) else (bif Nat.blt pc 107 then (bif Nat.beq pc 106 then (.iadd, 107, (0, 0, 0), 0, 0, []) else TN) else (bif Nat.beq pc 107 then (.iload_n 2, 108, (2, 0, 0), 0, 0, []) else TN)))))) else (bif Nat.blt pc 131 then (bif Nat.blt pc 121 then (bif Nat.blt pc 114 then (bif Nat.blt pc 111 then (bif Nat.beq pc 108 then (.invokevirtual 67, 111, (224, 3, 1), 0, 0, []) else TN) else (bif Nat.beq pc 111 then (.ifCond .eq 19, 114, (130, 0, 0), 0, 0, []) else TN)) else (bif Nat.blt pc 115 then (bif Nat.beq pc 114 then (.aload_n 0, 115, (0, 0, 0), 0, 0, []) else TN) else (bif Nat.blt pc 118 then (bif Nat.beq pc 115 then (.getfield 21, 118, (1, 4, 0), 0, 0, []) else TN) else (bif Nat.beq pc 118 then (.invokevirtual 75, 121, (280, 0, 9), 0, 0, []) else TN)))) else (bif Nat.blt pc 126 then (bif Nat.blt pc 123 then (bif Nat.beq pc 121 then (.bipush 41, 123, (0, 0, 0), 41, 0, []) else TN) else (bif Nat.beq pc 123 then (.if_icmp .ne 7, 126, (130, 0, 0), 0, 0, []) else TN)) else (bif Nat.blt pc 127 then (bif Nat.beq pc 126 then (.iconst 1, 127, (0, 0, 0), 1, 0, []) else TN) else (bif Nat.blt pc 130 then (bif Nat.beq pc 127 then (.goto 4, 130, (131, 0, 0), 0, 0, []) else TN) else (bif Nat.beq pc 130 then (.iconst 0, 131, (0, 0, 0), 0, 0, []) else TN))))) else (bif Nat.blt pc 142 then (bif Nat.blt pc 135 then (bif Nat.blt pc 133 then (bif Nat.beq pc 131 then (.istore 5, 133, (5, 0, 0), 0, 0, []) else TN) else (bif Nat.beq pc 133 then (.iload 5, 135, (5, 0, 0), 0, 0, []) else TN)) else (bif Nat.blt pc 138 then (bif Nat.beq pc 135 then (.ifCond .eq 10, 138, (145, 0, 0), 0, 0, []) else TN) else (bif Nat.blt pc 139 then (bif Nat.beq pc 138 then (.aload_n 0, 139, (0, 0, 0), 0, 0, []) else TN) else (bif Nat.beq pc 139 then (.getfield 21, 142, (1, 4, 0), 0, 0, []) else TN)))) else (bif Nat.blt pc 147 then (bif Nat.blt pc 145 then (bif Nat.beq pc 142 then (.invokevirtual 61, 145, (272, 0, 9), 0, 0, []) else TN) else (bif Nat.beq pc 145 then (.iload 5, 147, (5, 0, 0), 0, 0, []) else TN)) else (bif Nat.blt pc 148 then (bif Nat.beq pc 147 then (.ireturn, 148, (0, 0, 0), 0, 0, []) else TN) else (bif Nat.blt pc 149 then (bif Nat.beq pc 148 then (.iconst 0, 149, (0, 0, 0), 0, 0, []) else TN) else (bif Nat.beq pc 149 then (.ireturn, 150, (0, 0, 0), 0, 0, []) else TN)))))))
def tb_X1_readPart (pc : Nat) : TI := bif Nat.ble 150 pc then TN else tt_X1_readPart pc
theorem ok_X1_readPart : tOK 1 (decide ("readPart" = "<init>")) cX1_readPart tb_X1_readPart := tOK_of 150 tn_of (by decide +kernel)
def f_X1_readPart_131 (g_X1_readPart : Lay → Sto → Nat → Int32 → Int32 → Option (Int32 × Sto)) (g_X1_readLevel : Lay → Sto → Nat → Int32 → Int32 → Int32 → Option (Int32 × Sto)) (L : Lay) (σ : Sto) (a0 : Nat) (a4 : Int32) (s0 : Int32) : Option (Int32 × Sto) := (if s0 = 0 then (ckN 1 s0).bind fun _ => some (s0, σ) else (σ.2.1 a0 4).bind fun x1 => (f_X9_goOn L σ x1).bind fun σ2 => (ckN 1 s0).bind fun _ => some (s0, σ2))
def A_X1_readPart_131 (c : Lay → Sto → Nat → Int32 → Int32 → Option (Int32 × Sto)) (lc : List (Option AV)) (st : List AV) (L : Lay) (σ : Sto) : Option (Int32 × Sto) := match lc, st with
  | [some (.inr (.inr (.inl (ta0, some a0)))), _, _, _, some (.inl a4), _], [.inl s0] => bif Nat.beq ta0 1 && true then c L σ a0 a4 s0 else none
  | _, _ => none
def f_X1_readPart_130 (g_X1_readPart : Lay → Sto → Nat → Int32 → Int32 → Option (Int32 × Sto)) (g_X1_readLevel : Lay → Sto → Nat → Int32 → Int32 → Int32 → Option (Int32 × Sto)) (L : Lay) (σ : Sto) (a0 : Nat) (a4 : Int32) : Option (Int32 × Sto) := (f_X1_readPart_131 g_X1_readPart g_X1_readLevel) L σ a0 a4 0
def A_X1_readPart_130 (c : Lay → Sto → Nat → Int32 → Option (Int32 × Sto)) (lc : List (Option AV)) (st : List AV) (L : Lay) (σ : Sto) : Option (Int32 × Sto) := match lc, st with
  | [some (.inr (.inr (.inl (ta0, some a0)))), _, _, _, some (.inl a4), _], [] => bif Nat.beq ta0 1 && true then c L σ a0 a4 else none
  | _, _ => none
def f_X1_readPart_82 (g_X1_readPart : Lay → Sto → Nat → Int32 → Int32 → Option (Int32 × Sto)) (g_X1_readLevel : Lay → Sto → Nat → Int32 → Int32 → Int32 → Option (Int32 × Sto)) (L : Lay) (σ : Sto) (a0 : Nat) (a1 : Int32) (a2 : Int32) (a4 : Int32) : Option (Int32 × Sto) := (if a4 = 40 then (if 8 ≤ a1 then (ckN 1 0).bind fun _ => some (0, σ) else (σ.2.1 a0 4).bind fun x3 => (f_X9_goOn L σ x3).bind fun σ4 => (g_X1_readLevel L σ4 a0 0 (a1 + 1) a2).bind fun r5 => (if r5.1 = 0 then (f_X1_readPart_130 g_X1_readPart g_X1_readLevel) L r5.2 a0 a4 else (r5.2.2.1 a0 4).bind fun x6 => (f_X9_signAtHand L r5.2 x6).bind fun r7 => (if r7 = 41 then (f_X1_readPart_131 g_X1_readPart g_X1_readLevel) L r5.2 a0 a4 1 else (f_X1_readPart_130 g_X1_readPart g_X1_readLevel) L r5.2 a0 a4))) else (ckN 1 0).bind fun _ => some (0, σ))
def A_X1_readPart_82 (c : Lay → Sto → Nat → Int32 → Int32 → Int32 → Option (Int32 × Sto)) (lc : List (Option AV)) (st : List AV) (L : Lay) (σ : Sto) : Option (Int32 × Sto) := match lc, st with
  | [some (.inr (.inr (.inl (ta0, some a0)))), some (.inl a1), some (.inl a2), _, some (.inl a4), _], [] => bif Nat.beq ta0 1 && true then c L σ a0 a1 a2 a4 else none
  | _, _ => none
def fb_X1_readPart (g_X1_readPart : Lay → Sto → Nat → Int32 → Int32 → Option (Int32 × Sto)) (g_X1_readLevel : Lay → Sto → Nat → Int32 → Int32 → Int32 → Option (Int32 × Sto)) (L : Lay) (σ : Sto) (a0 : Nat) (a1 : Int32) (a2 : Int32) : Option (Int32 × Sto) := (f_X1_operandAtHand L σ a0).bind fun r8 => (if r8 < 0 then (σ.2.1 a0 4).bind fun x9 => (f_X9_signAtHand L σ x9).bind fun r10 => (if r10 = 33 then (if 8 ≤ a2 then (f_X1_readPart_82 g_X1_readPart g_X1_readLevel) L σ a0 a1 a2 r10 else (σ.2.1 a0 4).bind fun x11 => (f_X9_goOn L σ x11).bind fun σ12 => (g_X1_readPart L σ12 a0 a1 (a2 + 1)).bind fun r13 => (f_X1_write L r13.2 a0 (-r10)).bind fun σ14 => (ckN 1 r13.1).bind fun _ => some (r13.1, σ14)) else (f_X1_readPart_82 g_X1_readPart g_X1_readLevel) L σ a0 a1 a2 r10) else (f_X1_write L σ a0 r8).bind fun σ15 => (putI σ15 a0 3 ((σ15.1 a0 3) + 1)).bind fun σ16 => (σ16.2.1 a0 4).bind fun x17 => (f_X9_goOn L σ16 x17).bind fun σ18 => (ckN 1 1).bind fun _ => some (1, σ18))
abbrev cl_X1_readPart (g_X1_readPart : Lay → Sto → Nat → Int32 → Int32 → Option (Int32 × Sto)) (g_X1_readLevel : Lay → Sto → Nat → Int32 → Int32 → Int32 → Option (Int32 × Sto)) {O : Type} : CLT O := (clc 272 ad_X9_goOn (clc 224 (adp_X1_readLevel g_X1_readLevel) (clc 280 ad_X9_signAtHand (clc 221 ad_X1_operandAtHand (clc 225 (adp_X1_readPart g_X1_readPart) (clc 230 ad_X1_write cl0))))))
theorem hc_X1_readPart (G : GT) (l : Launch) {d : Nat} (hd : 8 ≤ d) {dr : Nat} (hdr : dr + 1 ≤ d) {g_X1_readPart : Lay → Sto → Nat → Int32 → Int32 → Option (Int32 × Sto)} {g_X1_readLevel : Lay → Sto → Nat → Int32 → Int32 → Int32 → Option (Int32 × Sto)} (hg_X1_readPart : CA G l 225 (true, false) dr (adp_X1_readPart g_X1_readPart)) (hg_X1_readLevel : CA G l 224 (true, false) dr (adp_X1_readLevel g_X1_readLevel)) {O : Type} : HCL G l (true, false) d (cl_X1_readPart g_X1_readPart g_X1_readLevel (O := O)) := (hclc (ca_X9_goOn G l (d := 3) (Nat.le_refl _)) (fun _ => rfl) (fun e => by cases e) (by omega) (hclc hg_X1_readLevel (fun _ => rfl) (fun e => by cases e) hdr (hclc (ca_X9_signAtHand G l (d := 2) (Nat.le_refl _)) (fun _ => rfl) (fun e => by cases e) (by omega) (hclc (ca_X1_operandAtHand G l (d := 7) (Nat.le_refl _)) (fun _ => rfl) (fun e => by cases e) (by omega) (hclc hg_X1_readPart (fun _ => rfl) (fun e => by cases e) hdr (hclc (ca_X1_write G l (d := 1) (Nat.le_refl _)) (fun _ => rfl) (fun e => by cases e) (by omega) hcl0))))))
theorem rt_X1_readPart : retOK (1, 0) (some .boolean) := ⟨fun _ => rfl, fun h => absurd h (by decide), fun h => absurd h (by decide)⟩
set_option maxRecDepth 20000 in
theorem b_X1_readPart_131 {G : GT} {l : Launch} {d : Nat} {L0 : Lay} {σ0 : Sto} (hd : 8 ≤ d) {dr : Nat} (hdr : dr + 1 ≤ d) {g_X1_readPart : Lay → Sto → Nat → Int32 → Int32 → Option (Int32 × Sto)} {g_X1_readLevel : Lay → Sto → Nat → Int32 → Int32 → Int32 → Option (Int32 × Sto)} (hg_X1_readPart : CA G l 225 (true, false) dr (adp_X1_readPart g_X1_readPart)) (hg_X1_readLevel : CA G l 224 (true, false) dr (adp_X1_readLevel g_X1_readLevel)) : HF G l 1 "readPart" cX1_readPart 6 (some .boolean) d L0 σ0 (true, false) (dcI L0) 131 (A_X1_readPart_131 (f_X1_readPart_131 g_X1_readPart g_X1_readLevel)) := by
  intro lc st L σ o h hI
  unfold A_X1_readPart_131 at h
  split at h
  · obtain ⟨hq0, hA1⟩ := bif_s h
    obtain ⟨e0, hq1⟩ := beq_and hq0
    subst e0
    exact exs (sp := []) (K := k0) ok_X1_readPart rt_X1_readPart (by omega) (hc_X1_readPart G l hd hdr hg_X1_readPart hg_X1_readLevel) (hrI rfl) hk0 83 hA1 hI
  · cases h
set_option maxRecDepth 20000 in
theorem b_X1_readPart_130 {G : GT} {l : Launch} {d : Nat} {L0 : Lay} {σ0 : Sto} (hd : 8 ≤ d) {dr : Nat} (hdr : dr + 1 ≤ d) {g_X1_readPart : Lay → Sto → Nat → Int32 → Int32 → Option (Int32 × Sto)} {g_X1_readLevel : Lay → Sto → Nat → Int32 → Int32 → Int32 → Option (Int32 × Sto)} (hg_X1_readPart : CA G l 225 (true, false) dr (adp_X1_readPart g_X1_readPart)) (hg_X1_readLevel : CA G l 224 (true, false) dr (adp_X1_readLevel g_X1_readLevel)) : HF G l 1 "readPart" cX1_readPart 6 (some .boolean) d L0 σ0 (true, false) (dcI L0) 130 (A_X1_readPart_130 (f_X1_readPart_130 g_X1_readPart g_X1_readLevel)) := by
  intro lc st L σ o h hI
  unfold A_X1_readPart_130 at h
  split at h
  · obtain ⟨hq0, hA1⟩ := bif_s h
    obtain ⟨e0, hq1⟩ := beq_and hq0
    subst e0
    exact exs (sp := [131]) (K := (kc 131 (A_X1_readPart_131 (f_X1_readPart_131 g_X1_readPart g_X1_readLevel)) k0)) ok_X1_readPart rt_X1_readPart (by omega) (hc_X1_readPart G l hd hdr hg_X1_readPart hg_X1_readLevel) (hrI rfl) (hkc (b_X1_readPart_131 hd hdr hg_X1_readPart hg_X1_readLevel) hk0) 83 hA1 hI
  · cases h
set_option maxRecDepth 20000 in
theorem b_X1_readPart_82 {G : GT} {l : Launch} {d : Nat} {L0 : Lay} {σ0 : Sto} (hd : 8 ≤ d) {dr : Nat} (hdr : dr + 1 ≤ d) {g_X1_readPart : Lay → Sto → Nat → Int32 → Int32 → Option (Int32 × Sto)} {g_X1_readLevel : Lay → Sto → Nat → Int32 → Int32 → Int32 → Option (Int32 × Sto)} (hg_X1_readPart : CA G l 225 (true, false) dr (adp_X1_readPart g_X1_readPart)) (hg_X1_readLevel : CA G l 224 (true, false) dr (adp_X1_readLevel g_X1_readLevel)) : HF G l 1 "readPart" cX1_readPart 6 (some .boolean) d L0 σ0 (true, false) (dcI L0) 82 (A_X1_readPart_82 (f_X1_readPart_82 g_X1_readPart g_X1_readLevel)) := by
  intro lc st L σ o h hI
  unfold A_X1_readPart_82 at h
  split at h
  · obtain ⟨hq0, hA1⟩ := bif_s h
    obtain ⟨e0, hq1⟩ := beq_and hq0
    subst e0
    exact exs (sp := [130, 131]) (K := (kc 130 (A_X1_readPart_130 (f_X1_readPart_130 g_X1_readPart g_X1_readLevel)) (kc 131 (A_X1_readPart_131 (f_X1_readPart_131 g_X1_readPart g_X1_readLevel)) k0))) ok_X1_readPart rt_X1_readPart (by omega) (hc_X1_readPart G l hd hdr hg_X1_readPart hg_X1_readLevel) (hrI rfl) (hkc (b_X1_readPart_130 hd hdr hg_X1_readPart hg_X1_readLevel) (hkc (b_X1_readPart_131 hd hdr hg_X1_readPart hg_X1_readLevel) hk0)) 83 hA1 hI
  · cases h
set_option maxRecDepth 20000 in
theorem cb_X1_readPart (G : GT) (l : Launch) {d : Nat} (hd : 8 ≤ d) {dr : Nat} (hdr : dr + 1 ≤ d) {g_X1_readPart : Lay → Sto → Nat → Int32 → Int32 → Option (Int32 × Sto)} {g_X1_readLevel : Lay → Sto → Nat → Int32 → Int32 → Int32 → Option (Int32 × Sto)} (hg_X1_readPart : CA G l 225 (true, false) dr (adp_X1_readPart g_X1_readPart)) (hg_X1_readLevel : CA G l 224 (true, false) dr (adp_X1_readLevel g_X1_readLevel)) : CA G l 225 (true, false) d (adp_X1_readPart (fb_X1_readPart g_X1_readPart g_X1_readLevel)) := by
  intro O L σ as k o h hW hok
  unfold adp_X1_readPart at h
  split at h
  · obtain ⟨hq0, hA0⟩ := bif_s h
    obtain ⟨e0, hq1⟩ := beq_and hq0
    subst e0
    obtain ⟨r, hr, hk⟩ := Option.bind_eq_some_iff.mp hA0
    exact ca_of (q := (dcI L) r) (by decide) rfl (Nat.le_of_ble_eq_true rfl) hk (fun _ => rfl) (fun e => by cases e) (exs (sp := [82]) (K := (kc 82 (A_X1_readPart_82 (f_X1_readPart_82 g_X1_readPart g_X1_readLevel)) k0)) (L0 := L) (σ0 := σ) ok_X1_readPart rt_X1_readPart (by omega) (hc_X1_readPart G l hd hdr hg_X1_readPart hg_X1_readLevel) (hrI rfl) (hkc (b_X1_readPart_82 hd hdr hg_X1_readPart hg_X1_readLevel) hk0) 83 hr (inv0 hW hok))
  · cases h
def tt_X1_readLevel (pc : Nat) : TI := bif Nat.blt pc 48 then (bif Nat.blt pc 18 then (bif Nat.blt pc 11 then (bif Nat.blt pc 5 then (bif Nat.blt pc 1 then (bif Nat.beq pc 0 then (.iload_n 1, 1, (1, 0, 0), 0, 0, []) else TN) else (bif Nat.blt pc 2 then (bif Nat.beq pc 1 then (.iconst 5, 2, (0, 0, 0), 5, 0, []) else TN) else (bif Nat.beq pc 2 then (.if_icmp .lt 10, 5, (12, 0, 0), 0, 0, []) else TN))) else (bif Nat.blt pc 7 then (bif Nat.blt pc 6 then (bif Nat.beq pc 5 then (.aload_n 0, 6, (0, 0, 0), 0, 0, []) else TN) else (bif Nat.beq pc 6 then (.iload_n 2, 7, (2, 0, 0), 0, 0, []) else TN)) else (bif Nat.blt pc 8 then (bif Nat.beq pc 7 then (.iload_n 3, 8, (3, 0, 0), 0, 0, []) else TN) else (bif Nat.beq pc 8 then (.invokevirtual 71, 11, (225, 2, 1), 0, 0, []) else TN)))) else (bif Nat.blt pc 14 then (bif Nat.blt pc 12 then (bif Nat.beq pc 11 then (.ireturn, 12, (0, 0, 0), 0, 0, []) else TN) else (bif Nat.blt pc 13 then (bif Nat.beq pc 12 then (.aload_n 0, 13, (0, 0, 0), 0, 0, []) else TN) else (bif Nat.beq pc 13 then (.iload_n 1, 14, (1, 0, 0), 0, 0, []) else TN))) else (bif Nat.blt pc 16 then (bif Nat.blt pc 15 then (bif Nat.beq pc 14 then (.iconst 1, 15, (0, 0, 0), 1, 0, []) else TN) else (bif Nat.beq pc 15 then (.iadd, 16, (0, 0, 0), 0, 0, []) else TN)) else (bif Nat.blt pc 17 then (bif Nat.beq pc 16 then (.iload_n 2, 17, (2, 0, 0), 0, 0, []) else TN) else (bif Nat.beq pc 17 then (.iload_n 3, 18, (3, 0, 0), 0, 0, []) else TN))))) else (bif Nat.blt pc 32 then (bif Nat.blt pc 24 then (bif Nat.blt pc 21 then (bif Nat.beq pc 18 then (.invokevirtual 67, 21, (224, 3, 1), 0, 0, []) else TN) else (bif Nat.blt pc 23 then (bif Nat.beq pc 21 then (.istore 4, 23, (4, 0, 0), 0, 0, []) else TN) else (bif Nat.beq pc 23 then (.iload_n 1, 24, (1, 0, 0), 0, 0, []) else TN))) else (bif Nat.blt pc 28 then (bif Nat.blt pc 25 then (bif Nat.beq pc 24 then (.iconst 2, 25, (0, 0, 0), 2, 0, []) else TN) else (bif Nat.beq pc 25 then (.if_icmp .ne 7, 28, (32, 0, 0), 0, 0, []) else TN)) else (bif Nat.blt pc 29 then (bif Nat.beq pc 28 then (.iconst 1, 29, (0, 0, 0), 1, 0, []) else TN) else (bif Nat.beq pc 29 then (.goto 5, 32, (34, 0, 0), 0, 0, []) else TN)))) else (bif Nat.blt pc 39 then (bif Nat.blt pc 36 then (bif Nat.blt pc 34 then (bif Nat.beq pc 32 then (.bipush 108, 34, (0, 0, 0), 108, 0, []) else TN) else (bif Nat.beq pc 34 then (.istore 5, 36, (5, 0, 0), 0, 0, []) else TN)) else (bif Nat.blt pc 37 then (bif Nat.beq pc 36 then (.iconst 0, 37, (0, 0, 0), 0, 0, []) else TN) else (bif Nat.beq pc 37 then (.istore 6, 39, (6, 0, 0), 0, 0, []) else TN))) else (bif Nat.blt pc 43 then (bif Nat.blt pc 41 then (bif Nat.beq pc 39 then (.iload 6, 41, (6, 0, 0), 0, 0, []) else TN) else (bif Nat.beq pc 41 then (.iload 5, 43, (5, 0, 0), 0, 0, []) else TN)) else (bif Nat.blt pc 46 then (bif Nat.beq pc 43 then (.if_icmp .ge 62, 46, (105, 0, 0), 0, 0, []) else TN) else (bif Nat.beq pc 46 then (.iload 4, 48, (4, 0, 0), 0, 0, []) else TN)))))) else (bif Nat.blt pc 82 then (bif Nat.blt pc 65 then (bif Nat.blt pc 55 then (bif Nat.blt pc 51 then (bif Nat.beq pc 48 then (.ifCond .eq 57, 51, (105, 0, 0), 0, 0, []) else TN) else (bif Nat.blt pc 52 then (bif Nat.beq pc 51 then (.aload_n 0, 52, (0, 0, 0), 0, 0, []) else TN) else (bif Nat.beq pc 52 then (.getfield 21, 55, (1, 4, 0), 0, 0, []) else TN))) else (bif Nat.blt pc 61 then (bif Nat.blt pc 58 then (bif Nat.beq pc 55 then (.invokevirtual 75, 58, (280, 0, 9), 0, 0, []) else TN) else (bif Nat.beq pc 58 then (.invokestatic 79, 61, (220, 1, 0), 0, 0, []) else TN)) else (bif Nat.blt pc 62 then (bif Nat.beq pc 61 then (.iload_n 1, 62, (1, 0, 0), 0, 0, []) else TN) else (bif Nat.beq pc 62 then (.if_icmp .ne 43, 65, (105, 0, 0), 0, 0, []) else TN)))) else (bif Nat.blt pc 74 then (bif Nat.blt pc 69 then (bif Nat.blt pc 66 then (bif Nat.beq pc 65 then (.aload_n 0, 66, (0, 0, 0), 0, 0, []) else TN) else (bif Nat.beq pc 66 then (.getfield 21, 69, (1, 4, 0), 0, 0, []) else TN)) else (bif Nat.blt pc 72 then (bif Nat.beq pc 69 then (.invokevirtual 75, 72, (280, 0, 9), 0, 0, []) else TN) else (bif Nat.beq pc 72 then (.istore 7, 74, (7, 0, 0), 0, 0, []) else TN))) else (bif Nat.blt pc 78 then (bif Nat.blt pc 75 then (bif Nat.beq pc 74 then (.aload_n 0, 75, (0, 0, 0), 0, 0, []) else TN) else (bif Nat.beq pc 75 then (.getfield 21, 78, (1, 4, 0), 0, 0, []) else TN)) else (bif Nat.blt pc 81 then (bif Nat.beq pc 78 then (.invokevirtual 61, 81, (272, 0, 9), 0, 0, []) else TN) else (bif Nat.beq pc 81 then (.aload_n 0, 82, (0, 0, 0), 0, 0, []) else TN))))) else (bif Nat.blt pc 92 then (bif Nat.blt pc 85 then (bif Nat.blt pc 83 then (bif Nat.beq pc 82 then (.iload_n 1, 83, (1, 0, 0), 0, 0, []) else TN) else (bif Nat.blt pc 84 then (bif Nat.beq pc 83 then (.iconst 1, 84, (0, 0, 0), 1, 0, []) else TN) else (bif Nat.beq pc 84 then (.iadd, 85, (0, 0, 0), 0, 0, []) else TN))) else (bif Nat.blt pc 87 then (bif Nat.blt pc 86 then (bif Nat.beq pc 85 then (.iload_n 2, 86, (2, 0, 0), 0, 0, []) else TN) else (bif Nat.beq pc 86 then (.iload_n 3, 87, (3, 0, 0), 0, 0, []) else TN)) else (bif Nat.blt pc 90 then (bif Nat.beq pc 87 then (.invokevirtual 67, 90, (224, 3, 1), 0, 0, []) else TN) else (bif Nat.beq pc 90 then (.istore 4, 92, (4, 0, 0), 0, 0, []) else TN)))) else (bif Nat.blt pc 99 then (bif Nat.blt pc 95 then (bif Nat.blt pc 93 then (bif Nat.beq pc 92 then (.aload_n 0, 93, (0, 0, 0), 0, 0, []) else TN) else (bif Nat.beq pc 93 then (.iload 7, 95, (7, 0, 0), 0, 0, []) else TN)) else (bif Nat.blt pc 96 then (bif Nat.beq pc 95 then (.ineg, 96, (0, 0, 0), 0, 0, []) else TN) else (bif Nat.beq pc 96 then (.invokevirtual 83, 99, (230, 1, 1), 0, 0, []) else TN))) else (bif Nat.blt pc 105 then (bif Nat.blt pc 102 then (bif Nat.beq pc 99 then (.iinc 6 1, 102, (6, 0, 0), 1, 0, []) else TN) else (bif Nat.beq pc 102 then (.goto (-63), 105, (39, 0, 0), 0, 0, []) else TN)) else (bif Nat.blt pc 107 then (bif Nat.beq pc 105 then (.iload 4, 107, (4, 0, 0), 0, 0, []) else TN) else (bif Nat.beq pc 107 then (.ireturn, 108, (0, 0, 0), 0, 0, []) else TN))))))
def tb_X1_readLevel (pc : Nat) : TI := bif Nat.ble 108 pc then TN else tt_X1_readLevel pc
theorem ok_X1_readLevel : tOK 1 (decide ("readLevel" = "<init>")) cX1_readLevel tb_X1_readLevel := tOK_of 108 tn_of (by decide +kernel)
def f_X1_readLevel_39 (g_X1_readPart : Lay → Sto → Nat → Int32 → Int32 → Option (Int32 × Sto)) (g_X1_readLevel : Lay → Sto → Nat → Int32 → Int32 → Int32 → Option (Int32 × Sto)) : Nat → Lay → Sto → Nat → Int32 → Int32 → Int32 → Int32 → Int32 → Int32 → Option (Int32 × Sto)
  | 0 => fun _ _ _ _ _ _ _ _ _ => none
  | k + 1 => fun L σ a0 a1 a2 a3 a4 a5 a6 => (if a5 ≤ a6 then (ckN 1 a4).bind fun _ => some (a4, σ) else (if a4 = 0 then (ckN 1 a4).bind fun _ => some (a4, σ) else (σ.2.1 a0 4).bind fun x1 => (f_X9_signAtHand L σ x1).bind fun r2 => (f_X1_levelOf L σ r2).bind fun r3 => (if r3 = a1 then (σ.2.1 a0 4).bind fun x4 => (f_X9_signAtHand L σ x4).bind fun r5 => (σ.2.1 a0 4).bind fun x6 => (f_X9_goOn L σ x6).bind fun σ7 => (g_X1_readLevel L σ7 a0 (a1 + 1) a2 a3).bind fun r8 => (f_X1_write L r8.2 a0 (-r5)).bind fun σ9 => (f_X1_readLevel_39 g_X1_readPart g_X1_readLevel k) L σ9 a0 a1 a2 a3 r8.1 a5 (a6 + 1) else (ckN 1 a4).bind fun _ => some (a4, σ))))
def A_X1_readLevel_39 (c : Lay → Sto → Nat → Int32 → Int32 → Int32 → Int32 → Int32 → Int32 → Option (Int32 × Sto)) (lc : List (Option AV)) (st : List AV) (L : Lay) (σ : Sto) : Option (Int32 × Sto) := match lc, st with
  | [some (.inr (.inr (.inl (ta0, some a0)))), some (.inl a1), some (.inl a2), some (.inl a3), some (.inl a4), some (.inl a5), some (.inl a6), _], [] => bif Nat.beq ta0 1 && true then c L σ a0 a1 a2 a3 a4 a5 a6 else none
  | _, _ => none
def f_X1_readLevel_34 (g_X1_readPart : Lay → Sto → Nat → Int32 → Int32 → Option (Int32 × Sto)) (g_X1_readLevel : Lay → Sto → Nat → Int32 → Int32 → Int32 → Option (Int32 × Sto)) (L : Lay) (σ : Sto) (a0 : Nat) (a1 : Int32) (a2 : Int32) (a3 : Int32) (a4 : Int32) (s0 : Int32) : Option (Int32 × Sto) := (f_X1_readLevel_39 g_X1_readPart g_X1_readLevel FU) L σ a0 a1 a2 a3 a4 s0 0
def A_X1_readLevel_34 (c : Lay → Sto → Nat → Int32 → Int32 → Int32 → Int32 → Int32 → Option (Int32 × Sto)) (lc : List (Option AV)) (st : List AV) (L : Lay) (σ : Sto) : Option (Int32 × Sto) := match lc, st with
  | [some (.inr (.inr (.inl (ta0, some a0)))), some (.inl a1), some (.inl a2), some (.inl a3), some (.inl a4), _, _, _], [.inl s0] => bif Nat.beq ta0 1 && true then c L σ a0 a1 a2 a3 a4 s0 else none
  | _, _ => none
def fb_X1_readLevel (g_X1_readPart : Lay → Sto → Nat → Int32 → Int32 → Option (Int32 × Sto)) (g_X1_readLevel : Lay → Sto → Nat → Int32 → Int32 → Int32 → Option (Int32 × Sto)) (L : Lay) (σ : Sto) (a0 : Nat) (a1 : Int32) (a2 : Int32) (a3 : Int32) : Option (Int32 × Sto) := (if a1 < 5 then (g_X1_readLevel L σ a0 (a1 + 1) a2 a3).bind fun r10 => (if a1 = 2 then (f_X1_readLevel_34 g_X1_readPart g_X1_readLevel) L r10.2 a0 a1 a2 a3 r10.1 1 else (f_X1_readLevel_34 g_X1_readPart g_X1_readLevel) L r10.2 a0 a1 a2 a3 r10.1 108) else (g_X1_readPart L σ a0 a2 a3).bind fun r11 => (ckN 1 r11.1).bind fun _ => some (r11.1, r11.2))
abbrev cl_X1_readLevel (g_X1_readPart : Lay → Sto → Nat → Int32 → Int32 → Option (Int32 × Sto)) (g_X1_readLevel : Lay → Sto → Nat → Int32 → Int32 → Int32 → Option (Int32 × Sto)) {O : Type} : CLT O := (clc 280 ad_X9_signAtHand (clc 220 ad_X1_levelOf (clc 272 ad_X9_goOn (clc 224 (adp_X1_readLevel g_X1_readLevel) (clc 230 ad_X1_write (clc 225 (adp_X1_readPart g_X1_readPart) cl0))))))
theorem hc_X1_readLevel (G : GT) (l : Launch) {d : Nat} (hd : 4 ≤ d) {dr : Nat} (hdr : dr + 1 ≤ d) {g_X1_readPart : Lay → Sto → Nat → Int32 → Int32 → Option (Int32 × Sto)} {g_X1_readLevel : Lay → Sto → Nat → Int32 → Int32 → Int32 → Option (Int32 × Sto)} (hg_X1_readPart : CA G l 225 (true, false) dr (adp_X1_readPart g_X1_readPart)) (hg_X1_readLevel : CA G l 224 (true, false) dr (adp_X1_readLevel g_X1_readLevel)) {O : Type} : HCL G l (true, false) d (cl_X1_readLevel g_X1_readPart g_X1_readLevel (O := O)) := (hclc (ca_X9_signAtHand G l (d := 2) (Nat.le_refl _)) (fun _ => rfl) (fun e => by cases e) (by omega) (hclc (ca_X1_levelOf G l (d := 1) (Nat.le_refl _)) (fun _ => rfl) (fun e => by cases e) (by omega) (hclc (ca_X9_goOn G l (d := 3) (Nat.le_refl _)) (fun _ => rfl) (fun e => by cases e) (by omega) (hclc hg_X1_readLevel (fun _ => rfl) (fun e => by cases e) hdr (hclc (ca_X1_write G l (d := 1) (Nat.le_refl _)) (fun _ => rfl) (fun e => by cases e) (by omega) (hclc hg_X1_readPart (fun _ => rfl) (fun e => by cases e) hdr hcl0))))))
theorem rt_X1_readLevel : retOK (1, 0) (some .boolean) := ⟨fun _ => rfl, fun h => absurd h (by decide), fun h => absurd h (by decide)⟩
set_option maxRecDepth 20000 in
theorem b_X1_readLevel_39 {G : GT} {l : Launch} {d : Nat} {L0 : Lay} {σ0 : Sto} (hd : 4 ≤ d) {dr : Nat} (hdr : dr + 1 ≤ d) {g_X1_readPart : Lay → Sto → Nat → Int32 → Int32 → Option (Int32 × Sto)} {g_X1_readLevel : Lay → Sto → Nat → Int32 → Int32 → Int32 → Option (Int32 × Sto)} (hg_X1_readPart : CA G l 225 (true, false) dr (adp_X1_readPart g_X1_readPart)) (hg_X1_readLevel : CA G l 224 (true, false) dr (adp_X1_readLevel g_X1_readLevel)) : ∀ k : Nat, HF G l 1 "readLevel" cX1_readLevel 8 (some .boolean) d L0 σ0 (true, false) (dcI L0) 39 (A_X1_readLevel_39 (f_X1_readLevel_39 g_X1_readPart g_X1_readLevel k))
  | 0 => by
    intro lc st L σ o h hI
    unfold A_X1_readLevel_39 at h
    split at h
    · obtain ⟨_, hA1⟩ := bif_s h
      cases hA1
    · cases h
  | k + 1 => by
    have ih := b_X1_readLevel_39 (G := G) (l := l) (d := d) (L0 := L0) (σ0 := σ0) hd hdr hg_X1_readPart hg_X1_readLevel k
    intro lc st L σ o h hI
    unfold A_X1_readLevel_39 at h
    split at h
    · obtain ⟨hq0, hA1⟩ := bif_s h
      obtain ⟨e0, hq1⟩ := beq_and hq0
      subst e0
      exact exs (sp := [39]) (K := (kc 39 (A_X1_readLevel_39 (f_X1_readLevel_39 g_X1_readPart g_X1_readLevel k)) k0)) ok_X1_readLevel rt_X1_readLevel (by omega) (hc_X1_readLevel G l hd hdr hg_X1_readPart hg_X1_readLevel) (hrI rfl) (hkc ih hk0) 62 hA1 hI
    · cases h
set_option maxRecDepth 20000 in
theorem b_X1_readLevel_34 {G : GT} {l : Launch} {d : Nat} {L0 : Lay} {σ0 : Sto} (hd : 4 ≤ d) {dr : Nat} (hdr : dr + 1 ≤ d) {g_X1_readPart : Lay → Sto → Nat → Int32 → Int32 → Option (Int32 × Sto)} {g_X1_readLevel : Lay → Sto → Nat → Int32 → Int32 → Int32 → Option (Int32 × Sto)} (hg_X1_readPart : CA G l 225 (true, false) dr (adp_X1_readPart g_X1_readPart)) (hg_X1_readLevel : CA G l 224 (true, false) dr (adp_X1_readLevel g_X1_readLevel)) : HF G l 1 "readLevel" cX1_readLevel 8 (some .boolean) d L0 σ0 (true, false) (dcI L0) 34 (A_X1_readLevel_34 (f_X1_readLevel_34 g_X1_readPart g_X1_readLevel)) := by
  intro lc st L σ o h hI
  unfold A_X1_readLevel_34 at h
  split at h
  · obtain ⟨hq0, hA1⟩ := bif_s h
    obtain ⟨e0, hq1⟩ := beq_and hq0
    subst e0
    exact exs (sp := [39]) (K := (kc 39 (A_X1_readLevel_39 (f_X1_readLevel_39 g_X1_readPart g_X1_readLevel FU)) k0)) ok_X1_readLevel rt_X1_readLevel (by omega) (hc_X1_readLevel G l hd hdr hg_X1_readPart hg_X1_readLevel) (hrI rfl) (hkc (b_X1_readLevel_39 hd hdr hg_X1_readPart hg_X1_readLevel FU) hk0) 62 hA1 hI
  · cases h
set_option maxRecDepth 20000 in
theorem cb_X1_readLevel (G : GT) (l : Launch) {d : Nat} (hd : 4 ≤ d) {dr : Nat} (hdr : dr + 1 ≤ d) {g_X1_readPart : Lay → Sto → Nat → Int32 → Int32 → Option (Int32 × Sto)} {g_X1_readLevel : Lay → Sto → Nat → Int32 → Int32 → Int32 → Option (Int32 × Sto)} (hg_X1_readPart : CA G l 225 (true, false) dr (adp_X1_readPart g_X1_readPart)) (hg_X1_readLevel : CA G l 224 (true, false) dr (adp_X1_readLevel g_X1_readLevel)) : CA G l 224 (true, false) d (adp_X1_readLevel (fb_X1_readLevel g_X1_readPart g_X1_readLevel)) := by
  intro O L σ as k o h hW hok
  unfold adp_X1_readLevel at h
  split at h
  · obtain ⟨hq0, hA0⟩ := bif_s h
    obtain ⟨e0, hq1⟩ := beq_and hq0
    subst e0
    obtain ⟨r, hr, hk⟩ := Option.bind_eq_some_iff.mp hA0
    exact ca_of (q := (dcI L) r) (by decide) rfl (Nat.le_of_ble_eq_true rfl) hk (fun _ => rfl) (fun e => by cases e) (exs (sp := [34]) (K := (kc 34 (A_X1_readLevel_34 (f_X1_readLevel_34 g_X1_readPart g_X1_readLevel)) k0)) (L0 := L) (σ0 := σ) ok_X1_readLevel rt_X1_readLevel (by omega) (hc_X1_readLevel G l hd hdr hg_X1_readPart hg_X1_readLevel) (hrI rfl) (hkc (b_X1_readLevel_34 hd hdr hg_X1_readPart hg_X1_readLevel) hk0) 62 hr (inv0 hW hok))
  · cases h
def fg_rd : Nat → (Lay → Sto → Nat → Int32 → Int32 → Option (Int32 × Sto)) × (Lay → Sto → Nat → Int32 → Int32 → Int32 → Option (Int32 × Sto))
  | 0 => (fun _ _ _ _ _ => none, fun _ _ _ _ _ _ => none)
  | k + 1 => (fb_X1_readPart ((fg_rd k).1) ((fg_rd k).2), fb_X1_readLevel ((fg_rd k).1) ((fg_rd k).2))
set_option maxRecDepth 20000 in
theorem tie_rd (G : GT) (l : Launch) : ∀ (k : Nat) {d : Nat}, 8 + k ≤ d → CA G l 225 (true, false) d (adp_X1_readPart ((fg_rd k).1)) ∧ CA G l 224 (true, false) d (adp_X1_readLevel ((fg_rd k).2))
  | 0, d, hd => by
    refine ⟨?_, ?_⟩
    · exact fun O L σ as k o h _ _ => by
        unfold adp_X1_readPart at h
        split at h
        · obtain ⟨_, hA⟩ := bif_s h
          cases hA
        · cases h
    · exact fun O L σ as k o h _ _ => by
        unfold adp_X1_readLevel at h
        split at h
        · obtain ⟨_, hA⟩ := bif_s h
          cases hA
        · cases h
  | k + 1, d, hd => by
    have ih := tie_rd G l k (d := d - 1) (by omega)
    exact ⟨cb_X1_readPart G l (by omega) (dr := d - 1) (by omega) ih.1 ih.2, cb_X1_readLevel G l (by omega) (dr := d - 1) (by omega) ih.1 ih.2⟩
def f_X1_readPart : Lay → Sto → Nat → Int32 → Int32 → Option (Int32 × Sto) := (fg_rd 100).1
abbrev ad_X1_readPart : ADT := adp_X1_readPart f_X1_readPart
theorem ca_X1_readPart (G : GT) (l : Launch) {d : Nat} (hd : 108 ≤ d) : CA G l 225 (true, false) d ad_X1_readPart := (tie_rd G l 100 (by omega)).1
def f_X1_readLevel : Lay → Sto → Nat → Int32 → Int32 → Int32 → Option (Int32 × Sto) := (fg_rd 100).2
abbrev ad_X1_readLevel : ADT := adp_X1_readLevel f_X1_readLevel
theorem ca_X1_readLevel (G : GT) (l : Launch) {d : Nat} (hd : 108 ≤ d) : CA G l 224 (true, false) d ad_X1_readLevel := (tie_rd G l 100 (by omega)).2
