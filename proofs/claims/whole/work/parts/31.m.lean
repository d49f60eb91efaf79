def tt_X12_takes (pc : Nat) : TI := bif Nat.blt pc 16 then (bif Nat.blt pc 8 then (bif Nat.blt pc 2 then (bif Nat.blt pc 1 then (bif Nat.beq pc 0 then (.aload_n 0, 1, (0, 0, 0), 0, 0, []) else TN) else (bif Nat.beq pc 1 then (.aload_n 0, 2, (0, 0, 0), 0, 0, []) else TN)) else (bif Nat.blt pc 5 then (bif Nat.beq pc 2 then (.getfield 268, 5, (12, 56, 0), 0, 0, []) else TN) else (bif Nat.beq pc 5 then (.ifCond .ne 7, 8, (12, 0, 0), 0, 0, []) else TN))) else (bif Nat.blt pc 12 then (bif Nat.blt pc 9 then (bif Nat.beq pc 8 then (.iload_n 1, 9, (1, 0, 0), 0, 0, []) else TN) else (bif Nat.beq pc 9 then (.ifCond .ne 7, 12, (16, 0, 0), 0, 0, []) else TN)) else (bif Nat.blt pc 13 then (bif Nat.beq pc 12 then (.iconst 1, 13, (0, 0, 0), 1, 0, []) else TN) else (bif Nat.beq pc 13 then (.goto 4, 16, (17, 0, 0), 0, 0, []) else TN)))) else (bif Nat.blt pc 24 then (bif Nat.blt pc 20 then (bif Nat.blt pc 17 then (bif Nat.beq pc 16 then (.iconst 0, 17, (0, 0, 0), 0, 0, []) else TN) else (bif Nat.beq pc 17 then (.putfield 268, 20, (12, 56, 0), 0, 0, []) else TN)) else (bif Nat.blt pc 21 then (bif Nat.beq pc 20 then (.aload_n 0, 21, (0, 0, 0), 0, 0, []) else TN) else (bif Nat.beq pc 21 then (.getfield 268, 24, (12, 56, 0), 0, 0, []) else TN))) else (bif Nat.blt pc 28 then (bif Nat.blt pc 27 then (bif Nat.beq pc 24 then (.ifCond .ne 7, 27, (31, 0, 0), 0, 0, []) else TN) else (bif Nat.beq pc 27 then (.aload_n 0, 28, (0, 0, 0), 0, 0, []) else TN)) else (bif Nat.blt pc 31 then (bif Nat.beq pc 28 then (.invokevirtual 281, 31, (182, 0, 12), 0, 0, []) else TN) else (bif Nat.beq pc 31 then (.return_, 32, (0, 0, 0), 0, 0, []) else TN))))
def tb_X12_takes (pc : Nat) : TI := bif Nat.ble 32 pc then TN else tt_X12_takes pc
theorem ok_X12_takes : tOK 12 (decide ("takes" = "<init>")) cX12_takes tb_X12_takes := tOK_of 32 tn_of (by decide +kernel)
def f_X12_takes_17 (L : Lay) (σ : Sto) (a0 : Nat) (s0 : Int32) (s1 : Nat) : Option Sto := ((ckN 1 s0).bind fun _ => putI σ s1 56 s0).bind fun σ1 => (if (σ1.1 a0 56) = 0 then (f_X12_next L σ1 a0).bind fun σ2 => some σ2 else some σ1)
def A_X12_takes_17 (c : Lay → Sto → Nat → Int32 → Nat → Option Sto) (lc : List (Option AV)) (st : List AV) (L : Lay) (σ : Sto) : Option Sto := match lc, st with
  | [some (.inr (.inr (.inl (ta0, some a0)))), _], [.inl s0, .inr (.inr (.inl (ts1, some s1)))] => bif Nat.beq ta0 12 && (Nat.beq ts1 12 && true) then c L σ a0 s0 s1 else none
  | _, _ => none
def f_X12_takes_12 (L : Lay) (σ : Sto) (a0 : Nat) (s0 : Nat) : Option Sto := (f_X12_takes_17) L σ a0 1 s0
def A_X12_takes_12 (c : Lay → Sto → Nat → Nat → Option Sto) (lc : List (Option AV)) (st : List AV) (L : Lay) (σ : Sto) : Option Sto := match lc, st with
  | [some (.inr (.inr (.inl (ta0, some a0)))), _], [.inr (.inr (.inl (ts0, some s0)))] => bif Nat.beq ta0 12 && (Nat.beq ts0 12 && true) then c L σ a0 s0 else none
  | _, _ => none
def f_X12_takes (L : Lay) (σ : Sto) (a0 : Nat) (a1 : Int32) : Option Sto := (if (σ.1 a0 56) = 0 then (if a1 = 0 then (f_X12_takes_12) L σ a0 a0 else (f_X12_takes_17) L σ a0 0 a0) else (f_X12_takes_12) L σ a0 a0)
def ad_X12_takes : ADT := fun O L σ as k => match as with
  | [.inr (.inr (.inl (ta0, some a0))), .inl a1] => bif Nat.beq ta0 12 && true then (f_X12_takes L σ a0 a1).bind fun σ2 => k none L σ2 else none
  | _ => none
abbrev cl_X12_takes {O : Type} : CLT O := (clc 182 ad_X12_next cl0)
theorem hc_X12_takes (G : GT) (l : Launch) {d : Nat} (hd : 4 ≤ d) {O : Type} : HCL G l (true, false) d (cl_X12_takes (O := O)) := (hclc (ca_X12_next G l (d := 3) (Nat.le_refl _)) (fun _ => rfl) (fun e => by cases e) (by omega) hcl0)
theorem rt_X12_takes : retOK (6, 0) none := ⟨fun h => absurd h (by decide), fun h => absurd h (by decide), fun _ => rfl⟩
set_option maxRecDepth 20000 in
theorem b_X12_takes_17 {G : GT} {l : Launch} {d : Nat} {L0 : Lay} {σ0 : Sto} (hd : 4 ≤ d) : HF G l 12 "takes" cX12_takes 2 none d L0 σ0 (true, false) (dcV L0) 17 (A_X12_takes_17 f_X12_takes_17) := by
  intro lc st L σ o h hI
  unfold A_X12_takes_17 at h
  split at h
  · obtain ⟨hq0, hA1⟩ := bif_s h
    obtain ⟨e0, hq1⟩ := beq_and hq0
    obtain ⟨e1, hq2⟩ := beq_and hq1
    subst e0
    subst e1
    exact exs (sp := []) (K := k0) ok_X12_takes rt_X12_takes (by omega) (hc_X12_takes G l hd) (hrV rfl) hk0 19 hA1 hI
  · cases h
set_option maxRecDepth 20000 in
theorem b_X12_takes_12 {G : GT} {l : Launch} {d : Nat} {L0 : Lay} {σ0 : Sto} (hd : 4 ≤ d) : HF G l 12 "takes" cX12_takes 2 none d L0 σ0 (true, false) (dcV L0) 12 (A_X12_takes_12 f_X12_takes_12) := by
  intro lc st L σ o h hI
  unfold A_X12_takes_12 at h
  split at h
  · obtain ⟨hq0, hA1⟩ := bif_s h
    obtain ⟨e0, hq1⟩ := beq_and hq0
    obtain ⟨e1, hq2⟩ := beq_and hq1
    subst e0
    subst e1
    exact exs (sp := [17]) (K := (kc 17 (A_X12_takes_17 (f_X12_takes_17)) k0)) ok_X12_takes rt_X12_takes (by omega) (hc_X12_takes G l hd) (hrV rfl) (hkc (b_X12_takes_17 hd) hk0) 19 hA1 hI
  · cases h
set_option maxRecDepth 20000 in
theorem ca_X12_takes (G : GT) (l : Launch) {d : Nat} (hd : 4 ≤ d) : CA G l 209 (true, false) d ad_X12_takes := by
  intro O L σ as k o h hW hok
  unfold ad_X12_takes at h
  split at h
  · obtain ⟨hq0, hA0⟩ := bif_s h
    obtain ⟨e0, hq1⟩ := beq_and hq0
    subst e0
    obtain ⟨r, hr, hk⟩ := Option.bind_eq_some_iff.mp hA0
    exact ca_of (q := (dcV L) r) (by decide) rfl (Nat.le_of_ble_eq_true rfl) hk (fun _ => rfl) (fun e => by cases e) (exs (sp := [12, 17]) (K := (kc 12 (A_X12_takes_12 (f_X12_takes_12)) (kc 17 (A_X12_takes_17 (f_X12_takes_17)) k0))) (L0 := L) (σ0 := σ) ok_X12_takes rt_X12_takes (by omega) (hc_X12_takes G l hd) (hrV rfl) (hkc (b_X12_takes_12 hd) (hkc (b_X12_takes_17 hd) hk0)) 19 hr (inv0 hW hok))
  · cases h
def tt_X12_number (pc : Nat) : TI := bif Nat.blt pc 40 then (bif Nat.blt pc 20 then (bif Nat.blt pc 8 then (bif Nat.blt pc 3 then (bif Nat.blt pc 1 then (bif Nat.beq pc 0 then (.iconst 0, 1, (0, 0, 0), 0, 0, []) else TN) else (bif Nat.blt pc 2 then (bif Nat.beq pc 1 then (.istore_n 1, 2, (1, 0, 0), 0, 0, []) else TN) else (bif Nat.beq pc 2 then (.aload_n 0, 3, (0, 0, 0), 0, 0, []) else TN))) else (bif Nat.blt pc 6 then (bif Nat.beq pc 3 then (.getfield 256, 6, (12, 54, 0), 0, 0, []) else TN) else (bif Nat.blt pc 7 then (bif Nat.beq pc 6 then (.istore_n 2, 7, (2, 0, 0), 0, 0, []) else TN) else (bif Nat.beq pc 7 then (.iload_n 2, 8, (2, 0, 0), 0, 0, []) else TN)))) else (bif Nat.blt pc 15 then (bif Nat.blt pc 9 then (bif Nat.beq pc 8 then (.aload_n 0, 9, (0, 0, 0), 0, 0, []) else TN) else (bif Nat.blt pc 12 then (bif Nat.beq pc 9 then (.getfield 253, 12, (12, 55, 0), 0, 0, []) else TN) else (bif Nat.beq pc 12 then (.if_icmp .ge 36, 15, (48, 0, 0), 0, 0, []) else TN))) else (bif Nat.blt pc 16 then (bif Nat.beq pc 15 then (.aload_n 0, 16, (0, 0, 0), 0, 0, []) else TN) else (bif Nat.blt pc 19 then (bif Nat.beq pc 16 then (.getfield 253, 19, (12, 55, 0), 0, 0, []) else TN) else (bif Nat.beq pc 19 then (.aload_n 0, 20, (0, 0, 0), 0, 0, []) else TN))))) else (bif Nat.blt pc 31 then (bif Nat.blt pc 25 then (bif Nat.blt pc 23 then (bif Nat.beq pc 20 then (.getfield 256, 23, (12, 54, 0), 0, 0, []) else TN) else (bif Nat.blt pc 24 then (bif Nat.beq pc 23 then (.isub, 24, (0, 0, 0), 0, 0, []) else TN) else (bif Nat.beq pc 24 then (.iconst 4, 25, (0, 0, 0), 4, 0, []) else TN))) else (bif Nat.blt pc 28 then (bif Nat.beq pc 25 then (.if_icmp .gt 23, 28, (48, 0, 0), 0, 0, []) else TN) else (bif Nat.blt pc 30 then (bif Nat.beq pc 28 then (.bipush 10, 30, (0, 0, 0), 10, 0, []) else TN) else (bif Nat.beq pc 30 then (.iload_n 1, 31, (1, 0, 0), 0, 0, []) else TN)))) else (bif Nat.blt pc 34 then (bif Nat.blt pc 32 then (bif Nat.beq pc 31 then (.imul, 32, (0, 0, 0), 0, 0, []) else TN) else (bif Nat.blt pc 33 then (bif Nat.beq pc 32 then (.aload_n 0, 33, (0, 0, 0), 0, 0, []) else TN) else (bif Nat.beq pc 33 then (.iload_n 2, 34, (2, 0, 0), 0, 0, []) else TN))) else (bif Nat.blt pc 37 then (bif Nat.beq pc 34 then (.invokevirtual 259, 37, (122, 1, 12), 0, 0, []) else TN) else (bif Nat.blt pc 38 then (bif Nat.beq pc 37 then (.iadd, 38, (0, 0, 0), 0, 0, []) else TN) else (bif Nat.beq pc 38 then (.bipush 48, 40, (0, 0, 0), 48, 0, []) else TN)))))) else (bif Nat.blt pc 60 then (bif Nat.blt pc 50 then (bif Nat.blt pc 45 then (bif Nat.blt pc 41 then (bif Nat.beq pc 40 then (.isub, 41, (0, 0, 0), 0, 0, []) else TN) else (bif Nat.blt pc 42 then (bif Nat.beq pc 41 then (.istore_n 1, 42, (1, 0, 0), 0, 0, []) else TN) else (bif Nat.beq pc 42 then (.iinc 2 1, 45, (2, 0, 0), 1, 0, []) else TN))) else (bif Nat.blt pc 48 then (bif Nat.beq pc 45 then (.goto (-38), 48, (7, 0, 0), 0, 0, []) else TN) else (bif Nat.blt pc 49 then (bif Nat.beq pc 48 then (.aload_n 0, 49, (0, 0, 0), 0, 0, []) else TN) else (bif Nat.beq pc 49 then (.dup, 50, (0, 0, 0), 0, 0, []) else TN)))) else (bif Nat.blt pc 55 then (bif Nat.blt pc 53 then (bif Nat.beq pc 50 then (.getfield 284, 53, (12, 60, 0), 0, 0, []) else TN) else (bif Nat.blt pc 54 then (bif Nat.beq pc 53 then (.iconst 1, 54, (0, 0, 0), 1, 0, []) else TN) else (bif Nat.beq pc 54 then (.iadd, 55, (0, 0, 0), 0, 0, []) else TN))) else (bif Nat.blt pc 58 then (bif Nat.beq pc 55 then (.putfield 284, 58, (12, 60, 0), 0, 0, []) else TN) else (bif Nat.blt pc 59 then (bif Nat.beq pc 58 then (.aload_n 0, 59, (0, 0, 0), 0, 0, []) else TN) else (bif Nat.beq pc 59 then (.aload_n 0, 60, (0, 0, 0), 0, 0, []) else TN))))) else (bif Nat.blt pc 72 then (bif Nat.blt pc 67 then (bif Nat.blt pc 63 then (bif Nat.beq pc 60 then (.getfield 253, 63, (12, 55, 0), 0, 0, []) else TN) else (bif Nat.blt pc 64 then (bif Nat.beq pc 63 then (.aload_n 0, 64, (0, 0, 0), 0, 0, []) else TN) else (bif Nat.beq pc 64 then (.getfield 256, 67, (12, 54, 0), 0, 0, []) else TN))) else (bif Nat.blt pc 68 then (bif Nat.beq pc 67 then (.isub, 68, (0, 0, 0), 0, 0, []) else TN) else (bif Nat.blt pc 69 then (bif Nat.beq pc 68 then (.iconst 4, 69, (0, 0, 0), 4, 0, []) else TN) else (bif Nat.beq pc 69 then (.if_icmp .gt 7, 72, (76, 0, 0), 0, 0, []) else TN)))) else (bif Nat.blt pc 77 then (bif Nat.blt pc 73 then (bif Nat.beq pc 72 then (.iconst 1, 73, (0, 0, 0), 1, 0, []) else TN) else (bif Nat.blt pc 76 then (bif Nat.beq pc 73 then (.goto 4, 76, (77, 0, 0), 0, 0, []) else TN) else (bif Nat.beq pc 76 then (.iconst 0, 77, (0, 0, 0), 0, 0, []) else TN))) else (bif Nat.blt pc 80 then (bif Nat.beq pc 77 then (.invokevirtual 287, 80, (209, 1, 12), 0, 0, []) else TN) else (bif Nat.blt pc 81 then (bif Nat.beq pc 80 then (.iload_n 1, 81, (1, 0, 0), 0, 0, []) else TN) else (bif Nat.beq pc 81 then (.ireturn, 82, (0, 0, 0), 0, 0, []) else TN))))))
def tb_X12_number (pc : Nat) : TI := bif Nat.ble 82 pc then TN else tt_X12_number pc
theorem ok_X12_number : tOK 12 (decide ("number" = "<init>")) cX12_number tb_X12_number := tOK_of 82 tn_of (by decide +kernel)
def f_X12_number_77 (L : Lay) (σ : Sto) (a1 : Int32) (s0 : Int32) (s1 : Nat) : Option (Int32 × Sto) := (f_X12_takes L σ s1 s0).bind fun σ1 => some (a1, σ1)
def A_X12_number_77 (c : Lay → Sto → Int32 → Int32 → Nat → Option (Int32 × Sto)) (lc : List (Option AV)) (st : List AV) (L : Lay) (σ : Sto) : Option (Int32 × Sto) := match lc, st with
  | [_, some (.inl a1), _], [.inl s0, .inr (.inr (.inl (ts1, some s1)))] => bif Nat.beq ts1 12 && true then c L σ a1 s0 s1 else none
  | _, _ => none
def f_X12_number_48 (L : Lay) (σ : Sto) (a0 : Nat) (a1 : Int32) : Option (Int32 × Sto) := (putI σ a0 60 ((σ.1 a0 60) + 1)).bind fun σ2 => (if 4 < ((σ2.1 a0 55) - (σ2.1 a0 54)) then (f_X12_number_77) L σ2 a1 0 a0 else (f_X12_number_77) L σ2 a1 1 a0)
def A_X12_number_48 (c : Lay → Sto → Nat → Int32 → Option (Int32 × Sto)) (lc : List (Option AV)) (st : List AV) (L : Lay) (σ : Sto) : Option (Int32 × Sto) := match lc, st with
  | [some (.inr (.inr (.inl (ta0, some a0)))), some (.inl a1), _], [] => bif Nat.beq ta0 12 && true then c L σ a0 a1 else none
  | _, _ => none
def f_X12_number_7 : Nat → Lay → Sto → Nat → Int32 → Int32 → Option (Int32 × Sto)
  | 0 => fun _ _ _ _ _ => none
  | k + 1 => fun L σ a0 a1 a2 => (if (σ.1 a0 55) ≤ a2 then (f_X12_number_48) L σ a0 a1 else (if 4 < ((σ.1 a0 55) - (σ.1 a0 54)) then (f_X12_number_48) L σ a0 a1 else (f_X12_at L σ a0 a2).bind fun r3 => (f_X12_number_7 k) L σ a0 (((10 * a1) + r3) - 48) (a2 + 1)))
def A_X12_number_7 (c : Lay → Sto → Nat → Int32 → Int32 → Option (Int32 × Sto)) (lc : List (Option AV)) (st : List AV) (L : Lay) (σ : Sto) : Option (Int32 × Sto) := match lc, st with
  | [some (.inr (.inr (.inl (ta0, some a0)))), some (.inl a1), some (.inl a2)], [] => bif Nat.beq ta0 12 && true then c L σ a0 a1 a2 else none
  | _, _ => none
def f_X12_number (L : Lay) (σ : Sto) (a0 : Nat) : Option (Int32 × Sto) := (f_X12_number_7 FU) L σ a0 0 (σ.1 a0 54)
def ad_X12_number : ADT := fun O L σ as k => match as with
  | [.inr (.inr (.inl (ta0, some a0)))] => bif Nat.beq ta0 12 && true then (f_X12_number L σ a0).bind fun r => k (some (vI r.1)) L r.2 else none
  | _ => none
abbrev cl_X12_number {O : Type} : CLT O := (clc 209 ad_X12_takes (clc 122 ad_X12_at cl0))
theorem hc_X12_number (G : GT) (l : Launch) {d : Nat} (hd : 5 ≤ d) {O : Type} : HCL G l (true, false) d (cl_X12_number (O := O)) := (hclc (ca_X12_takes G l (d := 4) (Nat.le_refl _)) (fun _ => rfl) (fun e => by cases e) (by omega) (hclc (ca_X12_at G l (d := 1) (Nat.le_refl _)) (fun _ => rfl) (fun e => by cases e) (by omega) hcl0))
theorem rt_X12_number : retOK (0, 0) (some .int) := ⟨fun _ => rfl, fun h => absurd h (by decide), fun h => absurd h (by decide)⟩
set_option maxRecDepth 20000 in
theorem b_X12_number_77 {G : GT} {l : Launch} {d : Nat} {L0 : Lay} {σ0 : Sto} (hd : 5 ≤ d) : HF G l 12 "number" cX12_number 3 (some .int) d L0 σ0 (true, false) (dcI L0) 77 (A_X12_number_77 f_X12_number_77) := by
  intro lc st L σ o h hI
  unfold A_X12_number_77 at h
  split at h
  · obtain ⟨hq0, hA1⟩ := bif_s h
    obtain ⟨e0, hq1⟩ := beq_and hq0
    subst e0
    exact exs (sp := []) (K := k0) ok_X12_number rt_X12_number (by omega) (hc_X12_number G l hd) (hrI rfl) hk0 51 hA1 hI
  · cases h
set_option maxRecDepth 20000 in
theorem b_X12_number_48 {G : GT} {l : Launch} {d : Nat} {L0 : Lay} {σ0 : Sto} (hd : 5 ≤ d) : HF G l 12 "number" cX12_number 3 (some .int) d L0 σ0 (true, false) (dcI L0) 48 (A_X12_number_48 f_X12_number_48) := by
  intro lc st L σ o h hI
  unfold A_X12_number_48 at h
  split at h
  · obtain ⟨hq0, hA1⟩ := bif_s h
    obtain ⟨e0, hq1⟩ := beq_and hq0
    subst e0
    exact exs (sp := [77]) (K := (kc 77 (A_X12_number_77 (f_X12_number_77)) k0)) ok_X12_number rt_X12_number (by omega) (hc_X12_number G l hd) (hrI rfl) (hkc (b_X12_number_77 hd) hk0) 51 hA1 hI
  · cases h
set_option maxRecDepth 20000 in
theorem b_X12_number_7 {G : GT} {l : Launch} {d : Nat} {L0 : Lay} {σ0 : Sto} (hd : 5 ≤ d) : ∀ k : Nat, HF G l 12 "number" cX12_number 3 (some .int) d L0 σ0 (true, false) (dcI L0) 7 (A_X12_number_7 (f_X12_number_7 k))
  | 0 => by
    intro lc st L σ o h hI
    unfold A_X12_number_7 at h
    split at h
    · obtain ⟨_, hA1⟩ := bif_s h
      cases hA1
    · cases h
  | k + 1 => by
    have ih := b_X12_number_7 (G := G) (l := l) (d := d) (L0 := L0) (σ0 := σ0) hd k
    intro lc st L σ o h hI
    unfold A_X12_number_7 at h
    split at h
    · obtain ⟨hq0, hA1⟩ := bif_s h
      obtain ⟨e0, hq1⟩ := beq_and hq0
      subst e0
      exact exs (sp := [7, 48]) (K := (kc 7 (A_X12_number_7 (f_X12_number_7 k)) (kc 48 (A_X12_number_48 (f_X12_number_48)) k0))) ok_X12_number rt_X12_number (by omega) (hc_X12_number G l hd) (hrI rfl) (hkc ih (hkc (b_X12_number_48 hd) hk0)) 51 hA1 hI
    · cases h
set_option maxRecDepth 20000 in
theorem ca_X12_number (G : GT) (l : Launch) {d : Nat} (hd : 5 ≤ d) : CA G l 185 (true, false) d ad_X12_number := by
  intro O L σ as k o h hW hok
  unfold ad_X12_number at h
  split at h
  · obtain ⟨hq0, hA0⟩ := bif_s h
    obtain ⟨e0, hq1⟩ := beq_and hq0
    subst e0
    obtain ⟨r, hr, hk⟩ := Option.bind_eq_some_iff.mp hA0
    exact ca_of (q := (dcI L) r) (by decide) rfl (Nat.le_of_ble_eq_true rfl) hk (fun _ => rfl) (fun e => by cases e) (exs (sp := [7]) (K := (kc 7 (A_X12_number_7 (f_X12_number_7 FU)) k0)) (L0 := L) (σ0 := σ) ok_X12_number rt_X12_number (by omega) (hc_X12_number G l hd) (hrI rfl) (hkc (b_X12_number_7 hd FU) hk0) 51 hr (inv0 hW hok))
  · cases h
def tt_X12_nameOf (pc : Nat) : TI := bif Nat.blt pc 130 then (bif Nat.blt pc 121 then (bif Nat.blt pc 117 then (bif Nat.blt pc 1 then (bif Nat.beq pc 0 then (.iload_n 0, 1, (0, 0, 0), 0, 0, []) else TN) else (bif Nat.blt pc 116 then (bif Nat.beq pc 1 then (.tableswitch 148 97 121 #[139, 123, 145, 136, 115, 148, 148, 148, 148, 148, 148, 142, 119, 130, 148, 117, 148, 125, 148, 148, 148, 133, 148, 121, 127], 116, (149, 0, 0), 0, 0, [(97, 140), (98, 124), (99, 146), (100, 137), (101, 116), (102, 149), (103, 149), (104, 149), (105, 149), (106, 149), (107, 149), (108, 143), (109, 120), (110, 131), (111, 149), (112, 118), (113, 149), (114, 126), (115, 149), (116, 149), (117, 149), (118, 134), (119, 149), (120, 122), (121, 128)]) else TN) else (bif Nat.beq pc 116 then (.iconst 0, 117, (0, 0, 0), 0, 0, []) else TN))) else (bif Nat.blt pc 119 then (bif Nat.blt pc 118 then (bif Nat.beq pc 117 then (.ireturn, 118, (0, 0, 0), 0, 0, []) else TN) else (bif Nat.beq pc 118 then (.iconst 1, 119, (0, 0, 0), 1, 0, []) else TN)) else (bif Nat.blt pc 120 then (bif Nat.beq pc 119 then (.ireturn, 120, (0, 0, 0), 0, 0, []) else TN) else (bif Nat.beq pc 120 then (.iconst 2, 121, (0, 0, 0), 2, 0, []) else TN)))) else (bif Nat.blt pc 125 then (bif Nat.blt pc 123 then (bif Nat.blt pc 122 then (bif Nat.beq pc 121 then (.ireturn, 122, (0, 0, 0), 0, 0, []) else TN) else (bif Nat.beq pc 122 then (.iconst 3, 123, (0, 0, 0), 3, 0, []) else TN)) else (bif Nat.blt pc 124 then (bif Nat.beq pc 123 then (.ireturn, 124, (0, 0, 0), 0, 0, []) else TN) else (bif Nat.beq pc 124 then (.iconst 4, 125, (0, 0, 0), 4, 0, []) else TN))) else (bif Nat.blt pc 127 then (bif Nat.blt pc 126 then (bif Nat.beq pc 125 then (.ireturn, 126, (0, 0, 0), 0, 0, []) else TN) else (bif Nat.beq pc 126 then (.iconst 5, 127, (0, 0, 0), 5, 0, []) else TN)) else (bif Nat.blt pc 128 then (bif Nat.beq pc 127 then (.ireturn, 128, (0, 0, 0), 0, 0, []) else TN) else (bif Nat.beq pc 128 then (.bipush 6, 130, (0, 0, 0), 6, 0, []) else TN))))) else (bif Nat.blt pc 140 then (bif Nat.blt pc 134 then (bif Nat.blt pc 131 then (bif Nat.beq pc 130 then (.ireturn, 131, (0, 0, 0), 0, 0, []) else TN) else (bif Nat.blt pc 133 then (bif Nat.beq pc 131 then (.bipush 7, 133, (0, 0, 0), 7, 0, []) else TN) else (bif Nat.beq pc 133 then (.ireturn, 134, (0, 0, 0), 0, 0, []) else TN))) else (bif Nat.blt pc 137 then (bif Nat.blt pc 136 then (bif Nat.beq pc 134 then (.bipush 8, 136, (0, 0, 0), 8, 0, []) else TN) else (bif Nat.beq pc 136 then (.ireturn, 137, (0, 0, 0), 0, 0, []) else TN)) else (bif Nat.blt pc 139 then (bif Nat.beq pc 137 then (.bipush 9, 139, (0, 0, 0), 9, 0, []) else TN) else (bif Nat.beq pc 139 then (.ireturn, 140, (0, 0, 0), 0, 0, []) else TN)))) else (bif Nat.blt pc 146 then (bif Nat.blt pc 143 then (bif Nat.blt pc 142 then (bif Nat.beq pc 140 then (.bipush 10, 142, (0, 0, 0), 10, 0, []) else TN) else (bif Nat.beq pc 142 then (.ireturn, 143, (0, 0, 0), 0, 0, []) else TN)) else (bif Nat.blt pc 145 then (bif Nat.beq pc 143 then (.bipush 11, 145, (0, 0, 0), 11, 0, []) else TN) else (bif Nat.beq pc 145 then (.ireturn, 146, (0, 0, 0), 0, 0, []) else TN))) else (bif Nat.blt pc 149 then (bif Nat.blt pc 148 then (bif Nat.beq pc 146 then (.bipush 12, 148, (0, 0, 0), 12, 0, []) else TN) else (bif Nat.beq pc 148 then (.ireturn, 149, (0, 0, 0), 0, 0, []) else TN)) else (bif Nat.blt pc 150 then (bif Nat.beq pc 149 then (.iconst (-1), 150, (0, 0, 0), -1, 0, []) else TN) else (bif Nat.beq pc 150 then (.ireturn, 151, (0, 0, 0), 0, 0, []) else TN)))))
def tb_X12_nameOf (pc : Nat) : TI := bif Nat.ble 151 pc then TN else tt_X12_nameOf pc
theorem ok_X12_nameOf : tOK 12 (decide ("nameOf" = "<init>")) cX12_nameOf tb_X12_nameOf := tOK_of 151 tn_of (by decide +kernel)
def f_X12_nameOf (L : Lay) (σ : Sto) (a0 : Int32) : Option Int32 := (if a0 = 97 then some 10 else (if a0 = 98 then some 4 else (if a0 = 99 then some 12 else (if a0 = 100 then some 9 else (if a0 = 101 then some 0 else (if a0 = 102 then some (-1) else (if a0 = 103 then some (-1) else (if a0 = 104 then some (-1) else (if a0 = 105 then some (-1) else (if a0 = 106 then some (-1) else (if a0 = 107 then some (-1) else (if a0 = 108 then some 11 else (if a0 = 109 then some 2 else (if a0 = 110 then some 7 else (if a0 = 111 then some (-1) else (if a0 = 112 then some 1 else (if a0 = 113 then some (-1) else (if a0 = 114 then some 5 else (if a0 = 115 then some (-1) else (if a0 = 116 then some (-1) else (if a0 = 117 then some (-1) else (if a0 = 118 then some 8 else (if a0 = 119 then some (-1) else (if a0 = 120 then some 3 else (if a0 = 121 then some 6 else some (-1))))))))))))))))))))))))))
def ad_X12_nameOf : ADT := fun O L σ as k => match as with
  | [.inl a0] => (f_X12_nameOf L σ a0).bind fun r => k (some (vI r)) L σ
  | _ => none
abbrev cl_X12_nameOf {O : Type} : CLT O := cl0
theorem hc_X12_nameOf (G : GT) (l : Launch) {d : Nat} (hd : 1 ≤ d) {O : Type} : HCL G l (true, true) d (cl_X12_nameOf (O := O)) := hcl0
theorem rt_X12_nameOf : retOK (0, 0) (some .int) := ⟨fun _ => rfl, fun h => absurd h (by decide), fun h => absurd h (by decide)⟩
set_option maxRecDepth 20000 in
theorem ca_X12_nameOf (G : GT) (l : Launch) {d : Nat} (hd : 1 ≤ d) : CA G l 181 (true, true) d ad_X12_nameOf := by
  intro O L σ as k o h hW hok
  unfold ad_X12_nameOf at h
  split at h
  · have hA0 := h
    obtain ⟨r, hr, hk⟩ := Option.bind_eq_some_iff.mp hA0
    exact ca_of (q := (dcPI L σ) r) (by decide) rfl (Nat.le_of_ble_eq_true rfl) hk (fun _ => rfl) (fun _ => rfl) (exs (sp := []) (K := k0) (L0 := L) (σ0 := σ) ok_X12_nameOf rt_X12_nameOf (by omega) (hc_X12_nameOf G l hd) (hrPI rfl rfl) hk0 33 hr (inv0 hW hok))
  · cases h
def adp_X12_or (g : Lay → Sto → Nat → Option (Int32 × Sto)) : ADT := fun O L σ as k => match as with
  | [.inr (.inr (.inl (ta0, some a0)))] => bif Nat.beq ta0 12 && true then (g L σ a0).bind fun r => k (some (vI r.1)) L r.2 else none
  | _ => none
def adp_X12_one (g : Lay → Sto → Nat → Option (Int32 × Sto)) : ADT := fun O L σ as k => match as with
  | [.inr (.inr (.inl (ta0, some a0)))] => bif Nat.beq ta0 12 && true then (g L σ a0).bind fun r => k (some (vI r.1)) L r.2 else none
  | _ => none
def adp_X12_term (g : Lay → Sto → Nat → Option (Int32 × Sto)) : ADT := fun O L σ as k => match as with
  | [.inr (.inr (.inl (ta0, some a0)))] => bif Nat.beq ta0 12 && true then (g L σ a0).bind fun r => k (some (vI r.1)) L r.2 else none
  | _ => none
def adp_X12_sum (g : Lay → Sto → Nat → Option (Int32 × Sto)) : ADT := fun O L σ as k => match as with
  | [.inr (.inr (.inl (ta0, some a0)))] => bif Nat.beq ta0 12 && true then (g L σ a0).bind fun r => k (some (vI r.1)) L r.2 else none
  | _ => none
def adp_X12_test (g : Lay → Sto → Nat → Option (Int32 × Sto)) : ADT := fun O L σ as k => match as with
  | [.inr (.inr (.inl (ta0, some a0)))] => bif Nat.beq ta0 12 && true then (g L σ a0).bind fun r => k (some (vI r.1)) L r.2 else none
  | _ => none
def adp_X12_and (g : Lay → Sto → Nat → Option (Int32 × Sto)) : ADT := fun O L σ as k => match as with
  | [.inr (.inr (.inl (ta0, some a0)))] => bif Nat.beq ta0 12 && true then (g L σ a0).bind fun r => k (some (vI r.1)) L r.2 else none
  | _ => none
def tt_X12_or (pc : Nat) : TI := bif Nat.blt pc 23 then (bif Nat.blt pc 11 then (bif Nat.blt pc 5 then (bif Nat.blt pc 1 then (bif Nat.beq pc 0 then (.aload_n 0, 1, (0, 0, 0), 0, 0, []) else TN) else (bif Nat.blt pc 4 then (bif Nat.beq pc 1 then (.invokevirtual 321, 4, (121, 0, 12), 0, 0, []) else TN) else (bif Nat.beq pc 4 then (.istore_n 1, 5, (1, 0, 0), 0, 0, []) else TN))) else (bif Nat.blt pc 6 then (bif Nat.beq pc 5 then (.aload_n 0, 6, (0, 0, 0), 0, 0, []) else TN) else (bif Nat.blt pc 8 then (bif Nat.beq pc 6 then (.bipush 124, 8, (0, 0, 0), 124, 0, []) else TN) else (bif Nat.beq pc 8 then (.invokevirtual 291, 11, (162, 1, 12), 0, 0, []) else TN)))) else (bif Nat.blt pc 16 then (bif Nat.blt pc 14 then (bif Nat.beq pc 11 then (.ifCond .eq 30, 14, (41, 0, 0), 0, 0, []) else TN) else (bif Nat.blt pc 15 then (bif Nat.beq pc 14 then (.aload_n 0, 15, (0, 0, 0), 0, 0, []) else TN) else (bif Nat.beq pc 15 then (.iconst 1, 16, (0, 0, 0), 1, 0, []) else TN))) else (bif Nat.blt pc 19 then (bif Nat.beq pc 16 then (.invokevirtual 287, 19, (209, 1, 12), 0, 0, []) else TN) else (bif Nat.blt pc 20 then (bif Nat.beq pc 19 then (.aload_n 0, 20, (0, 0, 0), 0, 0, []) else TN) else (bif Nat.beq pc 20 then (.invokevirtual 321, 23, (121, 0, 12), 0, 0, []) else TN))))) else (bif Nat.blt pc 33 then (bif Nat.blt pc 28 then (bif Nat.blt pc 24 then (bif Nat.beq pc 23 then (.istore_n 2, 24, (2, 0, 0), 0, 0, []) else TN) else (bif Nat.blt pc 25 then (bif Nat.beq pc 24 then (.iload_n 1, 25, (1, 0, 0), 0, 0, []) else TN) else (bif Nat.beq pc 25 then (.ifCond .ne 7, 28, (32, 0, 0), 0, 0, []) else TN))) else (bif Nat.blt pc 29 then (bif Nat.beq pc 28 then (.iload_n 2, 29, (2, 0, 0), 0, 0, []) else TN) else (bif Nat.blt pc 32 then (bif Nat.beq pc 29 then (.ifCond .eq 7, 32, (36, 0, 0), 0, 0, []) else TN) else (bif Nat.beq pc 32 then (.iconst 1, 33, (0, 0, 0), 1, 0, []) else TN)))) else (bif Nat.blt pc 38 then (bif Nat.blt pc 36 then (bif Nat.beq pc 33 then (.goto 4, 36, (37, 0, 0), 0, 0, []) else TN) else (bif Nat.blt pc 37 then (bif Nat.beq pc 36 then (.iconst 0, 37, (0, 0, 0), 0, 0, []) else TN) else (bif Nat.beq pc 37 then (.istore_n 1, 38, (1, 0, 0), 0, 0, []) else TN))) else (bif Nat.blt pc 41 then (bif Nat.beq pc 38 then (.goto (-33), 41, (5, 0, 0), 0, 0, []) else TN) else (bif Nat.blt pc 42 then (bif Nat.beq pc 41 then (.iload_n 1, 42, (1, 0, 0), 0, 0, []) else TN) else (bif Nat.beq pc 42 then (.ireturn, 43, (0, 0, 0), 0, 0, []) else TN)))))
def tb_X12_or (pc : Nat) : TI := bif Nat.ble 43 pc then TN else tt_X12_or pc
theorem ok_X12_or : tOK 12 (decide ("or" = "<init>")) cX12_or tb_X12_or := tOK_of 43 tn_of (by decide +kernel)
def f_X12_or_37 (g_X12_and : Lay → Sto → Nat → Option (Int32 × Sto)) (c5 : Lay → Sto → Nat → Int32 → Option (Int32 × Sto)) (L : Lay) (σ : Sto) (a0 : Nat) (s0 : Int32) : Option (Int32 × Sto) := c5 L σ a0 s0
def A_X12_or_37 (c : Lay → Sto → Nat → Int32 → Option (Int32 × Sto)) (lc : List (Option AV)) (st : List AV) (L : Lay) (σ : Sto) : Option (Int32 × Sto) := match lc, st with
  | [some (.inr (.inr (.inl (ta0, some a0)))), _, _], [.inl s0] => bif Nat.beq ta0 12 && true then c L σ a0 s0 else none
  | _, _ => none
def f_X12_or_32 (g_X12_and : Lay → Sto → Nat → Option (Int32 × Sto)) (c5 : Lay → Sto → Nat → Int32 → Option (Int32 × Sto)) (L : Lay) (σ : Sto) (a0 : Nat) : Option (Int32 × Sto) := (f_X12_or_37 g_X12_and c5) L σ a0 1
def A_X12_or_32 (c : Lay → Sto → Nat → Option (Int32 × Sto)) (lc : List (Option AV)) (st : List AV) (L : Lay) (σ : Sto) : Option (Int32 × Sto) := match lc, st with
  | [some (.inr (.inr (.inl (ta0, some a0)))), _, _], [] => bif Nat.beq ta0 12 && true then c L σ a0 else none
  | _, _ => none
def f_X12_or_5 (g_X12_and : Lay → Sto → Nat → Option (Int32 × Sto)) : Nat → Lay → Sto → Nat → Int32 → Option (Int32 × Sto)
  | 0 => fun _ _ _ _ => none
  | k + 1 => fun L σ a0 a1 => (f_X12_isSign L σ a0 124).bind fun r1 => (if r1 = 0 then some (a1, σ) else (f_X12_takes L σ a0 1).bind fun σ2 => (g_X12_and L σ2 a0).bind fun r3 => (if a1 = 0 then (if r3.1 = 0 then (f_X12_or_37 g_X12_and (f_X12_or_5 g_X12_and k)) L r3.2 a0 0 else (f_X12_or_32 g_X12_and (f_X12_or_5 g_X12_and k)) L r3.2 a0) else (f_X12_or_32 g_X12_and (f_X12_or_5 g_X12_and k)) L r3.2 a0))
def A_X12_or_5 (c : Lay → Sto → Nat → Int32 → Option (Int32 × Sto)) (lc : List (Option AV)) (st : List AV) (L : Lay) (σ : Sto) : Option (Int32 × Sto) := match lc, st with
  | [some (.inr (.inr (.inl (ta0, some a0)))), some (.inl a1), _], [] => bif Nat.beq ta0 12 && true then c L σ a0 a1 else none
  | _, _ => none
def fb_X12_or (g_X12_and : Lay → Sto → Nat → Option (Int32 × Sto)) (L : Lay) (σ : Sto) (a0 : Nat) : Option (Int32 × Sto) := (g_X12_and L σ a0).bind fun r4 => (f_X12_or_5 g_X12_and FU) L r4.2 a0 r4.1
abbrev cl_X12_or (g_X12_and : Lay → Sto → Nat → Option (Int32 × Sto)) {O : Type} : CLT O := (clc 162 ad_X12_isSign (clc 209 ad_X12_takes (clc 121 (adp_X12_and g_X12_and) cl0)))
theorem hc_X12_or (G : GT) (l : Launch) {d : Nat} (hd : 5 ≤ d) {dr : Nat} (hdr : dr + 1 ≤ d) {g_X12_and : Lay → Sto → Nat → Option (Int32 × Sto)} (hg_X12_and : CA G l 121 (true, false) dr (adp_X12_and g_X12_and)) {O : Type} : HCL G l (true, false) d (cl_X12_or g_X12_and (O := O)) := (hclc (ca_X12_isSign G l (d := 2) (Nat.le_refl _)) (fun _ => rfl) (fun e => by cases e) (by omega) (hclc (ca_X12_takes G l (d := 4) (Nat.le_refl _)) (fun _ => rfl) (fun e => by cases e) (by omega) (hclc hg_X12_and (fun _ => rfl) (fun e => by cases e) hdr hcl0)))
theorem rt_X12_or : retOK (0, 0) (some .int) := ⟨fun _ => rfl, fun h => absurd h (by decide), fun h => absurd h (by decide)⟩
set_option maxRecDepth 20000 in
theorem b_X12_or_37 {G : GT} {l : Launch} {d : Nat} {L0 : Lay} {σ0 : Sto} (hd : 5 ≤ d) {dr : Nat} (hdr : dr + 1 ≤ d) {g_X12_and : Lay → Sto → Nat → Option (Int32 × Sto)} (hg_X12_and : CA G l 121 (true, false) dr (adp_X12_and g_X12_and)) {c5 : Lay → Sto → Nat → Int32 → Option (Int32 × Sto)} (h5 : HF G l 12 "or" cX12_or 3 (some .int) d L0 σ0 (true, false) (dcI L0) 5 (A_X12_or_5 c5)) : HF G l 12 "or" cX12_or 3 (some .int) d L0 σ0 (true, false) (dcI L0) 37 (A_X12_or_37 (f_X12_or_37 g_X12_and c5)) := by
  intro lc st L σ o h hI
  unfold A_X12_or_37 at h
  split at h
  · obtain ⟨hq0, hA1⟩ := bif_s h
    obtain ⟨e0, hq1⟩ := beq_and hq0
    subst e0
    exact exs (sp := [5]) (K := (kc 5 (A_X12_or_5 c5) k0)) ok_X12_or rt_X12_or (by omega) (hc_X12_or G l hd hdr hg_X12_and) (hrI rfl) (hkc h5 hk0) 27 hA1 hI
  · cases h
set_option maxRecDepth 20000 in
theorem b_X12_or_32 {G : GT} {l : Launch} {d : Nat} {L0 : Lay} {σ0 : Sto} (hd : 5 ≤ d) {dr : Nat} (hdr : dr + 1 ≤ d) {g_X12_and : Lay → Sto → Nat → Option (Int32 × Sto)} (hg_X12_and : CA G l 121 (true, false) dr (adp_X12_and g_X12_and)) {c5 : Lay → Sto → Nat → Int32 → Option (Int32 × Sto)} (h5 : HF G l 12 "or" cX12_or 3 (some .int) d L0 σ0 (true, false) (dcI L0) 5 (A_X12_or_5 c5)) : HF G l 12 "or" cX12_or 3 (some .int) d L0 σ0 (true, false) (dcI L0) 32 (A_X12_or_32 (f_X12_or_32 g_X12_and c5)) := by
  intro lc st L σ o h hI
  unfold A_X12_or_32 at h
  split at h
  · obtain ⟨hq0, hA1⟩ := bif_s h
    obtain ⟨e0, hq1⟩ := beq_and hq0
    subst e0
    exact exs (sp := [37]) (K := (kc 37 (A_X12_or_37 (f_X12_or_37 g_X12_and c5)) k0)) ok_X12_or rt_X12_or (by omega) (hc_X12_or G l hd hdr hg_X12_and) (hrI rfl) (hkc (b_X12_or_37 hd hdr hg_X12_and h5) hk0) 27 hA1 hI
  · cases h
set_option maxRecDepth 20000 in
theorem b_X12_or_5 {G : GT} {l : Launch} {d : Nat} {L0 : Lay} {σ0 : Sto} (hd : 5 ≤ d) {dr : Nat} (hdr : dr + 1 ≤ d) {g_X12_and : Lay → Sto → Nat → Option (Int32 × Sto)} (hg_X12_and : CA G l 121 (true, false) dr (adp_X12_and g_X12_and)) : ∀ k : Nat, HF G l 12 "or" cX12_or 3 (some .int) d L0 σ0 (true, false) (dcI L0) 5 (A_X12_or_5 (f_X12_or_5 g_X12_and k))
  | 0 => by
    intro lc st L σ o h hI
    unfold A_X12_or_5 at h
    split at h
    · obtain ⟨_, hA1⟩ := bif_s h
      cases hA1
    · cases h
  | k + 1 => by
    have ih := b_X12_or_5 (G := G) (l := l) (d := d) (L0 := L0) (σ0 := σ0) hd hdr hg_X12_and k
    intro lc st L σ o h hI
    unfold A_X12_or_5 at h
    split at h
    · obtain ⟨hq0, hA1⟩ := bif_s h
      obtain ⟨e0, hq1⟩ := beq_and hq0
      subst e0
      exact exs (sp := [32, 37]) (K := (kc 32 (A_X12_or_32 (f_X12_or_32 g_X12_and (f_X12_or_5 g_X12_and k))) (kc 37 (A_X12_or_37 (f_X12_or_37 g_X12_and (f_X12_or_5 g_X12_and k))) k0))) ok_X12_or rt_X12_or (by omega) (hc_X12_or G l hd hdr hg_X12_and) (hrI rfl) (hkc (b_X12_or_32 hd hdr hg_X12_and ih) (hkc (b_X12_or_37 hd hdr hg_X12_and ih) hk0)) 27 hA1 hI
    · cases h
set_option maxRecDepth 20000 in
theorem cb_X12_or (G : GT) (l : Launch) {d : Nat} (hd : 5 ≤ d) {dr : Nat} (hdr : dr + 1 ≤ d) {g_X12_and : Lay → Sto → Nat → Option (Int32 × Sto)} (hg_X12_and : CA G l 121 (true, false) dr (adp_X12_and g_X12_and)) : CA G l 190 (true, false) d (adp_X12_or (fb_X12_or g_X12_and)) := by
  intro O L σ as k o h hW hok
  unfold adp_X12_or at h
  split at h
  · obtain ⟨hq0, hA0⟩ := bif_s h
    obtain ⟨e0, hq1⟩ := beq_and hq0
    subst e0
    obtain ⟨r, hr, hk⟩ := Option.bind_eq_some_iff.mp hA0
    exact ca_of (q := (dcI L) r) (by decide) rfl (Nat.le_of_ble_eq_true rfl) hk (fun _ => rfl) (fun e => by cases e) (exs (sp := [5]) (K := (kc 5 (A_X12_or_5 (f_X12_or_5 g_X12_and FU)) k0)) (L0 := L) (σ0 := σ) ok_X12_or rt_X12_or (by omega) (hc_X12_or G l hd hdr hg_X12_and) (hrI rfl) (hkc (b_X12_or_5 hd hdr hg_X12_and FU) hk0) 27 hr (inv0 hW hok))
  · cases h
def tt_X12_one (pc : Nat) : TI := bif Nat.blt pc 149 then (bif Nat.blt pc 76 then (bif Nat.blt pc 36 then (bif Nat.blt pc 18 then (bif Nat.blt pc 8 then (bif Nat.blt pc 4 then (bif Nat.blt pc 1 then (bif Nat.beq pc 0 then (.aload_n 0, 1, (0, 0, 0), 0, 0, []) else TN) else (bif Nat.beq pc 1 then (.getfield 268, 4, (12, 56, 0), 0, 0, []) else TN)) else (bif Nat.blt pc 7 then (bif Nat.beq pc 4 then (.ifCond .eq 5, 7, (9, 0, 0), 0, 0, []) else TN) else (bif Nat.beq pc 7 then (.iconst 0, 8, (0, 0, 0), 0, 0, []) else TN))) else (bif Nat.blt pc 10 then (bif Nat.blt pc 9 then (bif Nat.beq pc 8 then (.ireturn, 9, (0, 0, 0), 0, 0, []) else TN) else (bif Nat.beq pc 9 then (.aload_n 0, 10, (0, 0, 0), 0, 0, []) else TN)) else (bif Nat.blt pc 12 then (bif Nat.beq pc 10 then (.bipush 33, 12, (0, 0, 0), 33, 0, []) else TN) else (bif Nat.blt pc 15 then (bif Nat.beq pc 12 then (.invokevirtual 291, 15, (162, 1, 12), 0, 0, []) else TN) else (bif Nat.beq pc 15 then (.ifCond .ne 12, 18, (27, 0, 0), 0, 0, []) else TN))))) else (bif Nat.blt pc 28 then (bif Nat.blt pc 21 then (bif Nat.blt pc 19 then (bif Nat.beq pc 18 then (.aload_n 0, 19, (0, 0, 0), 0, 0, []) else TN) else (bif Nat.beq pc 19 then (.bipush 40, 21, (0, 0, 0), 40, 0, []) else TN)) else (bif Nat.blt pc 24 then (bif Nat.beq pc 21 then (.invokevirtual 291, 24, (162, 1, 12), 0, 0, []) else TN) else (bif Nat.blt pc 27 then (bif Nat.beq pc 24 then (.ifCond .eq 170, 27, (194, 0, 0), 0, 0, []) else TN) else (bif Nat.beq pc 27 then (.aload_n 0, 28, (0, 0, 0), 0, 0, []) else TN)))) else (bif Nat.blt pc 33 then (bif Nat.blt pc 30 then (bif Nat.beq pc 28 then (.bipush 33, 30, (0, 0, 0), 33, 0, []) else TN) else (bif Nat.beq pc 30 then (.invokevirtual 291, 33, (162, 1, 12), 0, 0, []) else TN)) else (bif Nat.blt pc 34 then (bif Nat.beq pc 33 then (.istore_n 1, 34, (1, 0, 0), 0, 0, []) else TN) else (bif Nat.blt pc 35 then (bif Nat.beq pc 34 then (.aload_n 0, 35, (0, 0, 0), 0, 0, []) else TN) else (bif Nat.beq pc 35 then (.iload_n 1, 36, (1, 0, 0), 0, 0, []) else TN)))))) else (bif Nat.blt pc 56 then (bif Nat.blt pc 46 then (bif Nat.blt pc 40 then (bif Nat.blt pc 39 then (bif Nat.beq pc 36 then (.ifCond .eq 10, 39, (46, 0, 0), 0, 0, []) else TN) else (bif Nat.beq pc 39 then (.aload_n 0, 40, (0, 0, 0), 0, 0, []) else TN)) else (bif Nat.blt pc 43 then (bif Nat.beq pc 40 then (.getfield 294, 43, (12, 59, 0), 0, 0, []) else TN) else (bif Nat.beq pc 43 then (.goto 7, 46, (50, 0, 0), 0, 0, []) else TN))) else (bif Nat.blt pc 50 then (bif Nat.blt pc 47 then (bif Nat.beq pc 46 then (.aload_n 0, 47, (0, 0, 0), 0, 0, []) else TN) else (bif Nat.beq pc 47 then (.getfield 297, 50, (12, 58, 0), 0, 0, []) else TN)) else (bif Nat.blt pc 52 then (bif Nat.beq pc 50 then (.bipush 8, 52, (0, 0, 0), 8, 0, []) else TN) else (bif Nat.blt pc 55 then (bif Nat.beq pc 52 then (.if_icmp .ge 7, 55, (59, 0, 0), 0, 0, []) else TN) else (bif Nat.beq pc 55 then (.iconst 1, 56, (0, 0, 0), 1, 0, []) else TN))))) else (bif Nat.blt pc 65 then (bif Nat.blt pc 60 then (bif Nat.blt pc 59 then (bif Nat.beq pc 56 then (.goto 4, 59, (60, 0, 0), 0, 0, []) else TN) else (bif Nat.beq pc 59 then (.iconst 0, 60, (0, 0, 0), 0, 0, []) else TN)) else (bif Nat.blt pc 63 then (bif Nat.beq pc 60 then (.invokevirtual 287, 63, (209, 1, 12), 0, 0, []) else TN) else (bif Nat.blt pc 64 then (bif Nat.beq pc 63 then (.aload_n 0, 64, (0, 0, 0), 0, 0, []) else TN) else (bif Nat.beq pc 64 then (.dup, 65, (0, 0, 0), 0, 0, []) else TN)))) else (bif Nat.blt pc 69 then (bif Nat.blt pc 68 then (bif Nat.beq pc 65 then (.getfield 294, 68, (12, 59, 0), 0, 0, []) else TN) else (bif Nat.beq pc 68 then (.iload_n 1, 69, (1, 0, 0), 0, 0, []) else TN)) else (bif Nat.blt pc 72 then (bif Nat.beq pc 69 then (.ifCond .eq 7, 72, (76, 0, 0), 0, 0, []) else TN) else (bif Nat.blt pc 73 then (bif Nat.beq pc 72 then (.iconst 1, 73, (0, 0, 0), 1, 0, []) else TN) else (bif Nat.beq pc 73 then (.goto 4, 76, (77, 0, 0), 0, 0, []) else TN))))))) else (bif Nat.blt pc 111 then (bif Nat.blt pc 91 then (bif Nat.blt pc 82 then (bif Nat.blt pc 78 then (bif Nat.blt pc 77 then (bif Nat.beq pc 76 then (.iconst 0, 77, (0, 0, 0), 0, 0, []) else TN) else (bif Nat.beq pc 77 then (.iadd, 78, (0, 0, 0), 0, 0, []) else TN)) else (bif Nat.blt pc 81 then (bif Nat.beq pc 78 then (.putfield 294, 81, (12, 59, 0), 0, 0, []) else TN) else (bif Nat.beq pc 81 then (.aload_n 0, 82, (0, 0, 0), 0, 0, []) else TN))) else (bif Nat.blt pc 86 then (bif Nat.blt pc 83 then (bif Nat.beq pc 82 then (.dup, 83, (0, 0, 0), 0, 0, []) else TN) else (bif Nat.beq pc 83 then (.getfield 297, 86, (12, 58, 0), 0, 0, []) else TN)) else (bif Nat.blt pc 87 then (bif Nat.beq pc 86 then (.iload_n 1, 87, (1, 0, 0), 0, 0, []) else TN) else (bif Nat.blt pc 90 then (bif Nat.beq pc 87 then (.ifCond .eq 7, 90, (94, 0, 0), 0, 0, []) else TN) else (bif Nat.beq pc 90 then (.iconst 0, 91, (0, 0, 0), 0, 0, []) else TN))))) else (bif Nat.blt pc 100 then (bif Nat.blt pc 95 then (bif Nat.blt pc 94 then (bif Nat.beq pc 91 then (.goto 4, 94, (95, 0, 0), 0, 0, []) else TN) else (bif Nat.beq pc 94 then (.iconst 1, 95, (0, 0, 0), 1, 0, []) else TN)) else (bif Nat.blt pc 96 then (bif Nat.beq pc 95 then (.iadd, 96, (0, 0, 0), 0, 0, []) else TN) else (bif Nat.blt pc 99 then (bif Nat.beq pc 96 then (.putfield 297, 99, (12, 58, 0), 0, 0, []) else TN) else (bif Nat.beq pc 99 then (.aload_n 0, 100, (0, 0, 0), 0, 0, []) else TN)))) else (bif Nat.blt pc 106 then (bif Nat.blt pc 103 then (bif Nat.beq pc 100 then (.getfield 268, 103, (12, 56, 0), 0, 0, []) else TN) else (bif Nat.beq pc 103 then (.ifCond .eq 7, 106, (110, 0, 0), 0, 0, []) else TN)) else (bif Nat.blt pc 107 then (bif Nat.beq pc 106 then (.iconst 0, 107, (0, 0, 0), 0, 0, []) else TN) else (bif Nat.blt pc 110 then (bif Nat.beq pc 107 then (.goto 18, 110, (125, 0, 0), 0, 0, []) else TN) else (bif Nat.beq pc 110 then (.iload_n 1, 111, (1, 0, 0), 0, 0, []) else TN)))))) else (bif Nat.blt pc 131 then (bif Nat.blt pc 122 then (bif Nat.blt pc 115 then (bif Nat.blt pc 114 then (bif Nat.beq pc 111 then (.ifCond .eq 10, 114, (121, 0, 0), 0, 0, []) else TN) else (bif Nat.beq pc 114 then (.aload_n 0, 115, (0, 0, 0), 0, 0, []) else TN)) else (bif Nat.blt pc 118 then (bif Nat.beq pc 115 then (.invokevirtual 300, 118, (188, 0, 12), 0, 0, []) else TN) else (bif Nat.blt pc 121 then (bif Nat.beq pc 118 then (.goto 7, 121, (125, 0, 0), 0, 0, []) else TN) else (bif Nat.beq pc 121 then (.aload_n 0, 122, (0, 0, 0), 0, 0, []) else TN)))) else (bif Nat.blt pc 126 then (bif Nat.blt pc 125 then (bif Nat.beq pc 122 then (.invokevirtual 303, 125, (190, 0, 12), 0, 0, []) else TN) else (bif Nat.beq pc 125 then (.istore_n 2, 126, (2, 0, 0), 0, 0, []) else TN)) else (bif Nat.blt pc 127 then (bif Nat.beq pc 126 then (.aload_n 0, 127, (0, 0, 0), 0, 0, []) else TN) else (bif Nat.blt pc 128 then (bif Nat.beq pc 127 then (.dup, 128, (0, 0, 0), 0, 0, []) else TN) else (bif Nat.beq pc 128 then (.getfield 294, 131, (12, 59, 0), 0, 0, []) else TN))))) else (bif Nat.blt pc 140 then (bif Nat.blt pc 135 then (bif Nat.blt pc 132 then (bif Nat.beq pc 131 then (.iload_n 1, 132, (1, 0, 0), 0, 0, []) else TN) else (bif Nat.beq pc 132 then (.ifCond .eq 7, 135, (139, 0, 0), 0, 0, []) else TN)) else (bif Nat.blt pc 136 then (bif Nat.beq pc 135 then (.iconst 1, 136, (0, 0, 0), 1, 0, []) else TN) else (bif Nat.blt pc 139 then (bif Nat.beq pc 136 then (.goto 4, 139, (140, 0, 0), 0, 0, []) else TN) else (bif Nat.beq pc 139 then (.iconst 0, 140, (0, 0, 0), 0, 0, []) else TN)))) else (bif Nat.blt pc 144 then (bif Nat.blt pc 141 then (bif Nat.beq pc 140 then (.isub, 141, (0, 0, 0), 0, 0, []) else TN) else (bif Nat.beq pc 141 then (.putfield 294, 144, (12, 59, 0), 0, 0, []) else TN)) else (bif Nat.blt pc 145 then (bif Nat.beq pc 144 then (.aload_n 0, 145, (0, 0, 0), 0, 0, []) else TN) else (bif Nat.blt pc 146 then (bif Nat.beq pc 145 then (.dup, 146, (0, 0, 0), 0, 0, []) else TN) else (bif Nat.beq pc 146 then (.getfield 297, 149, (12, 58, 0), 0, 0, []) else TN)))))))) else (bif Nat.blt pc 223 then (bif Nat.blt pc 185 then (bif Nat.blt pc 166 then (bif Nat.blt pc 157 then (bif Nat.blt pc 153 then (bif Nat.blt pc 150 then (bif Nat.beq pc 149 then (.iload_n 1, 150, (1, 0, 0), 0, 0, []) else TN) else (bif Nat.beq pc 150 then (.ifCond .eq 7, 153, (157, 0, 0), 0, 0, []) else TN)) else (bif Nat.blt pc 154 then (bif Nat.beq pc 153 then (.iconst 0, 154, (0, 0, 0), 0, 0, []) else TN) else (bif Nat.beq pc 154 then (.goto 4, 157, (158, 0, 0), 0, 0, []) else TN))) else (bif Nat.blt pc 159 then (bif Nat.blt pc 158 then (bif Nat.beq pc 157 then (.iconst 1, 158, (0, 0, 0), 1, 0, []) else TN) else (bif Nat.beq pc 158 then (.isub, 159, (0, 0, 0), 0, 0, []) else TN)) else (bif Nat.blt pc 162 then (bif Nat.beq pc 159 then (.putfield 297, 162, (12, 58, 0), 0, 0, []) else TN) else (bif Nat.blt pc 163 then (bif Nat.beq pc 162 then (.iload_n 1, 163, (1, 0, 0), 0, 0, []) else TN) else (bif Nat.beq pc 163 then (.ifCond .ne 13, 166, (176, 0, 0), 0, 0, []) else TN))))) else (bif Nat.blt pc 176 then (bif Nat.blt pc 168 then (bif Nat.blt pc 167 then (bif Nat.beq pc 166 then (.aload_n 0, 167, (0, 0, 0), 0, 0, []) else TN) else (bif Nat.beq pc 167 then (.aload_n 0, 168, (0, 0, 0), 0, 0, []) else TN)) else (bif Nat.blt pc 170 then (bif Nat.beq pc 168 then (.bipush 41, 170, (0, 0, 0), 41, 0, []) else TN) else (bif Nat.blt pc 173 then (bif Nat.beq pc 170 then (.invokevirtual 291, 173, (162, 1, 12), 0, 0, []) else TN) else (bif Nat.beq pc 173 then (.invokevirtual 287, 176, (209, 1, 12), 0, 0, []) else TN)))) else (bif Nat.blt pc 180 then (bif Nat.blt pc 177 then (bif Nat.beq pc 176 then (.iload_n 1, 177, (1, 0, 0), 0, 0, []) else TN) else (bif Nat.beq pc 177 then (.ifCond .ne 7, 180, (184, 0, 0), 0, 0, []) else TN)) else (bif Nat.blt pc 181 then (bif Nat.beq pc 180 then (.iload_n 2, 181, (2, 0, 0), 0, 0, []) else TN) else (bif Nat.blt pc 184 then (bif Nat.beq pc 181 then (.goto 12, 184, (193, 0, 0), 0, 0, []) else TN) else (bif Nat.beq pc 184 then (.iload_n 2, 185, (2, 0, 0), 0, 0, []) else TN)))))) else (bif Nat.blt pc 203 then (bif Nat.blt pc 194 then (bif Nat.blt pc 189 then (bif Nat.blt pc 188 then (bif Nat.beq pc 185 then (.ifCond .ne 7, 188, (192, 0, 0), 0, 0, []) else TN) else (bif Nat.beq pc 188 then (.iconst 1, 189, (0, 0, 0), 1, 0, []) else TN)) else (bif Nat.blt pc 192 then (bif Nat.beq pc 189 then (.goto 4, 192, (193, 0, 0), 0, 0, []) else TN) else (bif Nat.blt pc 193 then (bif Nat.beq pc 192 then (.iconst 0, 193, (0, 0, 0), 0, 0, []) else TN) else (bif Nat.beq pc 193 then (.ireturn, 194, (0, 0, 0), 0, 0, []) else TN)))) else (bif Nat.blt pc 198 then (bif Nat.blt pc 195 then (bif Nat.beq pc 194 then (.aload_n 0, 195, (0, 0, 0), 0, 0, []) else TN) else (bif Nat.beq pc 195 then (.getfield 250, 198, (12, 53, 0), 0, 0, []) else TN)) else (bif Nat.blt pc 199 then (bif Nat.beq pc 198 then (.iconst 2, 199, (0, 0, 0), 2, 0, []) else TN) else (bif Nat.blt pc 202 then (bif Nat.beq pc 199 then (.if_icmp .ne 8, 202, (207, 0, 0), 0, 0, []) else TN) else (bif Nat.beq pc 202 then (.aload_n 0, 203, (0, 0, 0), 0, 0, []) else TN))))) else (bif Nat.blt pc 212 then (bif Nat.blt pc 207 then (bif Nat.blt pc 206 then (bif Nat.beq pc 203 then (.invokevirtual 306, 206, (185, 0, 12), 0, 0, []) else TN) else (bif Nat.beq pc 206 then (.ireturn, 207, (0, 0, 0), 0, 0, []) else TN)) else (bif Nat.blt pc 208 then (bif Nat.beq pc 207 then (.aload_n 0, 208, (0, 0, 0), 0, 0, []) else TN) else (bif Nat.blt pc 211 then (bif Nat.beq pc 208 then (.getfield 250, 211, (12, 53, 0), 0, 0, []) else TN) else (bif Nat.beq pc 211 then (.iconst 1, 212, (0, 0, 0), 1, 0, []) else TN)))) else (bif Nat.blt pc 216 then (bif Nat.blt pc 215 then (bif Nat.beq pc 212 then (.if_icmp .ne 30, 215, (242, 0, 0), 0, 0, []) else TN) else (bif Nat.beq pc 215 then (.aload_n 0, 216, (0, 0, 0), 0, 0, []) else TN)) else (bif Nat.blt pc 219 then (bif Nat.beq pc 216 then (.getfield 253, 219, (12, 55, 0), 0, 0, []) else TN) else (bif Nat.blt pc 220 then (bif Nat.beq pc 219 then (.aload_n 0, 220, (0, 0, 0), 0, 0, []) else TN) else (bif Nat.beq pc 220 then (.getfield 256, 223, (12, 54, 0), 0, 0, []) else TN))))))) else (bif Nat.blt pc 256 then (bif Nat.blt pc 242 then (bif Nat.blt pc 229 then (bif Nat.blt pc 225 then (bif Nat.blt pc 224 then (bif Nat.beq pc 223 then (.isub, 224, (0, 0, 0), 0, 0, []) else TN) else (bif Nat.beq pc 224 then (.iconst 1, 225, (0, 0, 0), 1, 0, []) else TN)) else (bif Nat.blt pc 228 then (bif Nat.beq pc 225 then (.if_icmp .ne 17, 228, (242, 0, 0), 0, 0, []) else TN) else (bif Nat.beq pc 228 then (.aload_n 0, 229, (0, 0, 0), 0, 0, []) else TN))) else (bif Nat.blt pc 233 then (bif Nat.blt pc 230 then (bif Nat.beq pc 229 then (.aload_n 0, 230, (0, 0, 0), 0, 0, []) else TN) else (bif Nat.beq pc 230 then (.getfield 256, 233, (12, 54, 0), 0, 0, []) else TN)) else (bif Nat.blt pc 236 then (bif Nat.beq pc 233 then (.invokevirtual 259, 236, (122, 1, 12), 0, 0, []) else TN) else (bif Nat.blt pc 239 then (bif Nat.beq pc 236 then (.invokestatic 214, 239, (181, 1, 0), 0, 0, []) else TN) else (bif Nat.beq pc 239 then (.goto 4, 242, (243, 0, 0), 0, 0, []) else TN))))) else (bif Nat.blt pc 249 then (bif Nat.blt pc 244 then (bif Nat.blt pc 243 then (bif Nat.beq pc 242 then (.iconst (-1), 243, (0, 0, 0), -1, 0, []) else TN) else (bif Nat.beq pc 243 then (.istore_n 1, 244, (1, 0, 0), 0, 0, []) else TN)) else (bif Nat.blt pc 245 then (bif Nat.beq pc 244 then (.aload_n 0, 245, (0, 0, 0), 0, 0, []) else TN) else (bif Nat.blt pc 246 then (bif Nat.beq pc 245 then (.dup, 246, (0, 0, 0), 0, 0, []) else TN) else (bif Nat.beq pc 246 then (.getfield 284, 249, (12, 60, 0), 0, 0, []) else TN)))) else (bif Nat.blt pc 251 then (bif Nat.blt pc 250 then (bif Nat.beq pc 249 then (.iconst 1, 250, (0, 0, 0), 1, 0, []) else TN) else (bif Nat.beq pc 250 then (.iadd, 251, (0, 0, 0), 0, 0, []) else TN)) else (bif Nat.blt pc 254 then (bif Nat.beq pc 251 then (.putfield 284, 254, (12, 60, 0), 0, 0, []) else TN) else (bif Nat.blt pc 255 then (bif Nat.beq pc 254 then (.aload_n 0, 255, (0, 0, 0), 0, 0, []) else TN) else (bif Nat.beq pc 255 then (.iload_n 1, 256, (1, 0, 0), 0, 0, []) else TN)))))) else (bif Nat.blt pc 278 then (bif Nat.blt pc 265 then (bif Nat.blt pc 258 then (bif Nat.blt pc 257 then (bif Nat.beq pc 256 then (.iconst 0, 257, (0, 0, 0), 0, 0, []) else TN) else (bif Nat.beq pc 257 then (.aload_n 0, 258, (0, 0, 0), 0, 0, []) else TN)) else (bif Nat.blt pc 261 then (bif Nat.beq pc 258 then (.getfield 309, 261, (12, 57, 0), 0, 0, []) else TN) else (bif Nat.blt pc 262 then (bif Nat.beq pc 261 then (.iconst 1, 262, (0, 0, 0), 1, 0, []) else TN) else (bif Nat.beq pc 262 then (.if_icmp .ne 8, 265, (270, 0, 0), 0, 0, []) else TN)))) else (bif Nat.blt pc 270 then (bif Nat.blt pc 267 then (bif Nat.beq pc 265 then (.bipush 12, 267, (0, 0, 0), 12, 0, []) else TN) else (bif Nat.beq pc 267 then (.goto 5, 270, (272, 0, 0), 0, 0, []) else TN)) else (bif Nat.blt pc 272 then (bif Nat.beq pc 270 then (.bipush 9, 272, (0, 0, 0), 9, 0, []) else TN) else (bif Nat.blt pc 275 then (bif Nat.beq pc 272 then (.invokestatic 146, 275, (147, 3, 0), 0, 0, []) else TN) else (bif Nat.beq pc 275 then (.invokevirtual 287, 278, (209, 1, 12), 0, 0, []) else TN))))) else (bif Nat.blt pc 289 then (bif Nat.blt pc 282 then (bif Nat.blt pc 279 then (bif Nat.beq pc 278 then (.aload_n 0, 279, (0, 0, 0), 0, 0, []) else TN) else (bif Nat.beq pc 279 then (.getfield 268, 282, (12, 56, 0), 0, 0, []) else TN)) else (bif Nat.blt pc 285 then (bif Nat.beq pc 282 then (.ifCond .eq 7, 285, (289, 0, 0), 0, 0, []) else TN) else (bif Nat.blt pc 286 then (bif Nat.beq pc 285 then (.iconst 0, 286, (0, 0, 0), 0, 0, []) else TN) else (bif Nat.beq pc 286 then (.goto 9, 289, (295, 0, 0), 0, 0, []) else TN)))) else (bif Nat.blt pc 293 then (bif Nat.blt pc 290 then (bif Nat.beq pc 289 then (.aload_n 0, 290, (0, 0, 0), 0, 0, []) else TN) else (bif Nat.beq pc 290 then (.getfield 118, 293, (12, 46, 0), 0, 0, []) else TN)) else (bif Nat.blt pc 294 then (bif Nat.beq pc 293 then (.iload_n 1, 294, (1, 0, 0), 0, 0, []) else TN) else (bif Nat.blt pc 295 then (bif Nat.beq pc 294 then (.iaload, 295, (0, 0, 0), 0, 0, []) else TN) else (bif Nat.beq pc 295 then (.ireturn, 296, (0, 0, 0), 0, 0, []) else TN))))))))
def tb_X12_one (pc : Nat) : TI := bif Nat.ble 296 pc then TN else tt_X12_one pc
theorem ok_X12_one : tOK 12 (decide ("one" = "<init>")) cX12_one tb_X12_one := tOK_of 296 tn_of (by decide +kernel)
def f_X12_one_176 (g_X12_one : Lay → Sto → Nat → Option (Int32 × Sto)) (g_X12_or : Lay → Sto → Nat → Option (Int32 × Sto)) (L : Lay) (σ : Sto) (a1 : Int32) (a2 : Int32) : Option (Int32 × Sto) := (if a1 = 0 then some (a2, σ) else (if a2 = 0 then some (1, σ) else some (0, σ)))
def A_X12_one_176 (c : Lay → Sto → Int32 → Int32 → Option (Int32 × Sto)) (lc : List (Option AV)) (st : List AV) (L : Lay) (σ : Sto) : Option (Int32 × Sto) := match lc, st with
  | [_, some (.inl a1), some (.inl a2)], [] => c L σ a1 a2
  | _, _ => none
def f_X12_one_158 (g_X12_one : Lay → Sto → Nat → Option (Int32 × Sto)) (g_X12_or : Lay → Sto → Nat → Option (Int32 × Sto)) (L : Lay) (σ : Sto) (a0 : Nat) (a1 : Int32) (a2 : Int32) (s0 : Int32) (s1 : Int32) (s2 : Nat) : Option (Int32 × Sto) := (putI σ s2 58 (s1 - s0)).bind fun σ1 => (if a1 = 0 then (f_X12_isSign L σ1 a0 41).bind fun r2 => (f_X12_takes L σ1 a0 r2).bind fun σ3 => (f_X12_one_176 g_X12_one g_X12_or) L σ3 a1 a2 else (f_X12_one_176 g_X12_one g_X12_or) L σ1 a1 a2)
def A_X12_one_158 (c : Lay → Sto → Nat → Int32 → Int32 → Int32 → Int32 → Nat → Option (Int32 × Sto)) (lc : List (Option AV)) (st : List AV) (L : Lay) (σ : Sto) : Option (Int32 × Sto) := match lc, st with
  | [some (.inr (.inr (.inl (ta0, some a0)))), some (.inl a1), some (.inl a2)], [.inl s0, .inl s1, .inr (.inr (.inl (ts2, some s2)))] => bif Nat.beq ta0 12 && (Nat.beq ts2 12 && true) then c L σ a0 a1 a2 s0 s1 s2 else none
  | _, _ => none
def f_X12_one_140 (g_X12_one : Lay → Sto → Nat → Option (Int32 × Sto)) (g_X12_or : Lay → Sto → Nat → Option (Int32 × Sto)) (L : Lay) (σ : Sto) (a0 : Nat) (a1 : Int32) (a2 : Int32) (s0 : Int32) (s1 : Int32) (s2 : Nat) : Option (Int32 × Sto) := (putI σ s2 59 (s1 - s0)).bind fun σ4 => (if a1 = 0 then (f_X12_one_158 g_X12_one g_X12_or) L σ4 a0 a1 a2 1 (σ4.1 a0 58) a0 else (f_X12_one_158 g_X12_one g_X12_or) L σ4 a0 a1 a2 0 (σ4.1 a0 58) a0)
def A_X12_one_140 (c : Lay → Sto → Nat → Int32 → Int32 → Int32 → Int32 → Nat → Option (Int32 × Sto)) (lc : List (Option AV)) (st : List AV) (L : Lay) (σ : Sto) : Option (Int32 × Sto) := match lc, st with
  | [some (.inr (.inr (.inl (ta0, some a0)))), some (.inl a1), some (.inl a2)], [.inl s0, .inl s1, .inr (.inr (.inl (ts2, some s2)))] => bif Nat.beq ta0 12 && (Nat.beq ts2 12 && true) then c L σ a0 a1 a2 s0 s1 s2 else none
  | _, _ => none
def f_X12_one_125 (g_X12_one : Lay → Sto → Nat → Option (Int32 × Sto)) (g_X12_or : Lay → Sto → Nat → Option (Int32 × Sto)) (L : Lay) (σ : Sto) (a0 : Nat) (a1 : Int32) (s0 : Int32) : Option (Int32 × Sto) := (if a1 = 0 then (f_X12_one_140 g_X12_one g_X12_or) L σ a0 a1 s0 0 (σ.1 a0 59) a0 else (f_X12_one_140 g_X12_one g_X12_or) L σ a0 a1 s0 1 (σ.1 a0 59) a0)
def A_X12_one_125 (c : Lay → Sto → Nat → Int32 → Int32 → Option (Int32 × Sto)) (lc : List (Option AV)) (st : List AV) (L : Lay) (σ : Sto) : Option (Int32 × Sto) := match lc, st with
  | [some (.inr (.inr (.inl (ta0, some a0)))), some (.inl a1), _], [.inl s0] => bif Nat.beq ta0 12 && true then c L σ a0 a1 s0 else none
  | _, _ => none
def f_X12_one_95 (g_X12_one : Lay → Sto → Nat → Option (Int32 × Sto)) (g_X12_or : Lay → Sto → Nat → Option (Int32 × Sto)) (L : Lay) (σ : Sto) (a0 : Nat) (a1 : Int32) (s0 : Int32) (s1 : Int32) (s2 : Nat) : Option (Int32 × Sto) := (putI σ s2 58 (s1 + s0)).bind fun σ5 => (if (σ5.1 a0 56) = 0 then (if a1 = 0 then (g_X12_or L σ5 a0).bind fun r6 => (f_X12_one_125 g_X12_one g_X12_or) L r6.2 a0 a1 r6.1 else (g_X12_one L σ5 a0).bind fun r7 => (f_X12_one_125 g_X12_one g_X12_or) L r7.2 a0 a1 r7.1) else (f_X12_one_125 g_X12_one g_X12_or) L σ5 a0 a1 0)
def A_X12_one_95 (c : Lay → Sto → Nat → Int32 → Int32 → Int32 → Nat → Option (Int32 × Sto)) (lc : List (Option AV)) (st : List AV) (L : Lay) (σ : Sto) : Option (Int32 × Sto) := match lc, st with
  | [some (.inr (.inr (.inl (ta0, some a0)))), some (.inl a1), _], [.inl s0, .inl s1, .inr (.inr (.inl (ts2, some s2)))] => bif Nat.beq ta0 12 && (Nat.beq ts2 12 && true) then c L σ a0 a1 s0 s1 s2 else none
  | _, _ => none
def f_X12_one_77 (g_X12_one : Lay → Sto → Nat → Option (Int32 × Sto)) (g_X12_or : Lay → Sto → Nat → Option (Int32 × Sto)) (L : Lay) (σ : Sto) (a0 : Nat) (a1 : Int32) (s0 : Int32) (s1 : Int32) (s2 : Nat) : Option (Int32 × Sto) := (putI σ s2 59 (s1 + s0)).bind fun σ8 => (if a1 = 0 then (f_X12_one_95 g_X12_one g_X12_or) L σ8 a0 a1 1 (σ8.1 a0 58) a0 else (f_X12_one_95 g_X12_one g_X12_or) L σ8 a0 a1 0 (σ8.1 a0 58) a0)
def A_X12_one_77 (c : Lay → Sto → Nat → Int32 → Int32 → Int32 → Nat → Option (Int32 × Sto)) (lc : List (Option AV)) (st : List AV) (L : Lay) (σ : Sto) : Option (Int32 × Sto) := match lc, st with
  | [some (.inr (.inr (.inl (ta0, some a0)))), some (.inl a1), _], [.inl s0, .inl s1, .inr (.inr (.inl (ts2, some s2)))] => bif Nat.beq ta0 12 && (Nat.beq ts2 12 && true) then c L σ a0 a1 s0 s1 s2 else none
  | _, _ => none
def f_X12_one_60 (g_X12_one : Lay → Sto → Nat → Option (Int32 × Sto)) (g_X12_or : Lay → Sto → Nat → Option (Int32 × Sto)) (L : Lay) (σ : Sto) (a0 : Nat) (a1 : Int32) (s0 : Int32) (s1 : Nat) : Option (Int32 × Sto) := (f_X12_takes L σ s1 s0).bind fun σ9 => (if a1 = 0 then (f_X12_one_77 g_X12_one g_X12_or) L σ9 a0 a1 0 (σ9.1 a0 59) a0 else (f_X12_one_77 g_X12_one g_X12_or) L σ9 a0 a1 1 (σ9.1 a0 59) a0)
def A_X12_one_60 (c : Lay → Sto → Nat → Int32 → Int32 → Nat → Option (Int32 × Sto)) (lc : List (Option AV)) (st : List AV) (L : Lay) (σ : Sto) : Option (Int32 × Sto) := match lc, st with
  | [some (.inr (.inr (.inl (ta0, some a0)))), some (.inl a1), _], [.inl s0, .inr (.inr (.inl (ts1, some s1)))] => bif Nat.beq ta0 12 && (Nat.beq ts1 12 && true) then c L σ a0 a1 s0 s1 else none
  | _, _ => none
def f_X12_one_50 (g_X12_one : Lay → Sto → Nat → Option (Int32 × Sto)) (g_X12_or : Lay → Sto → Nat → Option (Int32 × Sto)) (L : Lay) (σ : Sto) (a0 : Nat) (a1 : Int32) (s0 : Int32) (s1 : Nat) : Option (Int32 × Sto) := (if 8 ≤ s0 then (f_X12_one_60 g_X12_one g_X12_or) L σ a0 a1 0 s1 else (f_X12_one_60 g_X12_one g_X12_or) L σ a0 a1 1 s1)
def A_X12_one_50 (c : Lay → Sto → Nat → Int32 → Int32 → Nat → Option (Int32 × Sto)) (lc : List (Option AV)) (st : List AV) (L : Lay) (σ : Sto) : Option (Int32 × Sto) := match lc, st with
  | [some (.inr (.inr (.inl (ta0, some a0)))), some (.inl a1), _], [.inl s0, .inr (.inr (.inl (ts1, some s1)))] => bif Nat.beq ta0 12 && (Nat.beq ts1 12 && true) then c L σ a0 a1 s0 s1 else none
  | _, _ => none
def f_X12_one_27 (g_X12_one : Lay → Sto → Nat → Option (Int32 × Sto)) (g_X12_or : Lay → Sto → Nat → Option (Int32 × Sto)) (L : Lay) (σ : Sto) (a0 : Nat) : Option (Int32 × Sto) := (f_X12_isSign L σ a0 33).bind fun r10 => (if r10 = 0 then (f_X12_one_50 g_X12_one g_X12_or) L σ a0 r10 (σ.1 a0 58) a0 else (f_X12_one_50 g_X12_one g_X12_or) L σ a0 r10 (σ.1 a0 59) a0)
def A_X12_one_27 (c : Lay → Sto → Nat → Option (Int32 × Sto)) (lc : List (Option AV)) (st : List AV) (L : Lay) (σ : Sto) : Option (Int32 × Sto) := match lc, st with
  | [some (.inr (.inr (.inl (ta0, some a0)))), _, _], [] => bif Nat.beq ta0 12 && true then c L σ a0 else none
  | _, _ => none
def f_X12_one_272 (g_X12_one : Lay → Sto → Nat → Option (Int32 × Sto)) (g_X12_or : Lay → Sto → Nat → Option (Int32 × Sto)) (L : Lay) (σ : Sto) (a0 : Nat) (a1 : Int32) (s0 : Int32) (s1 : Int32) (s2 : Int32) (s3 : Nat) : Option (Int32 × Sto) := (f_X12_in L σ s2 s1 s0).bind fun r11 => (f_X12_takes L σ s3 r11).bind fun σ12 => (if (σ12.1 a0 56) = 0 then (σ12.2.1 a0 46).bind fun x13 => (rI L σ12 x13 a1).bind fun v14 => some (v14, σ12) else some (0, σ12))
def A_X12_one_272 (c : Lay → Sto → Nat → Int32 → Int32 → Int32 → Int32 → Nat → Option (Int32 × Sto)) (lc : List (Option AV)) (st : List AV) (L : Lay) (σ : Sto) : Option (Int32 × Sto) := match lc, st with
  | [some (.inr (.inr (.inl (ta0, some a0)))), some (.inl a1), _], [.inl s0, .inl s1, .inl s2, .inr (.inr (.inl (ts3, some s3)))] => bif Nat.beq ta0 12 && (Nat.beq ts3 12 && true) then c L σ a0 a1 s0 s1 s2 s3 else none
  | _, _ => none
def f_X12_one_243 (g_X12_one : Lay → Sto → Nat → Option (Int32 × Sto)) (g_X12_or : Lay → Sto → Nat → Option (Int32 × Sto)) (L : Lay) (σ : Sto) (a0 : Nat) (s0 : Int32) : Option (Int32 × Sto) := (putI σ a0 60 ((σ.1 a0 60) + 1)).bind fun σ15 => (if (σ15.1 a0 57) = 1 then (f_X12_one_272 g_X12_one g_X12_or) L σ15 a0 s0 12 0 s0 a0 else (f_X12_one_272 g_X12_one g_X12_or) L σ15 a0 s0 9 0 s0 a0)
def A_X12_one_243 (c : Lay → Sto → Nat → Int32 → Option (Int32 × Sto)) (lc : List (Option AV)) (st : List AV) (L : Lay) (σ : Sto) : Option (Int32 × Sto) := match lc, st with
  | [some (.inr (.inr (.inl (ta0, some a0)))), _, _], [.inl s0] => bif Nat.beq ta0 12 && true then c L σ a0 s0 else none
  | _, _ => none
def f_X12_one_242 (g_X12_one : Lay → Sto → Nat → Option (Int32 × Sto)) (g_X12_or : Lay → Sto → Nat → Option (Int32 × Sto)) (L : Lay) (σ : Sto) (a0 : Nat) : Option (Int32 × Sto) := (f_X12_one_243 g_X12_one g_X12_or) L σ a0 (-1)
def A_X12_one_242 (c : Lay → Sto → Nat → Option (Int32 × Sto)) (lc : List (Option AV)) (st : List AV) (L : Lay) (σ : Sto) : Option (Int32 × Sto) := match lc, st with
  | [some (.inr (.inr (.inl (ta0, some a0)))), _, _], [] => bif Nat.beq ta0 12 && true then c L σ a0 else none
  | _, _ => none
def fb_X12_one (g_X12_one : Lay → Sto → Nat → Option (Int32 × Sto)) (g_X12_or : Lay → Sto → Nat → Option (Int32 × Sto)) (L : Lay) (σ : Sto) (a0 : Nat) : Option (Int32 × Sto) := (if (σ.1 a0 56) = 0 then (f_X12_isSign L σ a0 33).bind fun r16 => (if r16 = 0 then (f_X12_isSign L σ a0 40).bind fun r17 => (if r17 = 0 then (if (σ.1 a0 53) = 2 then (f_X12_number L σ a0).bind fun r20 => some (r20.1, r20.2) else (if (σ.1 a0 53) = 1 then (if ((σ.1 a0 55) - (σ.1 a0 54)) = 1 then (f_X12_at L σ a0 (σ.1 a0 54)).bind fun r18 => (f_X12_nameOf L σ r18).bind fun r19 => (f_X12_one_243 g_X12_one g_X12_or) L σ a0 r19 else (f_X12_one_242 g_X12_one g_X12_or) L σ a0) else (f_X12_one_242 g_X12_one g_X12_or) L σ a0)) else (f_X12_one_27 g_X12_one g_X12_or) L σ a0) else (f_X12_one_27 g_X12_one g_X12_or) L σ a0) else some (0, σ))
abbrev cl_X12_one (g_X12_one : Lay → Sto → Nat → Option (Int32 × Sto)) (g_X12_or : Lay → Sto → Nat → Option (Int32 × Sto)) {O : Type} : CLT O := (clc 162 ad_X12_isSign (clc 209 ad_X12_takes (clc 190 (adp_X12_or g_X12_or) (clc 188 (adp_X12_one g_X12_one) (clc 147 ad_X12_in (clc 122 ad_X12_at (clc 181 ad_X12_nameOf (clc 185 ad_X12_number cl0))))))))
theorem hc_X12_one (G : GT) (l : Launch) {d : Nat} (hd : 6 ≤ d) {dr : Nat} (hdr : dr + 1 ≤ d) {g_X12_one : Lay → Sto → Nat → Option (Int32 × Sto)} {g_X12_or : Lay → Sto → Nat → Option (Int32 × Sto)} (hg_X12_one : CA G l 188 (true, false) dr (adp_X12_one g_X12_one)) (hg_X12_or : CA G l 190 (true, false) dr (adp_X12_or g_X12_or)) {O : Type} : HCL G l (true, false) d (cl_X12_one g_X12_one g_X12_or (O := O)) := (hclc (ca_X12_isSign G l (d := 2) (Nat.le_refl _)) (fun _ => rfl) (fun e => by cases e) (by omega) (hclc (ca_X12_takes G l (d := 4) (Nat.le_refl _)) (fun _ => rfl) (fun e => by cases e) (by omega) (hclc hg_X12_or (fun _ => rfl) (fun e => by cases e) hdr (hclc hg_X12_one (fun _ => rfl) (fun e => by cases e) hdr (hclc (ca_X12_in G l (d := 1) (Nat.le_refl _)) (fun _ => rfl) (fun e => by cases e) (by omega) (hclc (ca_X12_at G l (d := 1) (Nat.le_refl _)) (fun _ => rfl) (fun e => by cases e) (by omega) (hclc (ca_X12_nameOf G l (d := 1) (Nat.le_refl _)) (fun _ => rfl) (fun e => by cases e) (by omega) (hclc (ca_X12_number G l (d := 5) (Nat.le_refl _)) (fun _ => rfl) (fun e => by cases e) (by omega) hcl0))))))))
theorem rt_X12_one : retOK (0, 0) (some .int) := ⟨fun _ => rfl, fun h => absurd h (by decide), fun h => absurd h (by decide)⟩
set_option maxRecDepth 20000 in
theorem b_X12_one_176 {G : GT} {l : Launch} {d : Nat} {L0 : Lay} {σ0 : Sto} (hd : 6 ≤ d) {dr : Nat} (hdr : dr + 1 ≤ d) {g_X12_one : Lay → Sto → Nat → Option (Int32 × Sto)} {g_X12_or : Lay → Sto → Nat → Option (Int32 × Sto)} (hg_X12_one : CA G l 188 (true, false) dr (adp_X12_one g_X12_one)) (hg_X12_or : CA G l 190 (true, false) dr (adp_X12_or g_X12_or)) : HF G l 12 "one" cX12_one 3 (some .int) d L0 σ0 (true, false) (dcI L0) 176 (A_X12_one_176 (f_X12_one_176 g_X12_one g_X12_or)) := by
  intro lc st L σ o h hI
  unfold A_X12_one_176 at h
  split at h
  · have hA0 := h
    exact exs (sp := []) (K := k0) ok_X12_one rt_X12_one (by omega) (hc_X12_one G l hd hdr hg_X12_one hg_X12_or) (hrI rfl) hk0 158 hA0 hI
  · cases h
set_option maxRecDepth 20000 in
theorem b_X12_one_158 {G : GT} {l : Launch} {d : Nat} {L0 : Lay} {σ0 : Sto} (hd : 6 ≤ d) {dr : Nat} (hdr : dr + 1 ≤ d) {g_X12_one : Lay → Sto → Nat → Option (Int32 × Sto)} {g_X12_or : Lay → Sto → Nat → Option (Int32 × Sto)} (hg_X12_one : CA G l 188 (true, false) dr (adp_X12_one g_X12_one)) (hg_X12_or : CA G l 190 (true, false) dr (adp_X12_or g_X12_or)) : HF G l 12 "one" cX12_one 3 (some .int) d L0 σ0 (true, false) (dcI L0) 158 (A_X12_one_158 (f_X12_one_158 g_X12_one g_X12_or)) := by
  intro lc st L σ o h hI
  unfold A_X12_one_158 at h
  split at h
  · obtain ⟨hq0, hA1⟩ := bif_s h
    obtain ⟨e0, hq1⟩ := beq_and hq0
    obtain ⟨e1, hq2⟩ := beq_and hq1
    subst e0
    subst e1
    exact exs (sp := [176]) (K := (kc 176 (A_X12_one_176 (f_X12_one_176 g_X12_one g_X12_or)) k0)) ok_X12_one rt_X12_one (by omega) (hc_X12_one G l hd hdr hg_X12_one hg_X12_or) (hrI rfl) (hkc (b_X12_one_176 hd hdr hg_X12_one hg_X12_or) hk0) 158 hA1 hI
  · cases h
set_option maxRecDepth 20000 in
theorem b_X12_one_140 {G : GT} {l : Launch} {d : Nat} {L0 : Lay} {σ0 : Sto} (hd : 6 ≤ d) {dr : Nat} (hdr : dr + 1 ≤ d) {g_X12_one : Lay → Sto → Nat → Option (Int32 × Sto)} {g_X12_or : Lay → Sto → Nat → Option (Int32 × Sto)} (hg_X12_one : CA G l 188 (true, false) dr (adp_X12_one g_X12_one)) (hg_X12_or : CA G l 190 (true, false) dr (adp_X12_or g_X12_or)) : HF G l 12 "one" cX12_one 3 (some .int) d L0 σ0 (true, false) (dcI L0) 140 (A_X12_one_140 (f_X12_one_140 g_X12_one g_X12_or)) := by
  intro lc st L σ o h hI
  unfold A_X12_one_140 at h
  split at h
  · obtain ⟨hq0, hA1⟩ := bif_s h
    obtain ⟨e0, hq1⟩ := beq_and hq0
    obtain ⟨e1, hq2⟩ := beq_and hq1
    subst e0
    subst e1
    exact exs (sp := [158]) (K := (kc 158 (A_X12_one_158 (f_X12_one_158 g_X12_one g_X12_or)) k0)) ok_X12_one rt_X12_one (by omega) (hc_X12_one G l hd hdr hg_X12_one hg_X12_or) (hrI rfl) (hkc (b_X12_one_158 hd hdr hg_X12_one hg_X12_or) hk0) 158 hA1 hI
  · cases h
set_option maxRecDepth 20000 in
theorem b_X12_one_125 {G : GT} {l : Launch} {d : Nat} {L0 : Lay} {σ0 : Sto} (hd : 6 ≤ d) {dr : Nat} (hdr : dr + 1 ≤ d) {g_X12_one : Lay → Sto → Nat → Option (Int32 × Sto)} {g_X12_or : Lay → Sto → Nat → Option (Int32 × Sto)} (hg_X12_one : CA G l 188 (true, false) dr (adp_X12_one g_X12_one)) (hg_X12_or : CA G l 190 (true, false) dr (adp_X12_or g_X12_or)) : HF G l 12 "one" cX12_one 3 (some .int) d L0 σ0 (true, false) (dcI L0) 125 (A_X12_one_125 (f_X12_one_125 g_X12_one g_X12_or)) := by
  intro lc st L σ o h hI
  unfold A_X12_one_125 at h
  split at h
  · obtain ⟨hq0, hA1⟩ := bif_s h
    obtain ⟨e0, hq1⟩ := beq_and hq0
    subst e0
    exact exs (sp := [140]) (K := (kc 140 (A_X12_one_140 (f_X12_one_140 g_X12_one g_X12_or)) k0)) ok_X12_one rt_X12_one (by omega) (hc_X12_one G l hd hdr hg_X12_one hg_X12_or) (hrI rfl) (hkc (b_X12_one_140 hd hdr hg_X12_one hg_X12_or) hk0) 158 hA1 hI
  · cases h
set_option maxRecDepth 20000 in
theorem b_X12_one_95 {G : GT} {l : Launch} {d : Nat} {L0 : Lay} {σ0 : Sto} (hd : 6 ≤ d) {dr : Nat} (hdr : dr + 1 ≤ d) {g_X12_one : Lay → Sto → Nat → Option (Int32 × Sto)} {g_X12_or : Lay → Sto → Nat → Option (Int32 × Sto)} (hg_X12_one : CA G l 188 (true, false) dr (adp_X12_one g_X12_one)) (hg_X12_or : CA G l 190 (true, false) dr (adp_X12_or g_X12_or)) : HF G l 12 "one" cX12_one 3 (some .int) d L0 σ0 (true, false) (dcI L0) 95 (A_X12_one_95 (f_X12_one_95 g_X12_one g_X12_or)) := by
  intro lc st L σ o h hI
  unfold A_X12_one_95 at h
  split at h
  · obtain ⟨hq0, hA1⟩ := bif_s h
    obtain ⟨e0, hq1⟩ := beq_and hq0
    obtain ⟨e1, hq2⟩ := beq_and hq1
    subst e0
    subst e1
    exact exs (sp := [125]) (K := (kc 125 (A_X12_one_125 (f_X12_one_125 g_X12_one g_X12_or)) k0)) ok_X12_one rt_X12_one (by omega) (hc_X12_one G l hd hdr hg_X12_one hg_X12_or) (hrI rfl) (hkc (b_X12_one_125 hd hdr hg_X12_one hg_X12_or) hk0) 158 hA1 hI
  · cases h
set_option maxRecDepth 20000 in
theorem b_X12_one_77 {G : GT} {l : Launch} {d : Nat} {L0 : Lay} {σ0 : Sto} (hd : 6 ≤ d) {dr : Nat} (hdr : dr + 1 ≤ d) {g_X12_one : Lay → Sto → Nat → Option (Int32 × Sto)} {g_X12_or : Lay → Sto → Nat → Option (Int32 × Sto)} (hg_X12_one : CA G l 188 (true, false) dr (adp_X12_one g_X12_one)) (hg_X12_or : CA G l 190 (true, false) dr (adp_X12_or g_X12_or)) : HF G l 12 "one" cX12_one 3 (some .int) d L0 σ0 (true, false) (dcI L0) 77 (A_X12_one_77 (f_X12_one_77 g_X12_one g_X12_or)) := by
  intro lc st L σ o h hI
  unfold A_X12_one_77 at h
  split at h
  · obtain ⟨hq0, hA1⟩ := bif_s h
    obtain ⟨e0, hq1⟩ := beq_and hq0
    obtain ⟨e1, hq2⟩ := beq_and hq1
    subst e0
    subst e1
    exact exs (sp := [95]) (K := (kc 95 (A_X12_one_95 (f_X12_one_95 g_X12_one g_X12_or)) k0)) ok_X12_one rt_X12_one (by omega) (hc_X12_one G l hd hdr hg_X12_one hg_X12_or) (hrI rfl) (hkc (b_X12_one_95 hd hdr hg_X12_one hg_X12_or) hk0) 158 hA1 hI
  · cases h
set_option maxRecDepth 20000 in
theorem b_X12_one_60 {G : GT} {l : Launch} {d : Nat} {L0 : Lay} {σ0 : Sto} (hd : 6 ≤ d) {dr : Nat} (hdr : dr + 1 ≤ d) {g_X12_one : Lay → Sto → Nat → Option (Int32 × Sto)} {g_X12_or : Lay → Sto → Nat → Option (Int32 × Sto)} (hg_X12_one : CA G l 188 (true, false) dr (adp_X12_one g_X12_one)) (hg_X12_or : CA G l 190 (true, false) dr (adp_X12_or g_X12_or)) : HF G l 12 "one" cX12_one 3 (some .int) d L0 σ0 (true, false) (dcI L0) 60 (A_X12_one_60 (f_X12_one_60 g_X12_one g_X12_or)) := by
  intro lc st L σ o h hI
  unfold A_X12_one_60 at h
  split at h
  · obtain ⟨hq0, hA1⟩ := bif_s h
    obtain ⟨e0, hq1⟩ := beq_and hq0
    obtain ⟨e1, hq2⟩ := beq_and hq1
    subst e0
    subst e1
    exact exs (sp := [77]) (K := (kc 77 (A_X12_one_77 (f_X12_one_77 g_X12_one g_X12_or)) k0)) ok_X12_one rt_X12_one (by omega) (hc_X12_one G l hd hdr hg_X12_one hg_X12_or) (hrI rfl) (hkc (b_X12_one_77 hd hdr hg_X12_one hg_X12_or) hk0) 158 hA1 hI
  · cases h
set_option maxRecDepth 20000 in
theorem b_X12_one_50 {G : GT} {l : Launch} {d : Nat} {L0 : Lay} {σ0 : Sto} (hd : 6 ≤ d) {dr : Nat} (hdr : dr + 1 ≤ d) {g_X12_one : Lay → Sto → Nat → Option (Int32 × Sto)} {g_X12_or : Lay → Sto → Nat → Option (Int32 × Sto)} (hg_X12_one : CA G l 188 (true, false) dr (adp_X12_one g_X12_one)) (hg_X12_or : CA G l 190 (true, false) dr (adp_X12_or g_X12_or)) : HF G l 12 "one" cX12_one 3 (some .int) d L0 σ0 (true, false) (dcI L0) 50 (A_X12_one_50 (f_X12_one_50 g_X12_one g_X12_or)) := by
  intro lc st L σ o h hI
  unfold A_X12_one_50 at h
  split at h
  · obtain ⟨hq0, hA1⟩ := bif_s h
    obtain ⟨e0, hq1⟩ := beq_and hq0
    obtain ⟨e1, hq2⟩ := beq_and hq1
    subst e0
    subst e1
    exact exs (sp := [60]) (K := (kc 60 (A_X12_one_60 (f_X12_one_60 g_X12_one g_X12_or)) k0)) ok_X12_one rt_X12_one (by omega) (hc_X12_one G l hd hdr hg_X12_one hg_X12_or) (hrI rfl) (hkc (b_X12_one_60 hd hdr hg_X12_one hg_X12_or) hk0) 158 hA1 hI
  · cases h
set_option maxRecDepth 20000 in
theorem b_X12_one_27 {G : GT} {l : Launch} {d : Nat} {L0 : Lay} {σ0 : Sto} (hd : 6 ≤ d) {dr : Nat} (hdr : dr + 1 ≤ d) {g_X12_one : Lay → Sto → Nat → Option (Int32 × Sto)} {g_X12_or : Lay → Sto → Nat → Option (Int32 × Sto)} (hg_X12_one : CA G l 188 (true, false) dr (adp_X12_one g_X12_one)) (hg_X12_or : CA G l 190 (true, false) dr (adp_X12_or g_X12_or)) : HF G l 12 "one" cX12_one 3 (some .int) d L0 σ0 (true, false) (dcI L0) 27 (A_X12_one_27 (f_X12_one_27 g_X12_one g_X12_or)) := by
  intro lc st L σ o h hI
  unfold A_X12_one_27 at h
  split at h
  · obtain ⟨hq0, hA1⟩ := bif_s h
    obtain ⟨e0, hq1⟩ := beq_and hq0
    subst e0
    exact exs (sp := [50]) (K := (kc 50 (A_X12_one_50 (f_X12_one_50 g_X12_one g_X12_or)) k0)) ok_X12_one rt_X12_one (by omega) (hc_X12_one G l hd hdr hg_X12_one hg_X12_or) (hrI rfl) (hkc (b_X12_one_50 hd hdr hg_X12_one hg_X12_or) hk0) 158 hA1 hI
  · cases h
set_option maxRecDepth 20000 in
theorem b_X12_one_272 {G : GT} {l : Launch} {d : Nat} {L0 : Lay} {σ0 : Sto} (hd : 6 ≤ d) {dr : Nat} (hdr : dr + 1 ≤ d) {g_X12_one : Lay → Sto → Nat → Option (Int32 × Sto)} {g_X12_or : Lay → Sto → Nat → Option (Int32 × Sto)} (hg_X12_one : CA G l 188 (true, false) dr (adp_X12_one g_X12_one)) (hg_X12_or : CA G l 190 (true, false) dr (adp_X12_or g_X12_or)) : HF G l 12 "one" cX12_one 3 (some .int) d L0 σ0 (true, false) (dcI L0) 272 (A_X12_one_272 (f_X12_one_272 g_X12_one g_X12_or)) := by
  intro lc st L σ o h hI
  unfold A_X12_one_272 at h
  split at h
  · obtain ⟨hq0, hA1⟩ := bif_s h
    obtain ⟨e0, hq1⟩ := beq_and hq0
    obtain ⟨e1, hq2⟩ := beq_and hq1
    subst e0
    subst e1
    exact exs (sp := []) (K := k0) ok_X12_one rt_X12_one (by omega) (hc_X12_one G l hd hdr hg_X12_one hg_X12_or) (hrI rfl) hk0 158 hA1 hI
  · cases h
set_option maxRecDepth 20000 in
theorem b_X12_one_243 {G : GT} {l : Launch} {d : Nat} {L0 : Lay} {σ0 : Sto} (hd : 6 ≤ d) {dr : Nat} (hdr : dr + 1 ≤ d) {g_X12_one : Lay → Sto → Nat → Option (Int32 × Sto)} {g_X12_or : Lay → Sto → Nat → Option (Int32 × Sto)} (hg_X12_one : CA G l 188 (true, false) dr (adp_X12_one g_X12_one)) (hg_X12_or : CA G l 190 (true, false) dr (adp_X12_or g_X12_or)) : HF G l 12 "one" cX12_one 3 (some .int) d L0 σ0 (true, false) (dcI L0) 243 (A_X12_one_243 (f_X12_one_243 g_X12_one g_X12_or)) := by
  intro lc st L σ o h hI
  unfold A_X12_one_243 at h
  split at h
  · obtain ⟨hq0, hA1⟩ := bif_s h
    obtain ⟨e0, hq1⟩ := beq_and hq0
    subst e0
    exact exs (sp := [272]) (K := (kc 272 (A_X12_one_272 (f_X12_one_272 g_X12_one g_X12_or)) k0)) ok_X12_one rt_X12_one (by omega) (hc_X12_one G l hd hdr hg_X12_one hg_X12_or) (hrI rfl) (hkc (b_X12_one_272 hd hdr hg_X12_one hg_X12_or) hk0) 158 hA1 hI
  · cases h
set_option maxRecDepth 20000 in
theorem b_X12_one_242 {G : GT} {l : Launch} {d : Nat} {L0 : Lay} {σ0 : Sto} (hd : 6 ≤ d) {dr : Nat} (hdr : dr + 1 ≤ d) {g_X12_one : Lay → Sto → Nat → Option (Int32 × Sto)} {g_X12_or : Lay → Sto → Nat → Option (Int32 × Sto)} (hg_X12_one : CA G l 188 (true, false) dr (adp_X12_one g_X12_one)) (hg_X12_or : CA G l 190 (true, false) dr (adp_X12_or g_X12_or)) : HF G l 12 "one" cX12_one 3 (some .int) d L0 σ0 (true, false) (dcI L0) 242 (A_X12_one_242 (f_X12_one_242 g_X12_one g_X12_or)) := by
  intro lc st L σ o h hI
  unfold A_X12_one_242 at h
  split at h
  · obtain ⟨hq0, hA1⟩ := bif_s h
    obtain ⟨e0, hq1⟩ := beq_and hq0
    subst e0
    exact exs (sp := [243]) (K := (kc 243 (A_X12_one_243 (f_X12_one_243 g_X12_one g_X12_or)) k0)) ok_X12_one rt_X12_one (by omega) (hc_X12_one G l hd hdr hg_X12_one hg_X12_or) (hrI rfl) (hkc (b_X12_one_243 hd hdr hg_X12_one hg_X12_or) hk0) 158 hA1 hI
  · cases h
set_option maxRecDepth 20000 in
theorem cb_X12_one (G : GT) (l : Launch) {d : Nat} (hd : 6 ≤ d) {dr : Nat} (hdr : dr + 1 ≤ d) {g_X12_one : Lay → Sto → Nat → Option (Int32 × Sto)} {g_X12_or : Lay → Sto → Nat → Option (Int32 × Sto)} (hg_X12_one : CA G l 188 (true, false) dr (adp_X12_one g_X12_one)) (hg_X12_or : CA G l 190 (true, false) dr (adp_X12_or g_X12_or)) : CA G l 188 (true, false) d (adp_X12_one (fb_X12_one g_X12_one g_X12_or)) := by
  intro O L σ as k o h hW hok
  unfold adp_X12_one at h
  split at h
  · obtain ⟨hq0, hA0⟩ := bif_s h
    obtain ⟨e0, hq1⟩ := beq_and hq0
    subst e0
    obtain ⟨r, hr, hk⟩ := Option.bind_eq_some_iff.mp hA0
    exact ca_of (q := (dcI L) r) (by decide) rfl (Nat.le_of_ble_eq_true rfl) hk (fun _ => rfl) (fun e => by cases e) (exs (sp := [27, 242, 243]) (K := (kc 27 (A_X12_one_27 (f_X12_one_27 g_X12_one g_X12_or)) (kc 242 (A_X12_one_242 (f_X12_one_242 g_X12_one g_X12_or)) (kc 243 (A_X12_one_243 (f_X12_one_243 g_X12_one g_X12_or)) k0)))) (L0 := L) (σ0 := σ) ok_X12_one rt_X12_one (by omega) (hc_X12_one G l hd hdr hg_X12_one hg_X12_or) (hrI rfl) (hkc (b_X12_one_27 hd hdr hg_X12_one hg_X12_or) (hkc (b_X12_one_242 hd hdr hg_X12_one hg_X12_or) (hkc (b_X12_one_243 hd hdr hg_X12_one hg_X12_or) hk0))) 158 hr (inv0 hW hok))
  · cases h
def tt_X12_term (pc : Nat) : TI := bif Nat.blt pc 41 then (bif Nat.blt pc 23 then (bif Nat.blt pc 8 then (bif Nat.blt pc 4 then (bif Nat.blt pc 1 then (bif Nat.beq pc 0 then (.aload_n 0, 1, (0, 0, 0), 0, 0, []) else TN) else (bif Nat.beq pc 1 then (.invokevirtual 300, 4, (188, 0, 12), 0, 0, []) else TN)) else (bif Nat.blt pc 5 then (bif Nat.beq pc 4 then (.istore_n 1, 5, (1, 0, 0), 0, 0, []) else TN) else (bif Nat.blt pc 6 then (bif Nat.beq pc 5 then (.aload_n 0, 6, (0, 0, 0), 0, 0, []) else TN) else (bif Nat.beq pc 6 then (.bipush 42, 8, (0, 0, 0), 42, 0, []) else TN)))) else (bif Nat.blt pc 15 then (bif Nat.blt pc 11 then (bif Nat.beq pc 8 then (.invokevirtual 291, 11, (162, 1, 12), 0, 0, []) else TN) else (bif Nat.blt pc 14 then (bif Nat.beq pc 11 then (.ifCond .ne 12, 14, (23, 0, 0), 0, 0, []) else TN) else (bif Nat.beq pc 14 then (.aload_n 0, 15, (0, 0, 0), 0, 0, []) else TN))) else (bif Nat.blt pc 17 then (bif Nat.beq pc 15 then (.bipush 47, 17, (0, 0, 0), 47, 0, []) else TN) else (bif Nat.blt pc 20 then (bif Nat.beq pc 17 then (.invokevirtual 291, 20, (162, 1, 12), 0, 0, []) else TN) else (bif Nat.beq pc 20 then (.ifCond .eq 55, 23, (75, 0, 0), 0, 0, []) else TN))))) else (bif Nat.blt pc 31 then (bif Nat.blt pc 26 then (bif Nat.blt pc 24 then (bif Nat.beq pc 23 then (.aload_n 0, 24, (0, 0, 0), 0, 0, []) else TN) else (bif Nat.beq pc 24 then (.bipush 42, 26, (0, 0, 0), 42, 0, []) else TN)) else (bif Nat.blt pc 29 then (bif Nat.beq pc 26 then (.invokevirtual 291, 29, (162, 1, 12), 0, 0, []) else TN) else (bif Nat.blt pc 30 then (bif Nat.beq pc 29 then (.istore_n 2, 30, (2, 0, 0), 0, 0, []) else TN) else (bif Nat.beq pc 30 then (.aload_n 0, 31, (0, 0, 0), 0, 0, []) else TN)))) else (bif Nat.blt pc 36 then (bif Nat.blt pc 32 then (bif Nat.beq pc 31 then (.iconst 1, 32, (0, 0, 0), 1, 0, []) else TN) else (bif Nat.blt pc 35 then (bif Nat.beq pc 32 then (.invokevirtual 287, 35, (209, 1, 12), 0, 0, []) else TN) else (bif Nat.beq pc 35 then (.aload_n 0, 36, (0, 0, 0), 0, 0, []) else TN))) else (bif Nat.blt pc 39 then (bif Nat.beq pc 36 then (.invokevirtual 300, 39, (188, 0, 12), 0, 0, []) else TN) else (bif Nat.blt pc 40 then (bif Nat.beq pc 39 then (.istore_n 3, 40, (3, 0, 0), 0, 0, []) else TN) else (bif Nat.beq pc 40 then (.iload_n 2, 41, (2, 0, 0), 0, 0, []) else TN)))))) else (bif Nat.blt pc 60 then (bif Nat.blt pc 50 then (bif Nat.blt pc 45 then (bif Nat.blt pc 44 then (bif Nat.beq pc 41 then (.ifCond .eq 9, 44, (50, 0, 0), 0, 0, []) else TN) else (bif Nat.beq pc 44 then (.iload_n 1, 45, (1, 0, 0), 0, 0, []) else TN)) else (bif Nat.blt pc 46 then (bif Nat.beq pc 45 then (.iload_n 3, 46, (3, 0, 0), 0, 0, []) else TN) else (bif Nat.blt pc 47 then (bif Nat.beq pc 46 then (.imul, 47, (0, 0, 0), 0, 0, []) else TN) else (bif Nat.beq pc 47 then (.goto 24, 50, (71, 0, 0), 0, 0, []) else TN)))) else (bif Nat.blt pc 55 then (bif Nat.blt pc 51 then (bif Nat.beq pc 50 then (.iload_n 3, 51, (3, 0, 0), 0, 0, []) else TN) else (bif Nat.blt pc 54 then (bif Nat.beq pc 51 then (.ifCond .ne 7, 54, (58, 0, 0), 0, 0, []) else TN) else (bif Nat.beq pc 54 then (.iconst 0, 55, (0, 0, 0), 0, 0, []) else TN))) else (bif Nat.blt pc 58 then (bif Nat.beq pc 55 then (.goto 16, 58, (71, 0, 0), 0, 0, []) else TN) else (bif Nat.blt pc 59 then (bif Nat.beq pc 58 then (.iload_n 3, 59, (3, 0, 0), 0, 0, []) else TN) else (bif Nat.beq pc 59 then (.iconst (-1), 60, (0, 0, 0), -1, 0, []) else TN))))) else (bif Nat.blt pc 69 then (bif Nat.blt pc 64 then (bif Nat.blt pc 63 then (bif Nat.beq pc 60 then (.if_icmp .ne 8, 63, (68, 0, 0), 0, 0, []) else TN) else (bif Nat.beq pc 63 then (.iload_n 1, 64, (1, 0, 0), 0, 0, []) else TN)) else (bif Nat.blt pc 65 then (bif Nat.beq pc 64 then (.ineg, 65, (0, 0, 0), 0, 0, []) else TN) else (bif Nat.blt pc 68 then (bif Nat.beq pc 65 then (.goto 6, 68, (71, 0, 0), 0, 0, []) else TN) else (bif Nat.beq pc 68 then (.iload_n 1, 69, (1, 0, 0), 0, 0, []) else TN)))) else (bif Nat.blt pc 72 then (bif Nat.blt pc 70 then (bif Nat.beq pc 69 then (.iload_n 3, 70, (3, 0, 0), 0, 0, []) else TN) else (bif Nat.blt pc 71 then (bif Nat.beq pc 70 then (.idiv, 71, (0, 0, 0), 0, 0, []) else TN) else (bif Nat.beq pc 71 then (.istore_n 1, 72, (1, 0, 0), 0, 0, []) else TN))) else (bif Nat.blt pc 75 then (bif Nat.beq pc 72 then (.goto (-67), 75, (5, 0, 0), 0, 0, []) else TN) else (bif Nat.blt pc 76 then (bif Nat.beq pc 75 then (.iload_n 1, 76, (1, 0, 0), 0, 0, []) else TN) else (bif Nat.beq pc 76 then (.ireturn, 77, (0, 0, 0), 0, 0, []) else TN))))))
def tb_X12_term (pc : Nat) : TI := bif Nat.ble 77 pc then TN else tt_X12_term pc
theorem ok_X12_term : tOK 12 (decide ("term" = "<init>")) cX12_term tb_X12_term := tOK_of 77 tn_of (by decide +kernel)
def f_X12_term_71 (g_X12_one : Lay → Sto → Nat → Option (Int32 × Sto)) (c5 : Lay → Sto → Nat → Int32 → Option (Int32 × Sto)) (L : Lay) (σ : Sto) (a0 : Nat) (s0 : Int32) : Option (Int32 × Sto) := c5 L σ a0 s0
def A_X12_term_71 (c : Lay → Sto → Nat → Int32 → Option (Int32 × Sto)) (lc : List (Option AV)) (st : List AV) (L : Lay) (σ : Sto) : Option (Int32 × Sto) := match lc, st with
  | [some (.inr (.inr (.inl (ta0, some a0)))), _, _, _], [.inl s0] => bif Nat.beq ta0 12 && true then c L σ a0 s0 else none
  | _, _ => none
def f_X12_term_23 (g_X12_one : Lay → Sto → Nat → Option (Int32 × Sto)) (c5 : Lay → Sto → Nat → Int32 → Option (Int32 × Sto)) (L : Lay) (σ : Sto) (a0 : Nat) (a1 : Int32) : Option (Int32 × Sto) := (f_X12_isSign L σ a0 42).bind fun r1 => (f_X12_takes L σ a0 1).bind fun σ2 => (g_X12_one L σ2 a0).bind fun r3 => (if r1 = 0 then (if r3.1 = 0 then (f_X12_term_71 g_X12_one c5) L r3.2 a0 0 else (if r3.1 = (-1) then (f_X12_term_71 g_X12_one c5) L r3.2 a0 (-a1) else (dv a1 r3.1).bind fun q4 => (f_X12_term_71 g_X12_one c5) L r3.2 a0 q4)) else (f_X12_term_71 g_X12_one c5) L r3.2 a0 (a1 * r3.1))
def A_X12_term_23 (c : Lay → Sto → Nat → Int32 → Option (Int32 × Sto)) (lc : List (Option AV)) (st : List AV) (L : Lay) (σ : Sto) : Option (Int32 × Sto) := match lc, st with
  | [some (.inr (.inr (.inl (ta0, some a0)))), some (.inl a1), _, _], [] => bif Nat.beq ta0 12 && true then c L σ a0 a1 else none
  | _, _ => none
def f_X12_term_5 (g_X12_one : Lay → Sto → Nat → Option (Int32 × Sto)) : Nat → Lay → Sto → Nat → Int32 → Option (Int32 × Sto)
  | 0 => fun _ _ _ _ => none
  | k + 1 => fun L σ a0 a1 => (f_X12_isSign L σ a0 42).bind fun r5 => (if r5 = 0 then (f_X12_isSign L σ a0 47).bind fun r6 => (if r6 = 0 then some (a1, σ) else (f_X12_term_23 g_X12_one (f_X12_term_5 g_X12_one k)) L σ a0 a1) else (f_X12_term_23 g_X12_one (f_X12_term_5 g_X12_one k)) L σ a0 a1)
def A_X12_term_5 (c : Lay → Sto → Nat → Int32 → Option (Int32 × Sto)) (lc : List (Option AV)) (st : List AV) (L : Lay) (σ : Sto) : Option (Int32 × Sto) := match lc, st with
  | [some (.inr (.inr (.inl (ta0, some a0)))), some (.inl a1), _, _], [] => bif Nat.beq ta0 12 && true then c L σ a0 a1 else none
  | _, _ => none
def fb_X12_term (g_X12_one : Lay → Sto → Nat → Option (Int32 × Sto)) (L : Lay) (σ : Sto) (a0 : Nat) : Option (Int32 × Sto) := (g_X12_one L σ a0).bind fun r7 => (f_X12_term_5 g_X12_one FU) L r7.2 a0 r7.1
abbrev cl_X12_term (g_X12_one : Lay → Sto → Nat → Option (Int32 × Sto)) {O : Type} : CLT O := (clc 162 ad_X12_isSign (clc 209 ad_X12_takes (clc 188 (adp_X12_one g_X12_one) cl0)))
theorem hc_X12_term (G : GT) (l : Launch) {d : Nat} (hd : 5 ≤ d) {dr : Nat} (hdr : dr + 1 ≤ d) {g_X12_one : Lay → Sto → Nat → Option (Int32 × Sto)} (hg_X12_one : CA G l 188 (true, false) dr (adp_X12_one g_X12_one)) {O : Type} : HCL G l (true, false) d (cl_X12_term g_X12_one (O := O)) := (hclc (ca_X12_isSign G l (d := 2) (Nat.le_refl _)) (fun _ => rfl) (fun e => by cases e) (by omega) (hclc (ca_X12_takes G l (d := 4) (Nat.le_refl _)) (fun _ => rfl) (fun e => by cases e) (by omega) (hclc hg_X12_one (fun _ => rfl) (fun e => by cases e) hdr hcl0)))
theorem rt_X12_term : retOK (0, 0) (some .int) := ⟨fun _ => rfl, fun h => absurd h (by decide), fun h => absurd h (by decide)⟩
set_option maxRecDepth 20000 in
theorem b_X12_term_71 {G : GT} {l : Launch} {d : Nat} {L0 : Lay} {σ0 : Sto} (hd : 5 ≤ d) {dr : Nat} (hdr : dr + 1 ≤ d) {g_X12_one : Lay → Sto → Nat → Option (Int32 × Sto)} (hg_X12_one : CA G l 188 (true, false) dr (adp_X12_one g_X12_one)) {c5 : Lay → Sto → Nat → Int32 → Option (Int32 × Sto)} (h5 : HF G l 12 "term" cX12_term 4 (some .int) d L0 σ0 (true, false) (dcI L0) 5 (A_X12_term_5 c5)) : HF G l 12 "term" cX12_term 4 (some .int) d L0 σ0 (true, false) (dcI L0) 71 (A_X12_term_71 (f_X12_term_71 g_X12_one c5)) := by
  intro lc st L σ o h hI
  unfold A_X12_term_71 at h
  split at h
  · obtain ⟨hq0, hA1⟩ := bif_s h
    obtain ⟨e0, hq1⟩ := beq_and hq0
    subst e0
    exact exs (sp := [5]) (K := (kc 5 (A_X12_term_5 c5) k0)) ok_X12_term rt_X12_term (by omega) (hc_X12_term G l hd hdr hg_X12_one) (hrI rfl) (hkc h5 hk0) 47 hA1 hI
  · cases h
set_option maxRecDepth 20000 in
theorem b_X12_term_23 {G : GT} {l : Launch} {d : Nat} {L0 : Lay} {σ0 : Sto} (hd : 5 ≤ d) {dr : Nat} (hdr : dr + 1 ≤ d) {g_X12_one : Lay → Sto → Nat → Option (Int32 × Sto)} (hg_X12_one : CA G l 188 (true, false) dr (adp_X12_one g_X12_one)) {c5 : Lay → Sto → Nat → Int32 → Option (Int32 × Sto)} (h5 : HF G l 12 "term" cX12_term 4 (some .int) d L0 σ0 (true, false) (dcI L0) 5 (A_X12_term_5 c5)) : HF G l 12 "term" cX12_term 4 (some .int) d L0 σ0 (true, false) (dcI L0) 23 (A_X12_term_23 (f_X12_term_23 g_X12_one c5)) := by
  intro lc st L σ o h hI
  unfold A_X12_term_23 at h
  split at h
  · obtain ⟨hq0, hA1⟩ := bif_s h
    obtain ⟨e0, hq1⟩ := beq_and hq0
    subst e0
    exact exs (sp := [71]) (K := (kc 71 (A_X12_term_71 (f_X12_term_71 g_X12_one c5)) k0)) ok_X12_term rt_X12_term (by omega) (hc_X12_term G l hd hdr hg_X12_one) (hrI rfl) (hkc (b_X12_term_71 hd hdr hg_X12_one h5) hk0) 47 hA1 hI
  · cases h
set_option maxRecDepth 20000 in
theorem b_X12_term_5 {G : GT} {l : Launch} {d : Nat} {L0 : Lay} {σ0 : Sto} (hd : 5 ≤ d) {dr : Nat} (hdr : dr + 1 ≤ d) {g_X12_one : Lay → Sto → Nat → Option (Int32 × Sto)} (hg_X12_one : CA G l 188 (true, false) dr (adp_X12_one g_X12_one)) : ∀ k : Nat, HF G l 12 "term" cX12_term 4 (some .int) d L0 σ0 (true, false) (dcI L0) 5 (A_X12_term_5 (f_X12_term_5 g_X12_one k))
  | 0 => by
    intro lc st L σ o h hI
    unfold A_X12_term_5 at h
    split at h
    · obtain ⟨_, hA1⟩ := bif_s h
      cases hA1
    · cases h
  | k + 1 => by
    have ih := b_X12_term_5 (G := G) (l := l) (d := d) (L0 := L0) (σ0 := σ0) hd hdr hg_X12_one k
    intro lc st L σ o h hI
    unfold A_X12_term_5 at h
    split at h
    · obtain ⟨hq0, hA1⟩ := bif_s h
      obtain ⟨e0, hq1⟩ := beq_and hq0
      subst e0
      exact exs (sp := [23]) (K := (kc 23 (A_X12_term_23 (f_X12_term_23 g_X12_one (f_X12_term_5 g_X12_one k))) k0)) ok_X12_term rt_X12_term (by omega) (hc_X12_term G l hd hdr hg_X12_one) (hrI rfl) (hkc (b_X12_term_23 hd hdr hg_X12_one ih) hk0) 47 hA1 hI
    · cases h
set_option maxRecDepth 20000 in
theorem cb_X12_term (G : GT) (l : Launch) {d : Nat} (hd : 5 ≤ d) {dr : Nat} (hdr : dr + 1 ≤ d) {g_X12_one : Lay → Sto → Nat → Option (Int32 × Sto)} (hg_X12_one : CA G l 188 (true, false) dr (adp_X12_one g_X12_one)) : CA G l 211 (true, false) d (adp_X12_term (fb_X12_term g_X12_one)) := by
  intro O L σ as k o h hW hok
  unfold adp_X12_term at h
  split at h
  · obtain ⟨hq0, hA0⟩ := bif_s h
    obtain ⟨e0, hq1⟩ := beq_and hq0
    subst e0
    obtain ⟨r, hr, hk⟩ := Option.bind_eq_some_iff.mp hA0
    exact ca_of (q := (dcI L) r) (by decide) rfl (Nat.le_of_ble_eq_true rfl) hk (fun _ => rfl) (fun e => by cases e) (exs (sp := [5]) (K := (kc 5 (A_X12_term_5 (f_X12_term_5 g_X12_one FU)) k0)) (L0 := L) (σ0 := σ) ok_X12_term rt_X12_term (by omega) (hc_X12_term G l hd hdr hg_X12_one) (hrI rfl) (hkc (b_X12_term_5 hd hdr hg_X12_one FU) hk0) 47 hr (inv0 hW hok))
  · cases h
def tt_X12_sum (pc : Nat) : TI := bif Nat.blt pc 32 then (bif Nat.blt pc 15 then (bif Nat.blt pc 6 then (bif Nat.blt pc 4 then (bif Nat.blt pc 1 then (bif Nat.beq pc 0 then (.aload_n 0, 1, (0, 0, 0), 0, 0, []) else TN) else (bif Nat.beq pc 1 then (.invokevirtual 312, 4, (211, 0, 12), 0, 0, []) else TN)) else (bif Nat.blt pc 5 then (bif Nat.beq pc 4 then (.istore_n 1, 5, (1, 0, 0), 0, 0, []) else TN) else (bif Nat.beq pc 5 then (.aload_n 0, 6, (0, 0, 0), 0, 0, []) else TN))) else (bif Nat.blt pc 11 then (bif Nat.blt pc 8 then (bif Nat.beq pc 6 then (.bipush 43, 8, (0, 0, 0), 43, 0, []) else TN) else (bif Nat.beq pc 8 then (.invokevirtual 291, 11, (162, 1, 12), 0, 0, []) else TN)) else (bif Nat.blt pc 14 then (bif Nat.beq pc 11 then (.ifCond .ne 12, 14, (23, 0, 0), 0, 0, []) else TN) else (bif Nat.beq pc 14 then (.aload_n 0, 15, (0, 0, 0), 0, 0, []) else TN)))) else (bif Nat.blt pc 24 then (bif Nat.blt pc 20 then (bif Nat.blt pc 17 then (bif Nat.beq pc 15 then (.bipush 45, 17, (0, 0, 0), 45, 0, []) else TN) else (bif Nat.beq pc 17 then (.invokevirtual 291, 20, (162, 1, 12), 0, 0, []) else TN)) else (bif Nat.blt pc 23 then (bif Nat.beq pc 20 then (.ifCond .eq 37, 23, (57, 0, 0), 0, 0, []) else TN) else (bif Nat.beq pc 23 then (.aload_n 0, 24, (0, 0, 0), 0, 0, []) else TN))) else (bif Nat.blt pc 29 then (bif Nat.blt pc 26 then (bif Nat.beq pc 24 then (.bipush 43, 26, (0, 0, 0), 43, 0, []) else TN) else (bif Nat.beq pc 26 then (.invokevirtual 291, 29, (162, 1, 12), 0, 0, []) else TN)) else (bif Nat.blt pc 30 then (bif Nat.beq pc 29 then (.istore_n 2, 30, (2, 0, 0), 0, 0, []) else TN) else (bif Nat.blt pc 31 then (bif Nat.beq pc 30 then (.aload_n 0, 31, (0, 0, 0), 0, 0, []) else TN) else (bif Nat.beq pc 31 then (.iconst 1, 32, (0, 0, 0), 1, 0, []) else TN)))))) else (bif Nat.blt pc 46 then (bif Nat.blt pc 40 then (bif Nat.blt pc 36 then (bif Nat.blt pc 35 then (bif Nat.beq pc 32 then (.invokevirtual 287, 35, (209, 1, 12), 0, 0, []) else TN) else (bif Nat.beq pc 35 then (.aload_n 0, 36, (0, 0, 0), 0, 0, []) else TN)) else (bif Nat.blt pc 39 then (bif Nat.beq pc 36 then (.invokevirtual 312, 39, (211, 0, 12), 0, 0, []) else TN) else (bif Nat.beq pc 39 then (.istore_n 3, 40, (3, 0, 0), 0, 0, []) else TN))) else (bif Nat.blt pc 44 then (bif Nat.blt pc 41 then (bif Nat.beq pc 40 then (.iload_n 2, 41, (2, 0, 0), 0, 0, []) else TN) else (bif Nat.beq pc 41 then (.ifCond .eq 9, 44, (50, 0, 0), 0, 0, []) else TN)) else (bif Nat.blt pc 45 then (bif Nat.beq pc 44 then (.iload_n 1, 45, (1, 0, 0), 0, 0, []) else TN) else (bif Nat.beq pc 45 then (.iload_n 3, 46, (3, 0, 0), 0, 0, []) else TN)))) else (bif Nat.blt pc 52 then (bif Nat.blt pc 50 then (bif Nat.blt pc 47 then (bif Nat.beq pc 46 then (.iadd, 47, (0, 0, 0), 0, 0, []) else TN) else (bif Nat.beq pc 47 then (.goto 6, 50, (53, 0, 0), 0, 0, []) else TN)) else (bif Nat.blt pc 51 then (bif Nat.beq pc 50 then (.iload_n 1, 51, (1, 0, 0), 0, 0, []) else TN) else (bif Nat.beq pc 51 then (.iload_n 3, 52, (3, 0, 0), 0, 0, []) else TN))) else (bif Nat.blt pc 54 then (bif Nat.blt pc 53 then (bif Nat.beq pc 52 then (.isub, 53, (0, 0, 0), 0, 0, []) else TN) else (bif Nat.beq pc 53 then (.istore_n 1, 54, (1, 0, 0), 0, 0, []) else TN)) else (bif Nat.blt pc 57 then (bif Nat.beq pc 54 then (.goto (-49), 57, (5, 0, 0), 0, 0, []) else TN) else (bif Nat.blt pc 58 then (bif Nat.beq pc 57 then (.iload_n 1, 58, (1, 0, 0), 0, 0, []) else TN) else (bif Nat.beq pc 58 then (.ireturn, 59, (0, 0, 0), 0, 0, []) else TN))))))
def tb_X12_sum (pc : Nat) : TI := bif Nat.ble 59 pc then TN else tt_X12_sum pc
theorem ok_X12_sum : tOK 12 (decide ("sum" = "<init>")) cX12_sum tb_X12_sum := tOK_of 59 tn_of (by decide +kernel)
def f_X12_sum_53 (g_X12_term : Lay → Sto → Nat → Option (Int32 × Sto)) (c5 : Lay → Sto → Nat → Int32 → Option (Int32 × Sto)) (L : Lay) (σ : Sto) (a0 : Nat) (s0 : Int32) : Option (Int32 × Sto) := c5 L σ a0 s0
def A_X12_sum_53 (c : Lay → Sto → Nat → Int32 → Option (Int32 × Sto)) (lc : List (Option AV)) (st : List AV) (L : Lay) (σ : Sto) : Option (Int32 × Sto) := match lc, st with
  | [some (.inr (.inr (.inl (ta0, some a0)))), _, _, _], [.inl s0] => bif Nat.beq ta0 12 && true then c L σ a0 s0 else none
  | _, _ => none
def f_X12_sum_23 (g_X12_term : Lay → Sto → Nat → Option (Int32 × Sto)) (c5 : Lay → Sto → Nat → Int32 → Option (Int32 × Sto)) (L : Lay) (σ : Sto) (a0 : Nat) (a1 : Int32) : Option (Int32 × Sto) := (f_X12_isSign L σ a0 43).bind fun r1 => (f_X12_takes L σ a0 1).bind fun σ2 => (g_X12_term L σ2 a0).bind fun r3 => (if r1 = 0 then (f_X12_sum_53 g_X12_term c5) L r3.2 a0 (a1 - r3.1) else (f_X12_sum_53 g_X12_term c5) L r3.2 a0 (a1 + r3.1))
def A_X12_sum_23 (c : Lay → Sto → Nat → Int32 → Option (Int32 × Sto)) (lc : List (Option AV)) (st : List AV) (L : Lay) (σ : Sto) : Option (Int32 × Sto) := match lc, st with
  | [some (.inr (.inr (.inl (ta0, some a0)))), some (.inl a1), _, _], [] => bif Nat.beq ta0 12 && true then c L σ a0 a1 else none
  | _, _ => none
def f_X12_sum_5 (g_X12_term : Lay → Sto → Nat → Option (Int32 × Sto)) : Nat → Lay → Sto → Nat → Int32 → Option (Int32 × Sto)
  | 0 => fun _ _ _ _ => none
  | k + 1 => fun L σ a0 a1 => (f_X12_isSign L σ a0 43).bind fun r4 => (if r4 = 0 then (f_X12_isSign L σ a0 45).bind fun r5 => (if r5 = 0 then some (a1, σ) else (f_X12_sum_23 g_X12_term (f_X12_sum_5 g_X12_term k)) L σ a0 a1) else (f_X12_sum_23 g_X12_term (f_X12_sum_5 g_X12_term k)) L σ a0 a1)
def A_X12_sum_5 (c : Lay → Sto → Nat → Int32 → Option (Int32 × Sto)) (lc : List (Option AV)) (st : List AV) (L : Lay) (σ : Sto) : Option (Int32 × Sto) := match lc, st with
  | [some (.inr (.inr (.inl (ta0, some a0)))), some (.inl a1), _, _], [] => bif Nat.beq ta0 12 && true then c L σ a0 a1 else none
  | _, _ => none
def fb_X12_sum (g_X12_term : Lay → Sto → Nat → Option (Int32 × Sto)) (L : Lay) (σ : Sto) (a0 : Nat) : Option (Int32 × Sto) := (g_X12_term L σ a0).bind fun r6 => (f_X12_sum_5 g_X12_term FU) L r6.2 a0 r6.1
abbrev cl_X12_sum (g_X12_term : Lay → Sto → Nat → Option (Int32 × Sto)) {O : Type} : CLT O := (clc 162 ad_X12_isSign (clc 209 ad_X12_takes (clc 211 (adp_X12_term g_X12_term) cl0)))
theorem hc_X12_sum (G : GT) (l : Launch) {d : Nat} (hd : 5 ≤ d) {dr : Nat} (hdr : dr + 1 ≤ d) {g_X12_term : Lay → Sto → Nat → Option (Int32 × Sto)} (hg_X12_term : CA G l 211 (true, false) dr (adp_X12_term g_X12_term)) {O : Type} : HCL G l (true, false) d (cl_X12_sum g_X12_term (O := O)) := (hclc (ca_X12_isSign G l (d := 2) (Nat.le_refl _)) (fun _ => rfl) (fun e => by cases e) (by omega) (hclc (ca_X12_takes G l (d := 4) (Nat.le_refl _)) (fun _ => rfl) (fun e => by cases e) (by omega) (hclc hg_X12_term (fun _ => rfl) (fun e => by cases e) hdr hcl0)))
theorem rt_X12_sum : retOK (0, 0) (some .int) := ⟨fun _ => rfl, fun h => absurd h (by decide), fun h => absurd h (by decide)⟩
set_option maxRecDepth 20000 in
theorem b_X12_sum_53 {G : GT} {l : Launch} {d : Nat} {L0 : Lay} {σ0 : Sto} (hd : 5 ≤ d) {dr : Nat} (hdr : dr + 1 ≤ d) {g_X12_term : Lay → Sto → Nat → Option (Int32 × Sto)} (hg_X12_term : CA G l 211 (true, false) dr (adp_X12_term g_X12_term)) {c5 : Lay → Sto → Nat → Int32 → Option (Int32 × Sto)} (h5 : HF G l 12 "sum" cX12_sum 4 (some .int) d L0 σ0 (true, false) (dcI L0) 5 (A_X12_sum_5 c5)) : HF G l 12 "sum" cX12_sum 4 (some .int) d L0 σ0 (true, false) (dcI L0) 53 (A_X12_sum_53 (f_X12_sum_53 g_X12_term c5)) := by
  intro lc st L σ o h hI
  unfold A_X12_sum_53 at h
  split at h
  · obtain ⟨hq0, hA1⟩ := bif_s h
    obtain ⟨e0, hq1⟩ := beq_and hq0
    subst e0
    exact exs (sp := [5]) (K := (kc 5 (A_X12_sum_5 c5) k0)) ok_X12_sum rt_X12_sum (by omega) (hc_X12_sum G l hd hdr hg_X12_term) (hrI rfl) (hkc h5 hk0) 37 hA1 hI
  · cases h
set_option maxRecDepth 20000 in
theorem b_X12_sum_23 {G : GT} {l : Launch} {d : Nat} {L0 : Lay} {σ0 : Sto} (hd : 5 ≤ d) {dr : Nat} (hdr : dr + 1 ≤ d) {g_X12_term : Lay → Sto → Nat → Option (Int32 × Sto)} (hg_X12_term : CA G l 211 (true, false) dr (adp_X12_term g_X12_term)) {c5 : Lay → Sto → Nat → Int32 → Option (Int32 × Sto)} (h5 : HF G l 12 "sum" cX12_sum 4 (some .int) d L0 σ0 (true, false) (dcI L0) 5 (A_X12_sum_5 c5)) : HF G l 12 "sum" cX12_sum 4 (some .int) d L0 σ0 (true, false) (dcI L0) 23 (A_X12_sum_23 (f_X12_sum_23 g_X12_term c5)) := by
  intro lc st L σ o h hI
  unfold A_X12_sum_23 at h
  split at h
  · obtain ⟨hq0, hA1⟩ := bif_s h
    obtain ⟨e0, hq1⟩ := beq_and hq0
    subst e0
    exact exs (sp := [53]) (K := (kc 53 (A_X12_sum_53 (f_X12_sum_53 g_X12_term c5)) k0)) ok_X12_sum rt_X12_sum (by omega) (hc_X12_sum G l hd hdr hg_X12_term) (hrI rfl) (hkc (b_X12_sum_53 hd hdr hg_X12_term h5) hk0) 37 hA1 hI
  · cases h
set_option maxRecDepth 20000 in
theorem b_X12_sum_5 {G : GT} {l : Launch} {d : Nat} {L0 : Lay} {σ0 : Sto} (hd : 5 ≤ d) {dr : Nat} (hdr : dr + 1 ≤ d) {g_X12_term : Lay → Sto → Nat → Option (Int32 × Sto)} (hg_X12_term : CA G l 211 (true, false) dr (adp_X12_term g_X12_term)) : ∀ k : Nat, HF G l 12 "sum" cX12_sum 4 (some .int) d L0 σ0 (true, false) (dcI L0) 5 (A_X12_sum_5 (f_X12_sum_5 g_X12_term k))
  | 0 => by
    intro lc st L σ o h hI
    unfold A_X12_sum_5 at h
    split at h
    · obtain ⟨_, hA1⟩ := bif_s h
      cases hA1
    · cases h
  | k + 1 => by
    have ih := b_X12_sum_5 (G := G) (l := l) (d := d) (L0 := L0) (σ0 := σ0) hd hdr hg_X12_term k
    intro lc st L σ o h hI
    unfold A_X12_sum_5 at h
    split at h
    · obtain ⟨hq0, hA1⟩ := bif_s h
      obtain ⟨e0, hq1⟩ := beq_and hq0
      subst e0
      exact exs (sp := [23]) (K := (kc 23 (A_X12_sum_23 (f_X12_sum_23 g_X12_term (f_X12_sum_5 g_X12_term k))) k0)) ok_X12_sum rt_X12_sum (by omega) (hc_X12_sum G l hd hdr hg_X12_term) (hrI rfl) (hkc (b_X12_sum_23 hd hdr hg_X12_term ih) hk0) 37 hA1 hI
    · cases h
set_option maxRecDepth 20000 in
theorem cb_X12_sum (G : GT) (l : Launch) {d : Nat} (hd : 5 ≤ d) {dr : Nat} (hdr : dr + 1 ≤ d) {g_X12_term : Lay → Sto → Nat → Option (Int32 × Sto)} (hg_X12_term : CA G l 211 (true, false) dr (adp_X12_term g_X12_term)) : CA G l 208 (true, false) d (adp_X12_sum (fb_X12_sum g_X12_term)) := by
  intro O L σ as k o h hW hok
  unfold adp_X12_sum at h
  split at h
  · obtain ⟨hq0, hA0⟩ := bif_s h
    obtain ⟨e0, hq1⟩ := beq_and hq0
    subst e0
    obtain ⟨r, hr, hk⟩ := Option.bind_eq_some_iff.mp hA0
    exact ca_of (q := (dcI L) r) (by decide) rfl (Nat.le_of_ble_eq_true rfl) hk (fun _ => rfl) (fun e => by cases e) (exs (sp := [5]) (K := (kc 5 (A_X12_sum_5 (f_X12_sum_5 g_X12_term FU)) k0)) (L0 := L) (σ0 := σ) ok_X12_sum rt_X12_sum (by omega) (hc_X12_sum G l hd hdr hg_X12_term) (hrI rfl) (hkc (b_X12_sum_5 hd hdr hg_X12_term FU) hk0) 37 hr (inv0 hW hok))
  · cases h
def tt_X12_test (pc : Nat) : TI := bif Nat.blt pc 48 then (bif Nat.blt pc 24 then (bif Nat.blt pc 11 then (bif Nat.blt pc 5 then (bif Nat.blt pc 1 then (bif Nat.beq pc 0 then (.aload_n 0, 1, (0, 0, 0), 0, 0, []) else TN) else (bif Nat.blt pc 4 then (bif Nat.beq pc 1 then (.invokevirtual 315, 4, (208, 0, 12), 0, 0, []) else TN) else (bif Nat.beq pc 4 then (.istore_n 1, 5, (1, 0, 0), 0, 0, []) else TN))) else (bif Nat.blt pc 6 then (bif Nat.beq pc 5 then (.aload_n 0, 6, (0, 0, 0), 0, 0, []) else TN) else (bif Nat.blt pc 8 then (bif Nat.beq pc 6 then (.bipush 60, 8, (0, 0, 0), 60, 0, []) else TN) else (bif Nat.beq pc 8 then (.invokevirtual 291, 11, (162, 1, 12), 0, 0, []) else TN)))) else (bif Nat.blt pc 17 then (bif Nat.blt pc 14 then (bif Nat.beq pc 11 then (.ifCond .ne 23, 14, (34, 0, 0), 0, 0, []) else TN) else (bif Nat.blt pc 15 then (bif Nat.beq pc 14 then (.aload_n 0, 15, (0, 0, 0), 0, 0, []) else TN) else (bif Nat.beq pc 15 then (.bipush 61, 17, (0, 0, 0), 61, 0, []) else TN))) else (bif Nat.blt pc 20 then (bif Nat.beq pc 17 then (.invokevirtual 291, 20, (162, 1, 12), 0, 0, []) else TN) else (bif Nat.blt pc 23 then (bif Nat.beq pc 20 then (.ifCond .ne 14, 23, (34, 0, 0), 0, 0, []) else TN) else (bif Nat.beq pc 23 then (.aload_n 0, 24, (0, 0, 0), 0, 0, []) else TN))))) else (bif Nat.blt pc 35 then (bif Nat.blt pc 32 then (bif Nat.blt pc 26 then (bif Nat.beq pc 24 then (.bipush 62, 26, (0, 0, 0), 62, 0, []) else TN) else (bif Nat.blt pc 29 then (bif Nat.beq pc 26 then (.invokevirtual 291, 29, (162, 1, 12), 0, 0, []) else TN) else (bif Nat.beq pc 29 then (.ifCond .ne 5, 32, (34, 0, 0), 0, 0, []) else TN))) else (bif Nat.blt pc 33 then (bif Nat.beq pc 32 then (.iload_n 1, 33, (1, 0, 0), 0, 0, []) else TN) else (bif Nat.blt pc 34 then (bif Nat.beq pc 33 then (.ireturn, 34, (0, 0, 0), 0, 0, []) else TN) else (bif Nat.beq pc 34 then (.aload_n 0, 35, (0, 0, 0), 0, 0, []) else TN)))) else (bif Nat.blt pc 41 then (bif Nat.blt pc 37 then (bif Nat.beq pc 35 then (.bipush 60, 37, (0, 0, 0), 60, 0, []) else TN) else (bif Nat.blt pc 40 then (bif Nat.beq pc 37 then (.invokevirtual 291, 40, (162, 1, 12), 0, 0, []) else TN) else (bif Nat.beq pc 40 then (.istore_n 2, 41, (2, 0, 0), 0, 0, []) else TN))) else (bif Nat.blt pc 44 then (bif Nat.blt pc 42 then (bif Nat.beq pc 41 then (.aload_n 0, 42, (0, 0, 0), 0, 0, []) else TN) else (bif Nat.beq pc 42 then (.bipush 61, 44, (0, 0, 0), 61, 0, []) else TN)) else (bif Nat.blt pc 47 then (bif Nat.beq pc 44 then (.invokevirtual 291, 47, (162, 1, 12), 0, 0, []) else TN) else (bif Nat.beq pc 47 then (.istore_n 3, 48, (3, 0, 0), 0, 0, []) else TN)))))) else (bif Nat.blt pc 72 then (bif Nat.blt pc 59 then (bif Nat.blt pc 53 then (bif Nat.blt pc 49 then (bif Nat.beq pc 48 then (.aload_n 0, 49, (0, 0, 0), 0, 0, []) else TN) else (bif Nat.blt pc 50 then (bif Nat.beq pc 49 then (.iconst 1, 50, (0, 0, 0), 1, 0, []) else TN) else (bif Nat.beq pc 50 then (.invokevirtual 287, 53, (209, 1, 12), 0, 0, []) else TN))) else (bif Nat.blt pc 54 then (bif Nat.beq pc 53 then (.aload_n 0, 54, (0, 0, 0), 0, 0, []) else TN) else (bif Nat.blt pc 57 then (bif Nat.beq pc 54 then (.invokevirtual 315, 57, (208, 0, 12), 0, 0, []) else TN) else (bif Nat.beq pc 57 then (.istore 4, 59, (4, 0, 0), 0, 0, []) else TN)))) else (bif Nat.blt pc 64 then (bif Nat.blt pc 60 then (bif Nat.beq pc 59 then (.iload_n 2, 60, (2, 0, 0), 0, 0, []) else TN) else (bif Nat.blt pc 63 then (bif Nat.beq pc 60 then (.ifCond .eq 12, 63, (72, 0, 0), 0, 0, []) else TN) else (bif Nat.beq pc 63 then (.iload_n 1, 64, (1, 0, 0), 0, 0, []) else TN))) else (bif Nat.blt pc 66 then (bif Nat.beq pc 64 then (.iload 4, 66, (4, 0, 0), 0, 0, []) else TN) else (bif Nat.blt pc 69 then (bif Nat.beq pc 66 then (.if_icmp .ge 29, 69, (95, 0, 0), 0, 0, []) else TN) else (bif Nat.beq pc 69 then (.goto 22, 72, (91, 0, 0), 0, 0, []) else TN))))) else (bif Nat.blt pc 85 then (bif Nat.blt pc 77 then (bif Nat.blt pc 73 then (bif Nat.beq pc 72 then (.iload_n 3, 73, (3, 0, 0), 0, 0, []) else TN) else (bif Nat.blt pc 76 then (bif Nat.beq pc 73 then (.ifCond .eq 12, 76, (85, 0, 0), 0, 0, []) else TN) else (bif Nat.beq pc 76 then (.iload_n 1, 77, (1, 0, 0), 0, 0, []) else TN))) else (bif Nat.blt pc 79 then (bif Nat.beq pc 77 then (.iload 4, 79, (4, 0, 0), 0, 0, []) else TN) else (bif Nat.blt pc 82 then (bif Nat.beq pc 79 then (.if_icmp .ne 16, 82, (95, 0, 0), 0, 0, []) else TN) else (bif Nat.beq pc 82 then (.goto 9, 85, (91, 0, 0), 0, 0, []) else TN)))) else (bif Nat.blt pc 91 then (bif Nat.blt pc 86 then (bif Nat.beq pc 85 then (.iload_n 1, 86, (1, 0, 0), 0, 0, []) else TN) else (bif Nat.blt pc 88 then (bif Nat.beq pc 86 then (.iload 4, 88, (4, 0, 0), 0, 0, []) else TN) else (bif Nat.beq pc 88 then (.if_icmp .le 7, 91, (95, 0, 0), 0, 0, []) else TN))) else (bif Nat.blt pc 95 then (bif Nat.blt pc 92 then (bif Nat.beq pc 91 then (.iconst 1, 92, (0, 0, 0), 1, 0, []) else TN) else (bif Nat.beq pc 92 then (.goto 4, 95, (96, 0, 0), 0, 0, []) else TN)) else (bif Nat.blt pc 96 then (bif Nat.beq pc 95 then (.iconst 0, 96, (0, 0, 0), 0, 0, []) else TN) else (bif Nat.beq pc 96 then (.ireturn, 97, (0, 0, 0), 0, 0, []) else TN))))))
def tb_X12_test (pc : Nat) : TI := bif Nat.ble 97 pc then TN else tt_X12_test pc
theorem ok_X12_test : tOK 12 (decide ("test" = "<init>")) cX12_test tb_X12_test := tOK_of 97 tn_of (by decide +kernel)
def f_X12_test_34 (g_X12_sum : Lay → Sto → Nat → Option (Int32 × Sto)) (L : Lay) (σ : Sto) (a0 : Nat) (a1 : Int32) : Option (Int32 × Sto) := (f_X12_isSign L σ a0 60).bind fun r1 => (f_X12_isSign L σ a0 61).bind fun r2 => (f_X12_takes L σ a0 1).bind fun σ3 => (g_X12_sum L σ3 a0).bind fun r4 => (if r1 = 0 then (if r2 = 0 then (if a1 ≤ r4.1 then some (0, r4.2) else some (1, r4.2)) else (if a1 = r4.1 then some (1, r4.2) else some (0, r4.2))) else (if r4.1 ≤ a1 then some (0, r4.2) else some (1, r4.2)))
def A_X12_test_34 (c : Lay → Sto → Nat → Int32 → Option (Int32 × Sto)) (lc : List (Option AV)) (st : List AV) (L : Lay) (σ : Sto) : Option (Int32 × Sto) := match lc, st with
  | [some (.inr (.inr (.inl (ta0, some a0)))), some (.inl a1), _, _, _], [] => bif Nat.beq ta0 12 && true then c L σ a0 a1 else none
  | _, _ => none
def fb_X12_test (g_X12_sum : Lay → Sto → Nat → Option (Int32 × Sto)) (L : Lay) (σ : Sto) (a0 : Nat) : Option (Int32 × Sto) := (g_X12_sum L σ a0).bind fun r5 => (f_X12_isSign L r5.2 a0 60).bind fun r6 => (if r6 = 0 then (f_X12_isSign L r5.2 a0 61).bind fun r7 => (if r7 = 0 then (f_X12_isSign L r5.2 a0 62).bind fun r8 => (if r8 = 0 then some (r5.1, r5.2) else (f_X12_test_34 g_X12_sum) L r5.2 a0 r5.1) else (f_X12_test_34 g_X12_sum) L r5.2 a0 r5.1) else (f_X12_test_34 g_X12_sum) L r5.2 a0 r5.1)
abbrev cl_X12_test (g_X12_sum : Lay → Sto → Nat → Option (Int32 × Sto)) {O : Type} : CLT O := (clc 162 ad_X12_isSign (clc 209 ad_X12_takes (clc 208 (adp_X12_sum g_X12_sum) cl0)))
theorem hc_X12_test (G : GT) (l : Launch) {d : Nat} (hd : 5 ≤ d) {dr : Nat} (hdr : dr + 1 ≤ d) {g_X12_sum : Lay → Sto → Nat → Option (Int32 × Sto)} (hg_X12_sum : CA G l 208 (true, false) dr (adp_X12_sum g_X12_sum)) {O : Type} : HCL G l (true, false) d (cl_X12_test g_X12_sum (O := O)) := (hclc (ca_X12_isSign G l (d := 2) (Nat.le_refl _)) (fun _ => rfl) (fun e => by cases e) (by omega) (hclc (ca_X12_takes G l (d := 4) (Nat.le_refl _)) (fun _ => rfl) (fun e => by cases e) (by omega) (hclc hg_X12_sum (fun _ => rfl) (fun e => by cases e) hdr hcl0)))
theorem rt_X12_test : retOK (0, 0) (some .int) := ⟨fun _ => rfl, fun h => absurd h (by decide), fun h => absurd h (by decide)⟩
set_option maxRecDepth 20000 in
theorem b_X12_test_34 {G : GT} {l : Launch} {d : Nat} {L0 : Lay} {σ0 : Sto} (hd : 5 ≤ d) {dr : Nat} (hdr : dr + 1 ≤ d) {g_X12_sum : Lay → Sto → Nat → Option (Int32 × Sto)} (hg_X12_sum : CA G l 208 (true, false) dr (adp_X12_sum g_X12_sum)) : HF G l 12 "test" cX12_test 5 (some .int) d L0 σ0 (true, false) (dcI L0) 34 (A_X12_test_34 (f_X12_test_34 g_X12_sum)) := by
  intro lc st L σ o h hI
  unfold A_X12_test_34 at h
  split at h
  · obtain ⟨hq0, hA1⟩ := bif_s h
    obtain ⟨e0, hq1⟩ := beq_and hq0
    subst e0
    exact exs (sp := []) (K := k0) ok_X12_test rt_X12_test (by omega) (hc_X12_test G l hd hdr hg_X12_sum) (hrI rfl) hk0 53 hA1 hI
  · cases h
set_option maxRecDepth 20000 in
theorem cb_X12_test (G : GT) (l : Launch) {d : Nat} (hd : 5 ≤ d) {dr : Nat} (hdr : dr + 1 ≤ d) {g_X12_sum : Lay → Sto → Nat → Option (Int32 × Sto)} (hg_X12_sum : CA G l 208 (true, false) dr (adp_X12_sum g_X12_sum)) : CA G l 212 (true, false) d (adp_X12_test (fb_X12_test g_X12_sum)) := by
  intro O L σ as k o h hW hok
  unfold adp_X12_test at h
  split at h
  · obtain ⟨hq0, hA0⟩ := bif_s h
    obtain ⟨e0, hq1⟩ := beq_and hq0
    subst e0
    obtain ⟨r, hr, hk⟩ := Option.bind_eq_some_iff.mp hA0
    exact ca_of (q := (dcI L) r) (by decide) rfl (Nat.le_of_ble_eq_true rfl) hk (fun _ => rfl) (fun e => by cases e) (exs (sp := [34]) (K := (kc 34 (A_X12_test_34 (f_X12_test_34 g_X12_sum)) k0)) (L0 := L) (σ0 := σ) ok_X12_test rt_X12_test (by omega) (hc_X12_test G l hd hdr hg_X12_sum) (hrI rfl) (hkc (b_X12_test_34 hd hdr hg_X12_sum) hk0) 53 hr (inv0 hW hok))
  · cases h
def tt_X12_and (pc : Nat) : TI := bif Nat.blt pc 23 then (bif Nat.blt pc 11 then (bif Nat.blt pc 5 then (bif Nat.blt pc 1 then (bif Nat.beq pc 0 then (.aload_n 0, 1, (0, 0, 0), 0, 0, []) else TN) else (bif Nat.blt pc 4 then (bif Nat.beq pc 1 then (.invokevirtual 318, 4, (212, 0, 12), 0, 0, []) else TN) else (bif Nat.beq pc 4 then (.istore_n 1, 5, (1, 0, 0), 0, 0, []) else TN))) else (bif Nat.blt pc 6 then (bif Nat.beq pc 5 then (.aload_n 0, 6, (0, 0, 0), 0, 0, []) else TN) else (bif Nat.blt pc 8 then (bif Nat.beq pc 6 then (.bipush 38, 8, (0, 0, 0), 38, 0, []) else TN) else (bif Nat.beq pc 8 then (.invokevirtual 291, 11, (162, 1, 12), 0, 0, []) else TN)))) else (bif Nat.blt pc 16 then (bif Nat.blt pc 14 then (bif Nat.beq pc 11 then (.ifCond .eq 30, 14, (41, 0, 0), 0, 0, []) else TN) else (bif Nat.blt pc 15 then (bif Nat.beq pc 14 then (.aload_n 0, 15, (0, 0, 0), 0, 0, []) else TN) else (bif Nat.beq pc 15 then (.iconst 1, 16, (0, 0, 0), 1, 0, []) else TN))) else (bif Nat.blt pc 19 then (bif Nat.beq pc 16 then (.invokevirtual 287, 19, (209, 1, 12), 0, 0, []) else TN) else (bif Nat.blt pc 20 then (bif Nat.beq pc 19 then (.aload_n 0, 20, (0, 0, 0), 0, 0, []) else TN) else (bif Nat.beq pc 20 then (.invokevirtual 318, 23, (212, 0, 12), 0, 0, []) else TN))))) else (bif Nat.blt pc 33 then (bif Nat.blt pc 28 then (bif Nat.blt pc 24 then (bif Nat.beq pc 23 then (.istore_n 2, 24, (2, 0, 0), 0, 0, []) else TN) else (bif Nat.blt pc 25 then (bif Nat.beq pc 24 then (.iload_n 1, 25, (1, 0, 0), 0, 0, []) else TN) else (bif Nat.beq pc 25 then (.ifCond .eq 11, 28, (36, 0, 0), 0, 0, []) else TN))) else (bif Nat.blt pc 29 then (bif Nat.beq pc 28 then (.iload_n 2, 29, (2, 0, 0), 0, 0, []) else TN) else (bif Nat.blt pc 32 then (bif Nat.beq pc 29 then (.ifCond .eq 7, 32, (36, 0, 0), 0, 0, []) else TN) else (bif Nat.beq pc 32 then (.iconst 1, 33, (0, 0, 0), 1, 0, []) else TN)))) else (bif Nat.blt pc 38 then (bif Nat.blt pc 36 then (bif Nat.beq pc 33 then (.goto 4, 36, (37, 0, 0), 0, 0, []) else TN) else (bif Nat.blt pc 37 then (bif Nat.beq pc 36 then (.iconst 0, 37, (0, 0, 0), 0, 0, []) else TN) else (bif Nat.beq pc 37 then (.istore_n 1, 38, (1, 0, 0), 0, 0, []) else TN))) else (bif Nat.blt pc 41 then (bif Nat.beq pc 38 then (.goto (-33), 41, (5, 0, 0), 0, 0, []) else TN) else (bif Nat.blt pc 42 then (bif Nat.beq pc 41 then (.iload_n 1, 42, (1, 0, 0), 0, 0, []) else TN) else (bif Nat.beq pc 42 then (.ireturn, 43, (0, 0, 0), 0, 0, []) else TN)))))
def tb_X12_and (pc : Nat) : TI := bif Nat.ble 43 pc then TN else tt_X12_and pc
theorem ok_X12_and : tOK 12 (decide ("and" = "<init>")) cX12_and tb_X12_and := tOK_of 43 tn_of (by decide +kernel)
def f_X12_and_37 (g_X12_test : Lay → Sto → Nat → Option (Int32 × Sto)) (c5 : Lay → Sto → Nat → Int32 → Option (Int32 × Sto)) (L : Lay) (σ : Sto) (a0 : Nat) (s0 : Int32) : Option (Int32 × Sto) := c5 L σ a0 s0
def A_X12_and_37 (c : Lay → Sto → Nat → Int32 → Option (Int32 × Sto)) (lc : List (Option AV)) (st : List AV) (L : Lay) (σ : Sto) : Option (Int32 × Sto) := match lc, st with
  | [some (.inr (.inr (.inl (ta0, some a0)))), _, _], [.inl s0] => bif Nat.beq ta0 12 && true then c L σ a0 s0 else none
  | _, _ => none
def f_X12_and_36 (g_X12_test : Lay → Sto → Nat → Option (Int32 × Sto)) (c5 : Lay → Sto → Nat → Int32 → Option (Int32 × Sto)) (L : Lay) (σ : Sto) (a0 : Nat) : Option (Int32 × Sto) := (f_X12_and_37 g_X12_test c5) L σ a0 0
def A_X12_and_36 (c : Lay → Sto → Nat → Option (Int32 × Sto)) (lc : List (Option AV)) (st : List AV) (L : Lay) (σ : Sto) : Option (Int32 × Sto) := match lc, st with
  | [some (.inr (.inr (.inl (ta0, some a0)))), _, _], [] => bif Nat.beq ta0 12 && true then c L σ a0 else none
  | _, _ => none
def f_X12_and_5 (g_X12_test : Lay → Sto → Nat → Option (Int32 × Sto)) : Nat → Lay → Sto → Nat → Int32 → Option (Int32 × Sto)
  | 0 => fun _ _ _ _ => none
  | k + 1 => fun L σ a0 a1 => (f_X12_isSign L σ a0 38).bind fun r1 => (if r1 = 0 then some (a1, σ) else (f_X12_takes L σ a0 1).bind fun σ2 => (g_X12_test L σ2 a0).bind fun r3 => (if a1 = 0 then (f_X12_and_36 g_X12_test (f_X12_and_5 g_X12_test k)) L r3.2 a0 else (if r3.1 = 0 then (f_X12_and_36 g_X12_test (f_X12_and_5 g_X12_test k)) L r3.2 a0 else (f_X12_and_37 g_X12_test (f_X12_and_5 g_X12_test k)) L r3.2 a0 1)))
def A_X12_and_5 (c : Lay → Sto → Nat → Int32 → Option (Int32 × Sto)) (lc : List (Option AV)) (st : List AV) (L : Lay) (σ : Sto) : Option (Int32 × Sto) := match lc, st with
  | [some (.inr (.inr (.inl (ta0, some a0)))), some (.inl a1), _], [] => bif Nat.beq ta0 12 && true then c L σ a0 a1 else none
  | _, _ => none
def fb_X12_and (g_X12_test : Lay → Sto → Nat → Option (Int32 × Sto)) (L : Lay) (σ : Sto) (a0 : Nat) : Option (Int32 × Sto) := (g_X12_test L σ a0).bind fun r4 => (f_X12_and_5 g_X12_test FU) L r4.2 a0 r4.1
abbrev cl_X12_and (g_X12_test : Lay → Sto → Nat → Option (Int32 × Sto)) {O : Type} : CLT O := (clc 162 ad_X12_isSign (clc 209 ad_X12_takes (clc 212 (adp_X12_test g_X12_test) cl0)))
theorem hc_X12_and (G : GT) (l : Launch) {d : Nat} (hd : 5 ≤ d) {dr : Nat} (hdr : dr + 1 ≤ d) {g_X12_test : Lay → Sto → Nat → Option (Int32 × Sto)} (hg_X12_test : CA G l 212 (true, false) dr (adp_X12_test g_X12_test)) {O : Type} : HCL G l (true, false) d (cl_X12_and g_X12_test (O := O)) := (hclc (ca_X12_isSign G l (d := 2) (Nat.le_refl _)) (fun _ => rfl) (fun e => by cases e) (by omega) (hclc (ca_X12_takes G l (d := 4) (Nat.le_refl _)) (fun _ => rfl) (fun e => by cases e) (by omega) (hclc hg_X12_test (fun _ => rfl) (fun e => by cases e) hdr hcl0)))
theorem rt_X12_and : retOK (0, 0) (some .int) := ⟨fun _ => rfl, fun h => absurd h (by decide), fun h => absurd h (by decide)⟩
set_option maxRecDepth 20000 in
theorem b_X12_and_37 {G : GT} {l : Launch} {d : Nat} {L0 : Lay} {σ0 : Sto} (hd : 5 ≤ d) {dr : Nat} (hdr : dr + 1 ≤ d) {g_X12_test : Lay → Sto → Nat → Option (Int32 × Sto)} (hg_X12_test : CA G l 212 (true, false) dr (adp_X12_test g_X12_test)) {c5 : Lay → Sto → Nat → Int32 → Option (Int32 × Sto)} (h5 : HF G l 12 "and" cX12_and 3 (some .int) d L0 σ0 (true, false) (dcI L0) 5 (A_X12_and_5 c5)) : HF G l 12 "and" cX12_and 3 (some .int) d L0 σ0 (true, false) (dcI L0) 37 (A_X12_and_37 (f_X12_and_37 g_X12_test c5)) := by
  intro lc st L σ o h hI
  unfold A_X12_and_37 at h
  split at h
  · obtain ⟨hq0, hA1⟩ := bif_s h
    obtain ⟨e0, hq1⟩ := beq_and hq0
    subst e0
    exact exs (sp := [5]) (K := (kc 5 (A_X12_and_5 c5) k0)) ok_X12_and rt_X12_and (by omega) (hc_X12_and G l hd hdr hg_X12_test) (hrI rfl) (hkc h5 hk0) 27 hA1 hI
  · cases h
set_option maxRecDepth 20000 in
theorem b_X12_and_36 {G : GT} {l : Launch} {d : Nat} {L0 : Lay} {σ0 : Sto} (hd : 5 ≤ d) {dr : Nat} (hdr : dr + 1 ≤ d) {g_X12_test : Lay → Sto → Nat → Option (Int32 × Sto)} (hg_X12_test : CA G l 212 (true, false) dr (adp_X12_test g_X12_test)) {c5 : Lay → Sto → Nat → Int32 → Option (Int32 × Sto)} (h5 : HF G l 12 "and" cX12_and 3 (some .int) d L0 σ0 (true, false) (dcI L0) 5 (A_X12_and_5 c5)) : HF G l 12 "and" cX12_and 3 (some .int) d L0 σ0 (true, false) (dcI L0) 36 (A_X12_and_36 (f_X12_and_36 g_X12_test c5)) := by
  intro lc st L σ o h hI
  unfold A_X12_and_36 at h
  split at h
  · obtain ⟨hq0, hA1⟩ := bif_s h
    obtain ⟨e0, hq1⟩ := beq_and hq0
    subst e0
    exact exs (sp := [37]) (K := (kc 37 (A_X12_and_37 (f_X12_and_37 g_X12_test c5)) k0)) ok_X12_and rt_X12_and (by omega) (hc_X12_and G l hd hdr hg_X12_test) (hrI rfl) (hkc (b_X12_and_37 hd hdr hg_X12_test h5) hk0) 27 hA1 hI
  · cases h
set_option maxRecDepth 20000 in
theorem b_X12_and_5 {G : GT} {l : Launch} {d : Nat} {L0 : Lay} {σ0 : Sto} (hd : 5 ≤ d) {dr : Nat} (hdr : dr + 1 ≤ d) {g_X12_test : Lay → Sto → Nat → Option (Int32 × Sto)} (hg_X12_test : CA G l 212 (true, false) dr (adp_X12_test g_X12_test)) : ∀ k : Nat, HF G l 12 "and" cX12_and 3 (some .int) d L0 σ0 (true, false) (dcI L0) 5 (A_X12_and_5 (f_X12_and_5 g_X12_test k))
  | 0 => by
    intro lc st L σ o h hI
    unfold A_X12_and_5 at h
    split at h
    · obtain ⟨_, hA1⟩ := bif_s h
      cases hA1
    · cases h
  | k + 1 => by
    have ih := b_X12_and_5 (G := G) (l := l) (d := d) (L0 := L0) (σ0 := σ0) hd hdr hg_X12_test k
    intro lc st L σ o h hI
    unfold A_X12_and_5 at h
    split at h
    · obtain ⟨hq0, hA1⟩ := bif_s h
      obtain ⟨e0, hq1⟩ := beq_and hq0
      subst e0
      exact exs (sp := [36, 37]) (K := (kc 36 (A_X12_and_36 (f_X12_and_36 g_X12_test (f_X12_and_5 g_X12_test k))) (kc 37 (A_X12_and_37 (f_X12_and_37 g_X12_test (f_X12_and_5 g_X12_test k))) k0))) ok_X12_and rt_X12_and (by omega) (hc_X12_and G l hd hdr hg_X12_test) (hrI rfl) (hkc (b_X12_and_36 hd hdr hg_X12_test ih) (hkc (b_X12_and_37 hd hdr hg_X12_test ih) hk0)) 27 hA1 hI
    · cases h
set_option maxRecDepth 20000 in
theorem cb_X12_and (G : GT) (l : Launch) {d : Nat} (hd : 5 ≤ d) {dr : Nat} (hdr : dr + 1 ≤ d) {g_X12_test : Lay → Sto → Nat → Option (Int32 × Sto)} (hg_X12_test : CA G l 212 (true, false) dr (adp_X12_test g_X12_test)) : CA G l 121 (true, false) d (adp_X12_and (fb_X12_and g_X12_test)) := by
  intro O L σ as k o h hW hok
  unfold adp_X12_and at h
  split at h
  · obtain ⟨hq0, hA0⟩ := bif_s h
    obtain ⟨e0, hq1⟩ := beq_and hq0
    subst e0
    obtain ⟨r, hr, hk⟩ := Option.bind_eq_some_iff.mp hA0
    exact ca_of (q := (dcI L) r) (by decide) rfl (Nat.le_of_ble_eq_true rfl) hk (fun _ => rfl) (fun e => by cases e) (exs (sp := [5]) (K := (kc 5 (A_X12_and_5 (f_X12_and_5 g_X12_test FU)) k0)) (L0 := L) (σ0 := σ) ok_X12_and rt_X12_and (by omega) (hc_X12_and G l hd hdr hg_X12_test) (hrI rfl) (hkc (b_X12_and_5 hd hdr hg_X12_test FU) hk0) 27 hr (inv0 hW hok))
  · cases h
def fg_pa : Nat → (Lay → Sto → Nat → Option (Int32 × Sto)) × (Lay → Sto → Nat → Option (Int32 × Sto)) × (Lay → Sto → Nat → Option (Int32 × Sto)) × (Lay → Sto → Nat → Option (Int32 × Sto)) × (Lay → Sto → Nat → Option (Int32 × Sto)) × (Lay → Sto → Nat → Option (Int32 × Sto))
  | 0 => (fun _ _ _ => none, fun _ _ _ => none, fun _ _ _ => none, fun _ _ _ => none, fun _ _ _ => none, fun _ _ _ => none)
  | k + 1 => (fb_X12_or ((fg_pa k).2.2.2.2.2), fb_X12_one ((fg_pa k).2.1) ((fg_pa k).1), fb_X12_term ((fg_pa k).2.1), fb_X12_sum ((fg_pa k).2.2.1), fb_X12_test ((fg_pa k).2.2.2.1), fb_X12_and ((fg_pa k).2.2.2.2.1))
set_option maxRecDepth 20000 in
theorem tie_pa (G : GT) (l : Launch) : ∀ (k : Nat) {d : Nat}, 6 + k ≤ d → CA G l 190 (true, false) d (adp_X12_or ((fg_pa k).1)) ∧ CA G l 188 (true, false) d (adp_X12_one ((fg_pa k).2.1)) ∧ CA G l 211 (true, false) d (adp_X12_term ((fg_pa k).2.2.1)) ∧ CA G l 208 (true, false) d (adp_X12_sum ((fg_pa k).2.2.2.1)) ∧ CA G l 212 (true, false) d (adp_X12_test ((fg_pa k).2.2.2.2.1)) ∧ CA G l 121 (true, false) d (adp_X12_and ((fg_pa k).2.2.2.2.2))
  | 0, d, hd => by
    refine ⟨?_, ?_, ?_, ?_, ?_, ?_⟩
    · exact fun O L σ as k o h _ _ => by
        unfold adp_X12_or at h
        split at h
        · obtain ⟨_, hA⟩ := bif_s h
          cases hA
        · cases h
    · exact fun O L σ as k o h _ _ => by
        unfold adp_X12_one at h
        split at h
        · obtain ⟨_, hA⟩ := bif_s h
          cases hA
        · cases h
    · exact fun O L σ as k o h _ _ => by
        unfold adp_X12_term at h
        split at h
        · obtain ⟨_, hA⟩ := bif_s h
          cases hA
        · cases h
    · exact fun O L σ as k o h _ _ => by
        unfold adp_X12_sum at h
        split at h
        · obtain ⟨_, hA⟩ := bif_s h
          cases hA
        · cases h
    · exact fun O L σ as k o h _ _ => by
        unfold adp_X12_test at h
        split at h
        · obtain ⟨_, hA⟩ := bif_s h
          cases hA
        · cases h
    · exact fun O L σ as k o h _ _ => by
        unfold adp_X12_and at h
        split at h
        · obtain ⟨_, hA⟩ := bif_s h
          cases hA
        · cases h
  | k + 1, d, hd => by
    have ih := tie_pa G l k (d := d - 1) (by omega)
    exact ⟨cb_X12_or G l (by omega) (dr := d - 1) (by omega) ih.2.2.2.2.2, cb_X12_one G l (by omega) (dr := d - 1) (by omega) ih.2.1 ih.1, cb_X12_term G l (by omega) (dr := d - 1) (by omega) ih.2.1, cb_X12_sum G l (by omega) (dr := d - 1) (by omega) ih.2.2.1, cb_X12_test G l (by omega) (dr := d - 1) (by omega) ih.2.2.2.1, cb_X12_and G l (by omega) (dr := d - 1) (by omega) ih.2.2.2.2.1⟩
def f_X12_or : Lay → Sto → Nat → Option (Int32 × Sto) := (fg_pa 100).1
abbrev ad_X12_or : ADT := adp_X12_or f_X12_or
theorem ca_X12_or (G : GT) (l : Launch) {d : Nat} (hd : 106 ≤ d) : CA G l 190 (true, false) d ad_X12_or := (tie_pa G l 100 (by omega)).1
def f_X12_one : Lay → Sto → Nat → Option (Int32 × Sto) := (fg_pa 100).2.1
abbrev ad_X12_one : ADT := adp_X12_one f_X12_one
theorem ca_X12_one (G : GT) (l : Launch) {d : Nat} (hd : 106 ≤ d) : CA G l 188 (true, false) d ad_X12_one := (tie_pa G l 100 (by omega)).2.1
def f_X12_term : Lay → Sto → Nat → Option (Int32 × Sto) := (fg_pa 100).2.2.1
abbrev ad_X12_term : ADT := adp_X12_term f_X12_term
theorem ca_X12_term (G : GT) (l : Launch) {d : Nat} (hd : 106 ≤ d) : CA G l 211 (true, false) d ad_X12_term := (tie_pa G l 100 (by omega)).2.2.1
def f_X12_sum : Lay → Sto → Nat → Option (Int32 × Sto) := (fg_pa 100).2.2.2.1
abbrev ad_X12_sum : ADT := adp_X12_sum f_X12_sum
theorem ca_X12_sum (G : GT) (l : Launch) {d : Nat} (hd : 106 ≤ d) : CA G l 208 (true, false) d ad_X12_sum := (tie_pa G l 100 (by omega)).2.2.2.1
def f_X12_test : Lay → Sto → Nat → Option (Int32 × Sto) := (fg_pa 100).2.2.2.2.1
abbrev ad_X12_test : ADT := adp_X12_test f_X12_test
theorem ca_X12_test (G : GT) (l : Launch) {d : Nat} (hd : 106 ≤ d) : CA G l 212 (true, false) d ad_X12_test := (tie_pa G l 100 (by omega)).2.2.2.2.1
def f_X12_and : Lay → Sto → Nat → Option (Int32 × Sto) := (fg_pa 100).2.2.2.2.2
abbrev ad_X12_and : ADT := adp_X12_and f_X12_and
theorem ca_X12_and (G : GT) (l : Launch) {d : Nat} (hd : 106 ≤ d) : CA G l 121 (true, false) d ad_X12_and := (tie_pa G l 100 (by omega)).2.2.2.2.2
