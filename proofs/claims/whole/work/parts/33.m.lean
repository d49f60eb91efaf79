def tt_X12_branchOf (pc : Nat) : TI := bif Nat.blt pc 12 then (bif Nat.blt pc 6 then (bif Nat.blt pc 1 then (bif Nat.beq pc 0 then (.aload_n 0, 1, (0, 0, 0), 0, 0, []) else TN) else (bif Nat.blt pc 4 then (bif Nat.beq pc 1 then (.getfield 31, 4, (12, 11, 0), 0, 0, []) else TN) else (bif Nat.beq pc 4 then (.bipush 7, 6, (0, 0, 0), 7, 0, []) else TN))) else (bif Nat.blt pc 8 then (bif Nat.blt pc 7 then (bif Nat.beq pc 6 then (.iload_n 1, 7, (1, 0, 0), 0, 0, []) else TN) else (bif Nat.beq pc 7 then (.imul, 8, (0, 0, 0), 0, 0, []) else TN)) else (bif Nat.blt pc 9 then (bif Nat.beq pc 8 then (.aload_n 0, 9, (0, 0, 0), 0, 0, []) else TN) else (bif Nat.beq pc 9 then (.getfield 28, 12, (12, 10, 0), 0, 0, []) else TN)))) else (bif Nat.blt pc 15 then (bif Nat.blt pc 13 then (bif Nat.beq pc 12 then (.iload_n 1, 13, (1, 0, 0), 0, 0, []) else TN) else (bif Nat.blt pc 14 then (bif Nat.beq pc 13 then (.iaload, 14, (0, 0, 0), 0, 0, []) else TN) else (bif Nat.beq pc 14 then (.iadd, 15, (0, 0, 0), 0, 0, []) else TN))) else (bif Nat.blt pc 17 then (bif Nat.blt pc 16 then (bif Nat.beq pc 15 then (.iconst 1, 16, (0, 0, 0), 1, 0, []) else TN) else (bif Nat.beq pc 16 then (.isub, 17, (0, 0, 0), 0, 0, []) else TN)) else (bif Nat.blt pc 18 then (bif Nat.beq pc 17 then (.iaload, 18, (0, 0, 0), 0, 0, []) else TN) else (bif Nat.beq pc 18 then (.ireturn, 19, (0, 0, 0), 0, 0, []) else TN))))
def tb_X12_branchOf (pc : Nat) : TI := bif Nat.ble 19 pc then TN else tt_X12_branchOf pc
theorem ok_X12_branchOf : tOK 12 (decide ("branchOf" = "<init>")) cX12_branchOf tb_X12_branchOf := tOK_of 19 tn_of (by decide +kernel)
def f_X12_branchOf (L : Lay) (σ : Sto) (a0 : Nat) (a1 : Int32) : Option Int32 := (σ.2.1 a0 10).bind fun x1 => (rI L σ x1 a1).bind fun v2 => (σ.2.1 a0 11).bind fun x3 => (rI L σ x3 (((7 * a1) + v2) - 1)).bind fun v4 => some v4
def ad_X12_branchOf : ADT := fun O L σ as k => match as with
  | [.inr (.inr (.inl (ta0, some a0))), .inl a1] => bif Nat.beq ta0 12 && true then (f_X12_branchOf L σ a0 a1).bind fun r => k (some (vI r)) L σ else none
  | _ => none
abbrev cl_X12_branchOf {O : Type} : CLT O := cl0
theorem hc_X12_branchOf (G : GT) (l : Launch) {d : Nat} (hd : 1 ≤ d) {O : Type} : HCL G l (true, true) d (cl_X12_branchOf (O := O)) := hcl0
theorem rt_X12_branchOf : retOK (0, 0) (some .int) := ⟨fun _ => rfl, fun h => absurd h (by decide), fun h => absurd h (by decide)⟩
set_option maxRecDepth 20000 in
theorem ca_X12_branchOf (G : GT) (l : Launch) {d : Nat} (hd : 1 ≤ d) : CA G l 126 (true, true) d ad_X12_branchOf := by
  intro O L σ as k o h hW hok
  unfold ad_X12_branchOf at h
  split at h
  · obtain ⟨hq0, hA0⟩ := bif_s h
    obtain ⟨e0, hq1⟩ := beq_and hq0
    subst e0
    obtain ⟨r, hr, hk⟩ := Option.bind_eq_some_iff.mp hA0
    exact ca_of (q := (dcPI L σ) r) (by decide) rfl (Nat.le_of_ble_eq_true rfl) hk (fun _ => rfl) (fun _ => rfl) (exs (sp := []) (K := k0) (L0 := L) (σ0 := σ) ok_X12_branchOf rt_X12_branchOf (by omega) (hc_X12_branchOf G l hd) (hrPI rfl rfl) hk0 17 hr (inv0 hW hok))
  · cases h
def tt_X12_byteOf (pc : Nat) : TI := bif Nat.blt pc 6 then (bif Nat.blt pc 3 then (bif Nat.blt pc 1 then (bif Nat.beq pc 0 then (.iload_n 0, 1, (0, 0, 0), 0, 0, []) else TN) else (bif Nat.beq pc 1 then (.bipush 8, 3, (0, 0, 0), 8, 0, []) else TN)) else (bif Nat.blt pc 4 then (bif Nat.beq pc 3 then (.iconst 3, 4, (0, 0, 0), 3, 0, []) else TN) else (bif Nat.blt pc 5 then (bif Nat.beq pc 4 then (.iload_n 1, 5, (1, 0, 0), 0, 0, []) else TN) else (bif Nat.beq pc 5 then (.isub, 6, (0, 0, 0), 0, 0, []) else TN)))) else (bif Nat.blt pc 8 then (bif Nat.blt pc 7 then (bif Nat.beq pc 6 then (.imul, 7, (0, 0, 0), 0, 0, []) else TN) else (bif Nat.beq pc 7 then (.ishr, 8, (0, 0, 0), 0, 0, []) else TN)) else (bif Nat.blt pc 11 then (bif Nat.beq pc 8 then (.sipush 255, 11, (0, 0, 0), 255, 0, []) else TN) else (bif Nat.blt pc 12 then (bif Nat.beq pc 11 then (.iand, 12, (0, 0, 0), 0, 0, []) else TN) else (bif Nat.beq pc 12 then (.ireturn, 13, (0, 0, 0), 0, 0, []) else TN))))
def tb_X12_byteOf (pc : Nat) : TI := bif Nat.ble 13 pc then TN else tt_X12_byteOf pc
theorem ok_X12_byteOf : tOK 12 (decide ("byteOf" = "<init>")) cX12_byteOf tb_X12_byteOf := tOK_of 13 tn_of (by decide +kernel)
def f_X12_byteOf (L : Lay) (σ : Sto) (a0 : Int32) (a1 : Int32) : Option Int32 := some ((a0 >>> ((8 * (3 - a1)) &&& 31)) &&& 255)
def ad_X12_byteOf : ADT := fun O L σ as k => match as with
  | [.inl a0, .inl a1] => (f_X12_byteOf L σ a0 a1).bind fun r => k (some (vI r)) L σ
  | _ => none
abbrev cl_X12_byteOf {O : Type} : CLT O := cl0
theorem hc_X12_byteOf (G : GT) (l : Launch) {d : Nat} (hd : 1 ≤ d) {O : Type} : HCL G l (true, true) d (cl_X12_byteOf (O := O)) := hcl0
theorem rt_X12_byteOf : retOK (0, 0) (some .int) := ⟨fun _ => rfl, fun h => absurd h (by decide), fun h => absurd h (by decide)⟩
set_option maxRecDepth 20000 in
theorem ca_X12_byteOf (G : GT) (l : Launch) {d : Nat} (hd : 1 ≤ d) : CA G l 127 (true, true) d ad_X12_byteOf := by
  intro O L σ as k o h hW hok
  unfold ad_X12_byteOf at h
  split at h
  · have hA0 := h
    obtain ⟨r, hr, hk⟩ := Option.bind_eq_some_iff.mp hA0
    exact ca_of (q := (dcPI L σ) r) (by decide) rfl (Nat.le_of_ble_eq_true rfl) hk (fun _ => rfl) (fun _ => rfl) (exs (sp := []) (K := k0) (L0 := L) (σ0 := σ) ok_X12_byteOf rt_X12_byteOf (by omega) (hc_X12_byteOf G l hd) (hrPI rfl rfl) hk0 13 hr (inv0 hW hok))
  · cases h
def tt_X12_isPlan (pc : Nat) : TI := bif Nat.blt pc 10 then (bif Nat.blt pc 5 then (bif Nat.blt pc 1 then (bif Nat.beq pc 0 then (.aload_n 0, 1, (0, 0, 0), 0, 0, []) else TN) else (bif Nat.blt pc 2 then (bif Nat.beq pc 1 then (.iload_n 1, 2, (1, 0, 0), 0, 0, []) else TN) else (bif Nat.beq pc 2 then (.invokevirtual 205, 5, (149, 1, 12), 0, 0, []) else TN))) else (bif Nat.blt pc 8 then (bif Nat.beq pc 5 then (.ifCond .eq 17, 8, (22, 0, 0), 0, 0, []) else TN) else (bif Nat.blt pc 9 then (bif Nat.beq pc 8 then (.iload_n 2, 9, (2, 0, 0), 0, 0, []) else TN) else (bif Nat.beq pc 9 then (.iconst 1, 10, (0, 0, 0), 1, 0, []) else TN)))) else (bif Nat.blt pc 18 then (bif Nat.blt pc 12 then (bif Nat.beq pc 10 then (.bipush 12, 12, (0, 0, 0), 12, 0, []) else TN) else (bif Nat.blt pc 15 then (bif Nat.beq pc 12 then (.invokestatic 146, 15, (147, 3, 0), 0, 0, []) else TN) else (bif Nat.beq pc 15 then (.ifCond .eq 7, 18, (22, 0, 0), 0, 0, []) else TN))) else (bif Nat.blt pc 22 then (bif Nat.blt pc 19 then (bif Nat.beq pc 18 then (.iconst 1, 19, (0, 0, 0), 1, 0, []) else TN) else (bif Nat.beq pc 19 then (.goto 4, 22, (23, 0, 0), 0, 0, []) else TN)) else (bif Nat.blt pc 23 then (bif Nat.beq pc 22 then (.iconst 0, 23, (0, 0, 0), 0, 0, []) else TN) else (bif Nat.beq pc 23 then (.ireturn, 24, (0, 0, 0), 0, 0, []) else TN))))
def tb_X12_isPlan (pc : Nat) : TI := bif Nat.ble 24 pc then TN else tt_X12_isPlan pc
theorem ok_X12_isPlan : tOK 12 (decide ("isPlan" = "<init>")) cX12_isPlan tb_X12_isPlan := tOK_of 24 tn_of (by decide +kernel)
def f_X12_isPlan (L : Lay) (σ : Sto) (a0 : Nat) (a1 : Int32) (a2 : Int32) : Option Int32 := (f_X12_isBallot L σ a0 a1).bind fun r1 => (if r1 = 0 then (ckN 1 0).bind fun _ => some 0 else (f_X12_in L σ a2 1 12).bind fun r2 => (if r2 = 0 then (ckN 1 0).bind fun _ => some 0 else (ckN 1 1).bind fun _ => some 1))
def ad_X12_isPlan : ADT := fun O L σ as k => match as with
  | [.inr (.inr (.inl (ta0, some a0))), .inl a1, .inl a2] => bif Nat.beq ta0 12 && true then (f_X12_isPlan L σ a0 a1 a2).bind fun r => k (some (vI r)) L σ else none
  | _ => none
abbrev cl_X12_isPlan {O : Type} : CLT O := (clc 149 ad_X12_isBallot (clc 147 ad_X12_in cl0))
theorem hc_X12_isPlan (G : GT) (l : Launch) {d : Nat} (hd : 3 ≤ d) {O : Type} : HCL G l (true, true) d (cl_X12_isPlan (O := O)) := (hclc (ca_X12_isBallot G l (d := 2) (Nat.le_refl _)) (fun _ => rfl) (fun _ => rfl) (by omega) (hclc (ca_X12_in G l (d := 1) (Nat.le_refl _)) (fun _ => rfl) (fun _ => rfl) (by omega) hcl0))
theorem rt_X12_isPlan : retOK (1, 0) (some .boolean) := ⟨fun _ => rfl, fun h => absurd h (by decide), fun h => absurd h (by decide)⟩
set_option maxRecDepth 20000 in
theorem ca_X12_isPlan (G : GT) (l : Launch) {d : Nat} (hd : 3 ≤ d) : CA G l 160 (true, true) d ad_X12_isPlan := by
  intro O L σ as k o h hW hok
  unfold ad_X12_isPlan at h
  split at h
  · obtain ⟨hq0, hA0⟩ := bif_s h
    obtain ⟨e0, hq1⟩ := beq_and hq0
    subst e0
    obtain ⟨r, hr, hk⟩ := Option.bind_eq_some_iff.mp hA0
    exact ca_of (q := (dcPI L σ) r) (by decide) rfl (Nat.le_of_ble_eq_true rfl) hk (fun _ => rfl) (fun _ => rfl) (exs (sp := []) (K := k0) (L0 := L) (σ0 := σ) ok_X12_isPlan rt_X12_isPlan (by omega) (hc_X12_isPlan G l hd) (hrPI rfl rfl) hk0 16 hr (inv0 hW hok))
  · cases h
def tt_X12_check (pc : Nat) : TI := bif Nat.blt pc 63 then (bif Nat.blt pc 31 then (bif Nat.blt pc 13 then (bif Nat.blt pc 6 then (bif Nat.blt pc 4 then (bif Nat.blt pc 1 then (bif Nat.beq pc 0 then (.aload_n 0, 1, (0, 0, 0), 0, 0, []) else TN) else (bif Nat.beq pc 1 then (.getfield 390, 4, (12, 39, 0), 0, 0, []) else TN)) else (bif Nat.blt pc 5 then (bif Nat.beq pc 4 then (.istore_n 3, 5, (3, 0, 0), 0, 0, []) else TN) else (bif Nat.beq pc 5 then (.aload_n 0, 6, (0, 0, 0), 0, 0, []) else TN))) else (bif Nat.blt pc 10 then (bif Nat.blt pc 7 then (bif Nat.beq pc 6 then (.iconst 0, 7, (0, 0, 0), 0, 0, []) else TN) else (bif Nat.beq pc 7 then (.putfield 390, 10, (12, 39, 0), 0, 0, []) else TN)) else (bif Nat.blt pc 11 then (bif Nat.beq pc 10 then (.aload_n 0, 11, (0, 0, 0), 0, 0, []) else TN) else (bif Nat.blt pc 12 then (bif Nat.beq pc 11 then (.iload_n 1, 12, (1, 0, 0), 0, 0, []) else TN) else (bif Nat.beq pc 12 then (.iload_n 2, 13, (2, 0, 0), 0, 0, []) else TN))))) else (bif Nat.blt pc 23 then (bif Nat.blt pc 19 then (bif Nat.blt pc 16 then (bif Nat.beq pc 13 then (.invokevirtual 384, 16, (160, 2, 12), 0, 0, []) else TN) else (bif Nat.beq pc 16 then (.ifCond .ne 6, 19, (22, 0, 0), 0, 0, []) else TN)) else (bif Nat.blt pc 21 then (bif Nat.beq pc 19 then (.ldc 156, 21, (0, 0, 0), -1000000001, 0, []) else TN) else (bif Nat.blt pc 22 then (bif Nat.beq pc 21 then (.ireturn, 22, (0, 0, 0), 0, 0, []) else TN) else (bif Nat.beq pc 22 then (.aload_n 0, 23, (0, 0, 0), 0, 0, []) else TN)))) else (bif Nat.blt pc 25 then (bif Nat.blt pc 24 then (bif Nat.beq pc 23 then (.iload_n 1, 24, (1, 0, 0), 0, 0, []) else TN) else (bif Nat.beq pc 24 then (.iload_n 2, 25, (2, 0, 0), 0, 0, []) else TN)) else (bif Nat.blt pc 28 then (bif Nat.beq pc 25 then (.invokevirtual 387, 28, (124, 2, 12), 0, 0, []) else TN) else (bif Nat.blt pc 30 then (bif Nat.beq pc 28 then (.istore 4, 30, (4, 0, 0), 0, 0, []) else TN) else (bif Nat.beq pc 30 then (.aload_n 0, 31, (0, 0, 0), 0, 0, []) else TN)))))) else (bif Nat.blt pc 48 then (bif Nat.blt pc 40 then (bif Nat.blt pc 35 then (bif Nat.blt pc 32 then (bif Nat.beq pc 31 then (.iload_n 1, 32, (1, 0, 0), 0, 0, []) else TN) else (bif Nat.beq pc 32 then (.invokevirtual 366, 35, (133, 1, 12), 0, 0, []) else TN)) else (bif Nat.blt pc 37 then (bif Nat.beq pc 35 then (.istore 5, 37, (5, 0, 0), 0, 0, []) else TN) else (bif Nat.blt pc 38 then (bif Nat.beq pc 37 then (.iconst 0, 38, (0, 0, 0), 0, 0, []) else TN) else (bif Nat.beq pc 38 then (.istore 6, 40, (6, 0, 0), 0, 0, []) else TN)))) else (bif Nat.blt pc 43 then (bif Nat.blt pc 42 then (bif Nat.beq pc 40 then (.iload 6, 42, (6, 0, 0), 0, 0, []) else TN) else (bif Nat.beq pc 42 then (.iconst 2, 43, (0, 0, 0), 2, 0, []) else TN)) else (bif Nat.blt pc 44 then (bif Nat.beq pc 43 then (.iload_n 2, 44, (2, 0, 0), 0, 0, []) else TN) else (bif Nat.blt pc 45 then (bif Nat.beq pc 44 then (.imul, 45, (0, 0, 0), 0, 0, []) else TN) else (bif Nat.beq pc 45 then (.if_icmp .ge 67, 48, (112, 0, 0), 0, 0, []) else TN))))) else (bif Nat.blt pc 57 then (bif Nat.blt pc 51 then (bif Nat.blt pc 50 then (bif Nat.beq pc 48 then (.iload 6, 50, (6, 0, 0), 0, 0, []) else TN) else (bif Nat.beq pc 50 then (.iconst 2, 51, (0, 0, 0), 2, 0, []) else TN)) else (bif Nat.blt pc 52 then (bif Nat.beq pc 51 then (.irem, 52, (0, 0, 0), 0, 0, []) else TN) else (bif Nat.blt pc 55 then (bif Nat.beq pc 52 then (.ifCond .ne 15, 55, (67, 0, 0), 0, 0, []) else TN) else (bif Nat.beq pc 55 then (.iload 4, 57, (4, 0, 0), 0, 0, []) else TN)))) else (bif Nat.blt pc 60 then (bif Nat.blt pc 59 then (bif Nat.beq pc 57 then (.iload 6, 59, (6, 0, 0), 0, 0, []) else TN) else (bif Nat.beq pc 59 then (.iconst 2, 60, (0, 0, 0), 2, 0, []) else TN)) else (bif Nat.blt pc 61 then (bif Nat.beq pc 60 then (.idiv, 61, (0, 0, 0), 0, 0, []) else TN) else (bif Nat.blt pc 62 then (bif Nat.beq pc 61 then (.ishr, 62, (0, 0, 0), 0, 0, []) else TN) else (bif Nat.beq pc 62 then (.iconst 1, 63, (0, 0, 0), 1, 0, []) else TN))))))) else (bif Nat.blt pc 98 then (bif Nat.blt pc 78 then (bif Nat.blt pc 72 then (bif Nat.blt pc 67 then (bif Nat.blt pc 64 then (bif Nat.beq pc 63 then (.iand, 64, (0, 0, 0), 0, 0, []) else TN) else (bif Nat.beq pc 64 then (.goto 17, 67, (81, 0, 0), 0, 0, []) else TN)) else (bif Nat.blt pc 68 then (bif Nat.beq pc 67 then (.aload_n 0, 68, (0, 0, 0), 0, 0, []) else TN) else (bif Nat.blt pc 70 then (bif Nat.beq pc 68 then (.iload 4, 70, (4, 0, 0), 0, 0, []) else TN) else (bif Nat.beq pc 70 then (.iload 6, 72, (6, 0, 0), 0, 0, []) else TN)))) else (bif Nat.blt pc 74 then (bif Nat.blt pc 73 then (bif Nat.beq pc 72 then (.iconst 2, 73, (0, 0, 0), 2, 0, []) else TN) else (bif Nat.beq pc 73 then (.idiv, 74, (0, 0, 0), 0, 0, []) else TN)) else (bif Nat.blt pc 75 then (bif Nat.beq pc 74 then (.iconst 1, 75, (0, 0, 0), 1, 0, []) else TN) else (bif Nat.blt pc 76 then (bif Nat.beq pc 75 then (.iadd, 76, (0, 0, 0), 0, 0, []) else TN) else (bif Nat.beq pc 76 then (.iload 5, 78, (5, 0, 0), 0, 0, []) else TN))))) else (bif Nat.blt pc 89 then (bif Nat.blt pc 83 then (bif Nat.blt pc 81 then (bif Nat.beq pc 78 then (.invokevirtual 381, 81, (141, 3, 12), 0, 0, []) else TN) else (bif Nat.beq pc 81 then (.istore 7, 83, (7, 0, 0), 0, 0, []) else TN)) else (bif Nat.blt pc 85 then (bif Nat.beq pc 83 then (.iload 6, 85, (6, 0, 0), 0, 0, []) else TN) else (bif Nat.blt pc 86 then (bif Nat.beq pc 85 then (.iload_n 3, 86, (3, 0, 0), 0, 0, []) else TN) else (bif Nat.beq pc 86 then (.if_icmp .ge 15, 89, (101, 0, 0), 0, 0, []) else TN)))) else (bif Nat.blt pc 93 then (bif Nat.blt pc 90 then (bif Nat.beq pc 89 then (.aload_n 0, 90, (0, 0, 0), 0, 0, []) else TN) else (bif Nat.beq pc 90 then (.getfield 98, 93, (12, 40, 0), 0, 0, []) else TN)) else (bif Nat.blt pc 95 then (bif Nat.beq pc 93 then (.iload 6, 95, (6, 0, 0), 0, 0, []) else TN) else (bif Nat.blt pc 96 then (bif Nat.beq pc 95 then (.iaload, 96, (0, 0, 0), 0, 0, []) else TN) else (bif Nat.beq pc 96 then (.iload 7, 98, (7, 0, 0), 0, 0, []) else TN)))))) else (bif Nat.blt pc 115 then (bif Nat.blt pc 106 then (bif Nat.blt pc 102 then (bif Nat.blt pc 101 then (bif Nat.beq pc 98 then (.if_icmp .eq 8, 101, (106, 0, 0), 0, 0, []) else TN) else (bif Nat.beq pc 101 then (.iconst 1, 102, (0, 0, 0), 1, 0, []) else TN)) else (bif Nat.blt pc 104 then (bif Nat.beq pc 102 then (.iload 6, 104, (6, 0, 0), 0, 0, []) else TN) else (bif Nat.blt pc 105 then (bif Nat.beq pc 104 then (.iadd, 105, (0, 0, 0), 0, 0, []) else TN) else (bif Nat.beq pc 105 then (.ireturn, 106, (0, 0, 0), 0, 0, []) else TN)))) else (bif Nat.blt pc 112 then (bif Nat.blt pc 109 then (bif Nat.beq pc 106 then (.iinc 6 1, 109, (6, 0, 0), 1, 0, []) else TN) else (bif Nat.beq pc 109 then (.goto (-69), 112, (40, 0, 0), 0, 0, []) else TN)) else (bif Nat.blt pc 113 then (bif Nat.beq pc 112 then (.iload_n 3, 113, (3, 0, 0), 0, 0, []) else TN) else (bif Nat.blt pc 114 then (bif Nat.beq pc 113 then (.iconst 2, 114, (0, 0, 0), 2, 0, []) else TN) else (bif Nat.beq pc 114 then (.iload_n 2, 115, (2, 0, 0), 0, 0, []) else TN))))) else (bif Nat.blt pc 122 then (bif Nat.blt pc 119 then (bif Nat.blt pc 116 then (bif Nat.beq pc 115 then (.imul, 116, (0, 0, 0), 0, 0, []) else TN) else (bif Nat.beq pc 116 then (.if_icmp .le 11, 119, (127, 0, 0), 0, 0, []) else TN)) else (bif Nat.blt pc 120 then (bif Nat.beq pc 119 then (.iconst 1, 120, (0, 0, 0), 1, 0, []) else TN) else (bif Nat.blt pc 121 then (bif Nat.beq pc 120 then (.iconst 2, 121, (0, 0, 0), 2, 0, []) else TN) else (bif Nat.beq pc 121 then (.iload_n 2, 122, (2, 0, 0), 0, 0, []) else TN)))) else (bif Nat.blt pc 124 then (bif Nat.blt pc 123 then (bif Nat.beq pc 122 then (.imul, 123, (0, 0, 0), 0, 0, []) else TN) else (bif Nat.beq pc 123 then (.iadd, 124, (0, 0, 0), 0, 0, []) else TN)) else (bif Nat.blt pc 127 then (bif Nat.beq pc 124 then (.goto 4, 127, (128, 0, 0), 0, 0, []) else TN) else (bif Nat.blt pc 128 then (bif Nat.beq pc 127 then (.iconst 0, 128, (0, 0, 0), 0, 0, []) else TN) else (bif Nat.beq pc 128 then (.ireturn, 129, (0, 0, 0), 0, 0, []) else TN)))))))
def tb_X12_check (pc : Nat) : TI := bif Nat.ble 129 pc then TN else tt_X12_check pc
theorem ok_X12_check : tOK 12 (decide ("check" = "<init>")) cX12_check tb_X12_check := tOK_of 129 tn_of (by decide +kernel)
def f_X12_check_81 (c40 : Lay → Sto → Nat → Int32 → Int32 → Int32 → Int32 → Int32 → Option (Int32 × Sto)) (L : Lay) (σ : Sto) (a0 : Nat) (a2 : Int32) (a3 : Int32) (a4 : Int32) (a5 : Int32) (a6 : Int32) (s0 : Int32) : Option (Int32 × Sto) := (if a3 ≤ a6 then some ((1 + a6), σ) else (σ.2.1 a0 40).bind fun x1 => (rI L σ x1 a6).bind fun v2 => (if v2 = s0 then c40 L σ a0 a2 a3 a4 a5 (a6 + 1) else some ((1 + a6), σ)))
def A_X12_check_81 (c : Lay → Sto → Nat → Int32 → Int32 → Int32 → Int32 → Int32 → Int32 → Option (Int32 × Sto)) (lc : List (Option AV)) (st : List AV) (L : Lay) (σ : Sto) : Option (Int32 × Sto) := match lc, st with
  | [some (.inr (.inr (.inl (ta0, some a0)))), _, some (.inl a2), some (.inl a3), some (.inl a4), some (.inl a5), some (.inl a6), _], [.inl s0] => bif Nat.beq ta0 12 && true then c L σ a0 a2 a3 a4 a5 a6 s0 else none
  | _, _ => none
def f_X12_check_40 : Nat → Lay → Sto → Nat → Int32 → Int32 → Int32 → Int32 → Int32 → Option (Int32 × Sto)
  | 0 => fun _ _ _ _ _ _ _ _ => none
  | k + 1 => fun L σ a0 a2 a3 a4 a5 a6 => (if (2 * a2) ≤ a6 then (if a3 ≤ (2 * a2) then some (0, σ) else some ((1 + (2 * a2)), σ)) else (rm a6 2).bind fun q3 => (if q3 = 0 then (dv a6 2).bind fun q6 => (f_X12_check_81 (f_X12_check_40 k)) L σ a0 a2 a3 a4 a5 a6 ((a4 >>> (q6 &&& 31)) &&& 1) else (dv a6 2).bind fun q4 => (f_X12_fundBehind L σ a0 a4 (q4 + 1) a5).bind fun r5 => (f_X12_check_81 (f_X12_check_40 k)) L σ a0 a2 a3 a4 a5 a6 r5))
def A_X12_check_40 (c : Lay → Sto → Nat → Int32 → Int32 → Int32 → Int32 → Int32 → Option (Int32 × Sto)) (lc : List (Option AV)) (st : List AV) (L : Lay) (σ : Sto) : Option (Int32 × Sto) := match lc, st with
  | [some (.inr (.inr (.inl (ta0, some a0)))), _, some (.inl a2), some (.inl a3), some (.inl a4), some (.inl a5), some (.inl a6), _], [] => bif Nat.beq ta0 12 && true then c L σ a0 a2 a3 a4 a5 a6 else none
  | _, _ => none
def f_X12_check (L : Lay) (σ : Sto) (a0 : Nat) (a1 : Int32) (a2 : Int32) : Option (Int32 × Sto) := (putI σ a0 39 0).bind fun σ7 => (f_X12_isPlan L σ7 a0 a1 a2).bind fun r8 => (if r8 = 0 then some ((-1000000001), σ7) else (f_X12_bestDays L σ7 a0 a1 a2).bind fun r9 => (f_X12_costOf L σ7 a0 a1).bind fun r10 => (f_X12_check_40 FU) L σ7 a0 a2 (σ.1 a0 39) r9 r10 0)
def ad_X12_check : ADT := fun O L σ as k => match as with
  | [.inr (.inr (.inl (ta0, some a0))), .inl a1, .inl a2] => bif Nat.beq ta0 12 && true then (f_X12_check L σ a0 a1 a2).bind fun r => k (some (vI r.1)) L r.2 else none
  | _ => none
abbrev cl_X12_check {O : Type} : CLT O := (clc 141 ad_X12_fundBehind (clc 160 ad_X12_isPlan (clc 124 ad_X12_bestDays (clc 133 ad_X12_costOf cl0))))
theorem hc_X12_check (G : GT) (l : Launch) {d : Nat} (hd : 5 ≤ d) {O : Type} : HCL G l (true, false) d (cl_X12_check (O := O)) := (hclc (ca_X12_fundBehind G l (d := 1) (Nat.le_refl _)) (fun _ => rfl) (fun e => by cases e) (by omega) (hclc (ca_X12_isPlan G l (d := 3) (Nat.le_refl _)) (fun _ => rfl) (fun e => by cases e) (by omega) (hclc (ca_X12_bestDays G l (d := 4) (Nat.le_refl _)) (fun _ => rfl) (fun e => by cases e) (by omega) (hclc (ca_X12_costOf G l (d := 3) (Nat.le_refl _)) (fun _ => rfl) (fun e => by cases e) (by omega) hcl0))))
theorem rt_X12_check : retOK (0, 0) (some .int) := ⟨fun _ => rfl, fun h => absurd h (by decide), fun h => absurd h (by decide)⟩
set_option maxRecDepth 20000 in
theorem b_X12_check_81 {G : GT} {l : Launch} {d : Nat} {L0 : Lay} {σ0 : Sto} (hd : 5 ≤ d) {c40 : Lay → Sto → Nat → Int32 → Int32 → Int32 → Int32 → Int32 → Option (Int32 × Sto)} (h40 : HF G l 12 "check" cX12_check 8 (some .int) d L0 σ0 (true, false) (dcI L0) 40 (A_X12_check_40 c40)) : HF G l 12 "check" cX12_check 8 (some .int) d L0 σ0 (true, false) (dcI L0) 81 (A_X12_check_81 (f_X12_check_81 c40)) := by
  intro lc st L σ o h hI
  unfold A_X12_check_81 at h
  split at h
  · obtain ⟨hq0, hA1⟩ := bif_s h
    obtain ⟨e0, hq1⟩ := beq_and hq0
    subst e0
    exact exs (sp := [40]) (K := (kc 40 (A_X12_check_40 c40) k0)) ok_X12_check rt_X12_check (by omega) (hc_X12_check G l hd) (hrI rfl) (hkc h40 hk0) 82 hA1 hI
  · cases h
set_option maxRecDepth 20000 in
theorem b_X12_check_40 {G : GT} {l : Launch} {d : Nat} {L0 : Lay} {σ0 : Sto} (hd : 5 ≤ d) : ∀ k : Nat, HF G l 12 "check" cX12_check 8 (some .int) d L0 σ0 (true, false) (dcI L0) 40 (A_X12_check_40 (f_X12_check_40 k))
  | 0 => by
    intro lc st L σ o h hI
    unfold A_X12_check_40 at h
    split at h
    · obtain ⟨_, hA1⟩ := bif_s h
      cases hA1
    · cases h
  | k + 1 => by
    have ih := b_X12_check_40 (G := G) (l := l) (d := d) (L0 := L0) (σ0 := σ0) hd k
    intro lc st L σ o h hI
    unfold A_X12_check_40 at h
    split at h
    · obtain ⟨hq0, hA1⟩ := bif_s h
      obtain ⟨e0, hq1⟩ := beq_and hq0
      subst e0
      exact exs (sp := [81]) (K := (kc 81 (A_X12_check_81 (f_X12_check_81 (f_X12_check_40 k))) k0)) ok_X12_check rt_X12_check (by omega) (hc_X12_check G l hd) (hrI rfl) (hkc (b_X12_check_81 hd ih) hk0) 82 hA1 hI
    · cases h
set_option maxRecDepth 20000 in
theorem ca_X12_check (G : GT) (l : Launch) {d : Nat} (hd : 5 ≤ d) : CA G l 129 (true, false) d ad_X12_check := by
  intro O L σ as k o h hW hok
  unfold ad_X12_check at h
  split at h
  · obtain ⟨hq0, hA0⟩ := bif_s h
    obtain ⟨e0, hq1⟩ := beq_and hq0
    subst e0
    obtain ⟨r, hr, hk⟩ := Option.bind_eq_some_iff.mp hA0
    exact ca_of (q := (dcI L) r) (by decide) rfl (Nat.le_of_ble_eq_true rfl) hk (fun _ => rfl) (fun e => by cases e) (exs (sp := [40]) (K := (kc 40 (A_X12_check_40 (f_X12_check_40 FU)) k0)) (L0 := L) (σ0 := σ) ok_X12_check rt_X12_check (by omega) (hc_X12_check G l hd) (hrI rfl) (hkc (b_X12_check_40 hd FU) hk0) 82 hr (inv0 hW hok))
  · cases h
def tt_X12_papers (pc : Nat) : TI := bif Nat.blt pc 21 then (bif Nat.blt pc 9 then (bif Nat.blt pc 3 then (bif Nat.blt pc 1 then (bif Nat.beq pc 0 then (.iconst 0, 1, (0, 0, 0), 0, 0, []) else TN) else (bif Nat.blt pc 2 then (bif Nat.beq pc 1 then (.istore_n 2, 2, (2, 0, 0), 0, 0, []) else TN) else (bif Nat.beq pc 2 then (.iconst 0, 3, (0, 0, 0), 0, 0, []) else TN))) else (bif Nat.blt pc 5 then (bif Nat.blt pc 4 then (bif Nat.beq pc 3 then (.istore_n 3, 4, (3, 0, 0), 0, 0, []) else TN) else (bif Nat.beq pc 4 then (.iload_n 3, 5, (3, 0, 0), 0, 0, []) else TN)) else (bif Nat.blt pc 6 then (bif Nat.beq pc 5 then (.aload_n 0, 6, (0, 0, 0), 0, 0, []) else TN) else (bif Nat.beq pc 6 then (.getfield 150, 9, (12, 4, 0), 0, 0, []) else TN)))) else (bif Nat.blt pc 14 then (bif Nat.blt pc 12 then (bif Nat.beq pc 9 then (.if_icmp .ge 32, 12, (41, 0, 0), 0, 0, []) else TN) else (bif Nat.blt pc 13 then (bif Nat.beq pc 12 then (.iload_n 2, 13, (2, 0, 0), 0, 0, []) else TN) else (bif Nat.beq pc 13 then (.aload_n 0, 14, (0, 0, 0), 0, 0, []) else TN))) else (bif Nat.blt pc 19 then (bif Nat.blt pc 17 then (bif Nat.beq pc 14 then (.getfield 52, 17, (12, 20, 0), 0, 0, []) else TN) else (bif Nat.beq pc 17 then (.bipush 40, 19, (0, 0, 0), 40, 0, []) else TN)) else (bif Nat.blt pc 20 then (bif Nat.beq pc 19 then (.iload_n 1, 20, (1, 0, 0), 0, 0, []) else TN) else (bif Nat.beq pc 20 then (.imul, 21, (0, 0, 0), 0, 0, []) else TN))))) else (bif Nat.blt pc 32 then (bif Nat.blt pc 24 then (bif Nat.blt pc 22 then (bif Nat.beq pc 21 then (.iload_n 3, 22, (3, 0, 0), 0, 0, []) else TN) else (bif Nat.blt pc 23 then (bif Nat.beq pc 22 then (.iadd, 23, (0, 0, 0), 0, 0, []) else TN) else (bif Nat.beq pc 23 then (.iaload, 24, (0, 0, 0), 0, 0, []) else TN))) else (bif Nat.blt pc 28 then (bif Nat.blt pc 25 then (bif Nat.beq pc 24 then (.iconst (-1), 25, (0, 0, 0), -1, 0, []) else TN) else (bif Nat.beq pc 25 then (.if_icmp .eq 7, 28, (32, 0, 0), 0, 0, []) else TN)) else (bif Nat.blt pc 29 then (bif Nat.beq pc 28 then (.iconst 1, 29, (0, 0, 0), 1, 0, []) else TN) else (bif Nat.beq pc 29 then (.goto 4, 32, (33, 0, 0), 0, 0, []) else TN)))) else (bif Nat.blt pc 35 then (bif Nat.blt pc 33 then (bif Nat.beq pc 32 then (.iconst 0, 33, (0, 0, 0), 0, 0, []) else TN) else (bif Nat.blt pc 34 then (bif Nat.beq pc 33 then (.iadd, 34, (0, 0, 0), 0, 0, []) else TN) else (bif Nat.beq pc 34 then (.istore_n 2, 35, (2, 0, 0), 0, 0, []) else TN))) else (bif Nat.blt pc 41 then (bif Nat.blt pc 38 then (bif Nat.beq pc 35 then (.iinc 3 1, 38, (3, 0, 0), 1, 0, []) else TN) else (bif Nat.beq pc 38 then (.goto (-34), 41, (4, 0, 0), 0, 0, []) else TN)) else (bif Nat.blt pc 42 then (bif Nat.beq pc 41 then (.iload_n 2, 42, (2, 0, 0), 0, 0, []) else TN) else (bif Nat.beq pc 42 then (.ireturn, 43, (0, 0, 0), 0, 0, []) else TN)))))
def tb_X12_papers (pc : Nat) : TI := bif Nat.ble 43 pc then TN else tt_X12_papers pc
theorem ok_X12_papers : tOK 12 (decide ("papers" = "<init>")) cX12_papers tb_X12_papers := tOK_of 43 tn_of (by decide +kernel)
def f_X12_papers_33 (c4 : Lay → Sto → Nat → Int32 → Int32 → Int32 → Option Int32) (L : Lay) (σ : Sto) (a0 : Nat) (a1 : Int32) (a3 : Int32) (s0 : Int32) (s1 : Int32) : Option Int32 := c4 L σ a0 a1 (s1 + s0) (a3 + 1)
def A_X12_papers_33 (c : Lay → Sto → Nat → Int32 → Int32 → Int32 → Int32 → Option Int32) (lc : List (Option AV)) (st : List AV) (L : Lay) (σ : Sto) : Option Int32 := match lc, st with
  | [some (.inr (.inr (.inl (ta0, some a0)))), some (.inl a1), _, some (.inl a3)], [.inl s0, .inl s1] => bif Nat.beq ta0 12 && true then c L σ a0 a1 a3 s0 s1 else none
  | _, _ => none
def f_X12_papers_4 : Nat → Lay → Sto → Nat → Int32 → Int32 → Int32 → Option Int32
  | 0 => fun _ _ _ _ _ _ => none
  | k + 1 => fun L σ a0 a1 a2 a3 => (if (σ.1 a0 4) ≤ a3 then some a2 else (σ.2.1 a0 20).bind fun x1 => (rI L σ x1 ((40 * a1) + a3)).bind fun v2 => (if v2 = (-1) then (f_X12_papers_33 (f_X12_papers_4 k)) L σ a0 a1 a3 0 a2 else (f_X12_papers_33 (f_X12_papers_4 k)) L σ a0 a1 a3 1 a2))
def A_X12_papers_4 (c : Lay → Sto → Nat → Int32 → Int32 → Int32 → Option Int32) (lc : List (Option AV)) (st : List AV) (L : Lay) (σ : Sto) : Option Int32 := match lc, st with
  | [some (.inr (.inr (.inl (ta0, some a0)))), some (.inl a1), some (.inl a2), some (.inl a3)], [] => bif Nat.beq ta0 12 && true then c L σ a0 a1 a2 a3 else none
  | _, _ => none
def f_X12_papers (L : Lay) (σ : Sto) (a0 : Nat) (a1 : Int32) : Option Int32 := (f_X12_papers_4 FU) L σ a0 a1 0 0
def ad_X12_papers : ADT := fun O L σ as k => match as with
  | [.inr (.inr (.inl (ta0, some a0))), .inl a1] => bif Nat.beq ta0 12 && true then (f_X12_papers L σ a0 a1).bind fun r => k (some (vI r)) L σ else none
  | _ => none
abbrev cl_X12_papers {O : Type} : CLT O := cl0
theorem hc_X12_papers (G : GT) (l : Launch) {d : Nat} (hd : 1 ≤ d) {O : Type} : HCL G l (true, true) d (cl_X12_papers (O := O)) := hcl0
theorem rt_X12_papers : retOK (0, 0) (some .int) := ⟨fun _ => rfl, fun h => absurd h (by decide), fun h => absurd h (by decide)⟩
set_option maxRecDepth 20000 in
theorem b_X12_papers_33 {G : GT} {l : Launch} {d : Nat} {L0 : Lay} {σ0 : Sto} (hd : 1 ≤ d) {c4 : Lay → Sto → Nat → Int32 → Int32 → Int32 → Option Int32} (h4 : HF G l 12 "papers" cX12_papers 4 (some .int) d L0 σ0 (true, true) (dcPI L0 σ0) 4 (A_X12_papers_4 c4)) : HF G l 12 "papers" cX12_papers 4 (some .int) d L0 σ0 (true, true) (dcPI L0 σ0) 33 (A_X12_papers_33 (f_X12_papers_33 c4)) := by
  intro lc st L σ o h hI
  unfold A_X12_papers_33 at h
  split at h
  · obtain ⟨hq0, hA1⟩ := bif_s h
    obtain ⟨e0, hq1⟩ := beq_and hq0
    subst e0
    exact exs (sp := [4]) (K := (kc 4 (A_X12_papers_4 c4) k0)) ok_X12_papers rt_X12_papers (by omega) (hc_X12_papers G l hd) (hrPI rfl rfl) (hkc h4 hk0) 31 hA1 hI
  · cases h
set_option maxRecDepth 20000 in
theorem b_X12_papers_4 {G : GT} {l : Launch} {d : Nat} {L0 : Lay} {σ0 : Sto} (hd : 1 ≤ d) : ∀ k : Nat, HF G l 12 "papers" cX12_papers 4 (some .int) d L0 σ0 (true, true) (dcPI L0 σ0) 4 (A_X12_papers_4 (f_X12_papers_4 k))
  | 0 => by
    intro lc st L σ o h hI
    unfold A_X12_papers_4 at h
    split at h
    · obtain ⟨_, hA1⟩ := bif_s h
      cases hA1
    · cases h
  | k + 1 => by
    have ih := b_X12_papers_4 (G := G) (l := l) (d := d) (L0 := L0) (σ0 := σ0) hd k
    intro lc st L σ o h hI
    unfold A_X12_papers_4 at h
    split at h
    · obtain ⟨hq0, hA1⟩ := bif_s h
      obtain ⟨e0, hq1⟩ := beq_and hq0
      subst e0
      exact exs (sp := [33]) (K := (kc 33 (A_X12_papers_33 (f_X12_papers_33 (f_X12_papers_4 k))) k0)) ok_X12_papers rt_X12_papers (by omega) (hc_X12_papers G l hd) (hrPI rfl rfl) (hkc (b_X12_papers_33 hd ih) hk0) 31 hA1 hI
    · cases h
set_option maxRecDepth 20000 in
theorem ca_X12_papers (G : GT) (l : Launch) {d : Nat} (hd : 1 ≤ d) : CA G l 191 (true, true) d ad_X12_papers := by
  intro O L σ as k o h hW hok
  unfold ad_X12_papers at h
  split at h
  · obtain ⟨hq0, hA0⟩ := bif_s h
    obtain ⟨e0, hq1⟩ := beq_and hq0
    subst e0
    obtain ⟨r, hr, hk⟩ := Option.bind_eq_some_iff.mp hA0
    exact ca_of (q := (dcPI L σ) r) (by decide) rfl (Nat.le_of_ble_eq_true rfl) hk (fun _ => rfl) (fun _ => rfl) (exs (sp := [4]) (K := (kc 4 (A_X12_papers_4 (f_X12_papers_4 FU)) k0)) (L0 := L) (σ0 := σ) ok_X12_papers rt_X12_papers (by omega) (hc_X12_papers G l hd) (hrPI rfl rfl) (hkc (b_X12_papers_4 hd FU) hk0) 31 hr (inv0 hW hok))
  · cases h
def tt_X12_close (pc : Nat) : TI := bif Nat.blt pc 21 then (bif Nat.blt pc 11 then (bif Nat.blt pc 5 then (bif Nat.blt pc 1 then (bif Nat.beq pc 0 then (.aload_n 0, 1, (0, 0, 0), 0, 0, []) else TN) else (bif Nat.blt pc 2 then (bif Nat.beq pc 1 then (.iload_n 1, 2, (1, 0, 0), 0, 0, []) else TN) else (bif Nat.beq pc 2 then (.invokevirtual 205, 5, (149, 1, 12), 0, 0, []) else TN))) else (bif Nat.blt pc 8 then (bif Nat.beq pc 5 then (.ifCond .ne 6, 8, (11, 0, 0), 0, 0, []) else TN) else (bif Nat.blt pc 10 then (bif Nat.beq pc 8 then (.ldc 156, 10, (0, 0, 0), -1000000001, 0, []) else TN) else (bif Nat.beq pc 10 then (.ireturn, 11, (0, 0, 0), 0, 0, []) else TN)))) else (bif Nat.blt pc 16 then (bif Nat.blt pc 12 then (bif Nat.beq pc 11 then (.aload_n 0, 12, (0, 0, 0), 0, 0, []) else TN) else (bif Nat.blt pc 15 then (bif Nat.beq pc 12 then (.getfield 49, 15, (12, 19, 0), 0, 0, []) else TN) else (bif Nat.beq pc 15 then (.iload_n 1, 16, (1, 0, 0), 0, 0, []) else TN))) else (bif Nat.blt pc 17 then (bif Nat.beq pc 16 then (.iaload, 17, (0, 0, 0), 0, 0, []) else TN) else (bif Nat.blt pc 18 then (bif Nat.beq pc 17 then (.iconst (-1), 18, (0, 0, 0), -1, 0, []) else TN) else (bif Nat.beq pc 18 then (.if_icmp .eq 6, 21, (24, 0, 0), 0, 0, []) else TN))))) else (bif Nat.blt pc 30 then (bif Nat.blt pc 25 then (bif Nat.blt pc 23 then (bif Nat.beq pc 21 then (.ldc 176, 23, (0, 0, 0), -1000000002, 0, []) else TN) else (bif Nat.blt pc 24 then (bif Nat.beq pc 23 then (.ireturn, 24, (0, 0, 0), 0, 0, []) else TN) else (bif Nat.beq pc 24 then (.aload_n 0, 25, (0, 0, 0), 0, 0, []) else TN))) else (bif Nat.blt pc 28 then (bif Nat.beq pc 25 then (.getfield 49, 28, (12, 19, 0), 0, 0, []) else TN) else (bif Nat.blt pc 29 then (bif Nat.beq pc 28 then (.iload_n 1, 29, (1, 0, 0), 0, 0, []) else TN) else (bif Nat.beq pc 29 then (.aload_n 0, 30, (0, 0, 0), 0, 0, []) else TN)))) else (bif Nat.blt pc 35 then (bif Nat.blt pc 33 then (bif Nat.beq pc 30 then (.getfield 166, 33, (12, 1, 0), 0, 0, []) else TN) else (bif Nat.blt pc 34 then (bif Nat.beq pc 33 then (.iastore, 34, (0, 0, 0), 0, 0, []) else TN) else (bif Nat.beq pc 34 then (.aload_n 0, 35, (0, 0, 0), 0, 0, []) else TN))) else (bif Nat.blt pc 36 then (bif Nat.beq pc 35 then (.iload_n 1, 36, (1, 0, 0), 0, 0, []) else TN) else (bif Nat.blt pc 39 then (bif Nat.beq pc 36 then (.invokevirtual 208, 39, (191, 1, 12), 0, 0, []) else TN) else (bif Nat.beq pc 39 then (.ireturn, 40, (0, 0, 0), 0, 0, []) else TN)))))
def tb_X12_close (pc : Nat) : TI := bif Nat.ble 40 pc then TN else tt_X12_close pc
theorem ok_X12_close : tOK 12 (decide ("close" = "<init>")) cX12_close tb_X12_close := tOK_of 40 tn_of (by decide +kernel)
def f_X12_close (L : Lay) (σ : Sto) (a0 : Nat) (a1 : Int32) : Option (Int32 × Sto) := (f_X12_isBallot L σ a0 a1).bind fun r1 => (if r1 = 0 then some ((-1000000001), σ) else (σ.2.1 a0 19).bind fun x2 => (rI L σ x2 a1).bind fun v3 => (if v3 = (-1) then (σ.2.1 a0 19).bind fun x4 => (wI L σ x4 a1 (σ.1 a0 1)).bind fun σ5 => (f_X12_papers L σ5 a0 a1).bind fun r6 => some (r6, σ5) else some ((-1000000002), σ)))
def ad_X12_close : ADT := fun O L σ as k => match as with
  | [.inr (.inr (.inl (ta0, some a0))), .inl a1] => bif Nat.beq ta0 12 && true then (f_X12_close L σ a0 a1).bind fun r => k (some (vI r.1)) L r.2 else none
  | _ => none
abbrev cl_X12_close {O : Type} : CLT O := (clc 149 ad_X12_isBallot (clc 191 ad_X12_papers cl0))
theorem hc_X12_close (G : GT) (l : Launch) {d : Nat} (hd : 3 ≤ d) {O : Type} : HCL G l (true, false) d (cl_X12_close (O := O)) := (hclc (ca_X12_isBallot G l (d := 2) (Nat.le_refl _)) (fun _ => rfl) (fun e => by cases e) (by omega) (hclc (ca_X12_papers G l (d := 1) (Nat.le_refl _)) (fun _ => rfl) (fun e => by cases e) (by omega) hcl0))
theorem rt_X12_close : retOK (0, 0) (some .int) := ⟨fun _ => rfl, fun h => absurd h (by decide), fun h => absurd h (by decide)⟩
set_option maxRecDepth 20000 in
theorem ca_X12_close (G : GT) (l : Launch) {d : Nat} (hd : 3 ≤ d) : CA G l 130 (true, false) d ad_X12_close := by
  intro O L σ as k o h hW hok
  unfold ad_X12_close at h
  split at h
  · obtain ⟨hq0, hA0⟩ := bif_s h
    obtain ⟨e0, hq1⟩ := beq_and hq0
    subst e0
    obtain ⟨r, hr, hk⟩ := Option.bind_eq_some_iff.mp hA0
    exact ca_of (q := (dcI L) r) (by decide) rfl (Nat.le_of_ble_eq_true rfl) hk (fun _ => rfl) (fun e => by cases e) (exs (sp := []) (K := k0) (L0 := L) (σ0 := σ) ok_X12_close rt_X12_close (by omega) (hc_X12_close G l hd) (hrI rfl) hk0 27 hr (inv0 hW hok))
  · cases h
def tt_X12_isSheet (pc : Nat) : TI := bif Nat.blt pc 2 then (bif Nat.blt pc 1 then (bif Nat.beq pc 0 then (.iload_n 0, 1, (0, 0, 0), 0, 0, []) else TN) else (bif Nat.beq pc 1 then (.iconst 0, 2, (0, 0, 0), 0, 0, []) else TN)) else (bif Nat.blt pc 3 then (bif Nat.beq pc 2 then (.iconst 1, 3, (0, 0, 0), 1, 0, []) else TN) else (bif Nat.blt pc 6 then (bif Nat.beq pc 3 then (.invokestatic 146, 6, (147, 3, 0), 0, 0, []) else TN) else (bif Nat.beq pc 6 then (.ireturn, 7, (0, 0, 0), 0, 0, []) else TN)))
def tb_X12_isSheet (pc : Nat) : TI := bif Nat.ble 7 pc then TN else tt_X12_isSheet pc
theorem ok_X12_isSheet : tOK 12 (decide ("isSheet" = "<init>")) cX12_isSheet tb_X12_isSheet := tOK_of 7 tn_of (by decide +kernel)
def f_X12_isSheet (L : Lay) (σ : Sto) (a0 : Int32) : Option Int32 := (f_X12_in L σ a0 0 1).bind fun r1 => (ckN 1 r1).bind fun _ => some r1
def ad_X12_isSheet : ADT := fun O L σ as k => match as with
  | [.inl a0] => (f_X12_isSheet L σ a0).bind fun r => k (some (vI r)) L σ
  | _ => none
abbrev cl_X12_isSheet {O : Type} : CLT O := (clc 147 ad_X12_in cl0)
theorem hc_X12_isSheet (G : GT) (l : Launch) {d : Nat} (hd : 2 ≤ d) {O : Type} : HCL G l (true, true) d (cl_X12_isSheet (O := O)) := (hclc (ca_X12_in G l (d := 1) (Nat.le_refl _)) (fun _ => rfl) (fun _ => rfl) (by omega) hcl0)
theorem rt_X12_isSheet : retOK (1, 0) (some .boolean) := ⟨fun _ => rfl, fun h => absurd h (by decide), fun h => absurd h (by decide)⟩
set_option maxRecDepth 20000 in
theorem ca_X12_isSheet (G : GT) (l : Launch) {d : Nat} (hd : 2 ≤ d) : CA G l 161 (true, true) d ad_X12_isSheet := by
  intro O L σ as k o h hW hok
  unfold ad_X12_isSheet at h
  split at h
  · have hA0 := h
    obtain ⟨r, hr, hk⟩ := Option.bind_eq_some_iff.mp hA0
    exact ca_of (q := (dcPI L σ) r) (by decide) rfl (Nat.le_of_ble_eq_true rfl) hk (fun _ => rfl) (fun _ => rfl) (exs (sp := []) (K := k0) (L0 := L) (σ0 := σ) ok_X12_isSheet rt_X12_isSheet (by omega) (hc_X12_isSheet G l hd) (hrPI rfl rfl) hk0 8 hr (inv0 hW hok))
  · cases h
def tt_X12_copy (pc : Nat) : TI := bif Nat.blt pc 84 then (bif Nat.blt pc 40 then (bif Nat.blt pc 22 then (bif Nat.blt pc 11 then (bif Nat.blt pc 4 then (bif Nat.blt pc 1 then (bif Nat.beq pc 0 then (.iload_n 1, 1, (1, 0, 0), 0, 0, []) else TN) else (bif Nat.beq pc 1 then (.invokestatic 185, 4, (161, 1, 0), 0, 0, []) else TN)) else (bif Nat.blt pc 7 then (bif Nat.beq pc 4 then (.ifCond .eq 10, 7, (14, 0, 0), 0, 0, []) else TN) else (bif Nat.blt pc 8 then (bif Nat.beq pc 7 then (.iload_n 3, 8, (3, 0, 0), 0, 0, []) else TN) else (bif Nat.beq pc 8 then (.invokestatic 185, 11, (161, 1, 0), 0, 0, []) else TN)))) else (bif Nat.blt pc 17 then (bif Nat.blt pc 14 then (bif Nat.beq pc 11 then (.ifCond .ne 6, 14, (17, 0, 0), 0, 0, []) else TN) else (bif Nat.blt pc 16 then (bif Nat.beq pc 14 then (.ldc 156, 16, (0, 0, 0), -1000000001, 0, []) else TN) else (bif Nat.beq pc 16 then (.ireturn, 17, (0, 0, 0), 0, 0, []) else TN))) else (bif Nat.blt pc 18 then (bif Nat.beq pc 17 then (.aload_n 0, 18, (0, 0, 0), 0, 0, []) else TN) else (bif Nat.blt pc 21 then (bif Nat.beq pc 18 then (.getfield 101, 21, (12, 41, 0), 0, 0, []) else TN) else (bif Nat.beq pc 21 then (.iload_n 1, 22, (1, 0, 0), 0, 0, []) else TN))))) else (bif Nat.blt pc 31 then (bif Nat.blt pc 24 then (bif Nat.blt pc 23 then (bif Nat.beq pc 22 then (.iaload, 23, (0, 0, 0), 0, 0, []) else TN) else (bif Nat.beq pc 23 then (.iconst (-1), 24, (0, 0, 0), -1, 0, []) else TN)) else (bif Nat.blt pc 27 then (bif Nat.beq pc 24 then (.if_icmp .eq 13, 27, (37, 0, 0), 0, 0, []) else TN) else (bif Nat.blt pc 28 then (bif Nat.beq pc 27 then (.aload_n 0, 28, (0, 0, 0), 0, 0, []) else TN) else (bif Nat.beq pc 28 then (.getfield 101, 31, (12, 41, 0), 0, 0, []) else TN)))) else (bif Nat.blt pc 34 then (bif Nat.blt pc 32 then (bif Nat.beq pc 31 then (.iload_n 3, 32, (3, 0, 0), 0, 0, []) else TN) else (bif Nat.blt pc 33 then (bif Nat.beq pc 32 then (.iaload, 33, (0, 0, 0), 0, 0, []) else TN) else (bif Nat.beq pc 33 then (.iconst (-1), 34, (0, 0, 0), -1, 0, []) else TN))) else (bif Nat.blt pc 37 then (bif Nat.beq pc 34 then (.if_icmp .ne 6, 37, (40, 0, 0), 0, 0, []) else TN) else (bif Nat.blt pc 39 then (bif Nat.beq pc 37 then (.ldc 188, 39, (0, 0, 0), -1000000011, 0, []) else TN) else (bif Nat.beq pc 39 then (.ireturn, 40, (0, 0, 0), 0, 0, []) else TN)))))) else (bif Nat.blt pc 62 then (bif Nat.blt pc 51 then (bif Nat.blt pc 45 then (bif Nat.blt pc 42 then (bif Nat.beq pc 40 then (.iload 5, 42, (5, 0, 0), 0, 0, []) else TN) else (bif Nat.beq pc 42 then (.ifCond .lt 39, 45, (81, 0, 0), 0, 0, []) else TN)) else (bif Nat.blt pc 46 then (bif Nat.beq pc 45 then (.iload_n 2, 46, (2, 0, 0), 0, 0, []) else TN) else (bif Nat.blt pc 49 then (bif Nat.beq pc 46 then (.ifCond .lt 35, 49, (81, 0, 0), 0, 0, []) else TN) else (bif Nat.beq pc 49 then (.iload 4, 51, (4, 0, 0), 0, 0, []) else TN)))) else (bif Nat.blt pc 57 then (bif Nat.blt pc 54 then (bif Nat.beq pc 51 then (.ifCond .lt 30, 54, (81, 0, 0), 0, 0, []) else TN) else (bif Nat.blt pc 56 then (bif Nat.beq pc 54 then (.iload 5, 56, (5, 0, 0), 0, 0, []) else TN) else (bif Nat.beq pc 56 then (.aload_n 0, 57, (0, 0, 0), 0, 0, []) else TN))) else (bif Nat.blt pc 60 then (bif Nat.beq pc 57 then (.getfield 101, 60, (12, 41, 0), 0, 0, []) else TN) else (bif Nat.blt pc 61 then (bif Nat.beq pc 60 then (.iload_n 1, 61, (1, 0, 0), 0, 0, []) else TN) else (bif Nat.beq pc 61 then (.iaload, 62, (0, 0, 0), 0, 0, []) else TN))))) else (bif Nat.blt pc 73 then (bif Nat.blt pc 67 then (bif Nat.blt pc 63 then (bif Nat.beq pc 62 then (.iload_n 2, 63, (2, 0, 0), 0, 0, []) else TN) else (bif Nat.blt pc 64 then (bif Nat.beq pc 63 then (.isub, 64, (0, 0, 0), 0, 0, []) else TN) else (bif Nat.beq pc 64 then (.if_icmp .gt 17, 67, (81, 0, 0), 0, 0, []) else TN))) else (bif Nat.blt pc 69 then (bif Nat.beq pc 67 then (.iload 5, 69, (5, 0, 0), 0, 0, []) else TN) else (bif Nat.blt pc 70 then (bif Nat.beq pc 69 then (.aload_n 0, 70, (0, 0, 0), 0, 0, []) else TN) else (bif Nat.beq pc 70 then (.getfield 101, 73, (12, 41, 0), 0, 0, []) else TN)))) else (bif Nat.blt pc 77 then (bif Nat.blt pc 74 then (bif Nat.beq pc 73 then (.iload_n 3, 74, (3, 0, 0), 0, 0, []) else TN) else (bif Nat.blt pc 75 then (bif Nat.beq pc 74 then (.iaload, 75, (0, 0, 0), 0, 0, []) else TN) else (bif Nat.beq pc 75 then (.iload 4, 77, (4, 0, 0), 0, 0, []) else TN))) else (bif Nat.blt pc 78 then (bif Nat.beq pc 77 then (.isub, 78, (0, 0, 0), 0, 0, []) else TN) else (bif Nat.blt pc 81 then (bif Nat.beq pc 78 then (.if_icmp .le 7, 81, (85, 0, 0), 0, 0, []) else TN) else (bif Nat.beq pc 81 then (.ldc_w 394, 84, (0, 0, 0), -1000000013, 0, []) else TN))))))) else (bif Nat.blt pc 122 then (bif Nat.blt pc 105 then (bif Nat.blt pc 92 then (bif Nat.blt pc 86 then (bif Nat.blt pc 85 then (bif Nat.beq pc 84 then (.ireturn, 85, (0, 0, 0), 0, 0, []) else TN) else (bif Nat.beq pc 85 then (.iconst 0, 86, (0, 0, 0), 0, 0, []) else TN)) else (bif Nat.blt pc 88 then (bif Nat.beq pc 86 then (.istore 6, 88, (6, 0, 0), 0, 0, []) else TN) else (bif Nat.blt pc 90 then (bif Nat.beq pc 88 then (.iload 6, 90, (6, 0, 0), 0, 0, []) else TN) else (bif Nat.beq pc 90 then (.iload 5, 92, (5, 0, 0), 0, 0, []) else TN)))) else (bif Nat.blt pc 99 then (bif Nat.blt pc 95 then (bif Nat.beq pc 92 then (.if_icmp .ge 30, 95, (122, 0, 0), 0, 0, []) else TN) else (bif Nat.blt pc 96 then (bif Nat.beq pc 95 then (.aload_n 0, 96, (0, 0, 0), 0, 0, []) else TN) else (bif Nat.beq pc 96 then (.getfield 136, 99, (12, 62, 0), 0, 0, []) else TN))) else (bif Nat.blt pc 101 then (bif Nat.beq pc 99 then (.iload 6, 101, (6, 0, 0), 0, 0, []) else TN) else (bif Nat.blt pc 102 then (bif Nat.beq pc 101 then (.aload_n 0, 102, (0, 0, 0), 0, 0, []) else TN) else (bif Nat.beq pc 102 then (.getfield 104, 105, (12, 42, 0), 0, 0, []) else TN))))) else (bif Nat.blt pc 111 then (bif Nat.blt pc 108 then (bif Nat.blt pc 107 then (bif Nat.beq pc 105 then (.bipush 40, 107, (0, 0, 0), 40, 0, []) else TN) else (bif Nat.beq pc 107 then (.iload_n 1, 108, (1, 0, 0), 0, 0, []) else TN)) else (bif Nat.blt pc 109 then (bif Nat.beq pc 108 then (.imul, 109, (0, 0, 0), 0, 0, []) else TN) else (bif Nat.blt pc 110 then (bif Nat.beq pc 109 then (.iload_n 2, 110, (2, 0, 0), 0, 0, []) else TN) else (bif Nat.beq pc 110 then (.iadd, 111, (0, 0, 0), 0, 0, []) else TN)))) else (bif Nat.blt pc 115 then (bif Nat.blt pc 113 then (bif Nat.beq pc 111 then (.iload 6, 113, (6, 0, 0), 0, 0, []) else TN) else (bif Nat.blt pc 114 then (bif Nat.beq pc 113 then (.iadd, 114, (0, 0, 0), 0, 0, []) else TN) else (bif Nat.beq pc 114 then (.saload, 115, (0, 0, 0), 0, 0, []) else TN))) else (bif Nat.blt pc 116 then (bif Nat.beq pc 115 then (.sastore, 116, (0, 0, 0), 0, 0, []) else TN) else (bif Nat.blt pc 119 then (bif Nat.beq pc 116 then (.iinc 6 1, 119, (6, 0, 0), 1, 0, []) else TN) else (bif Nat.beq pc 119 then (.goto (-31), 122, (88, 0, 0), 0, 0, []) else TN)))))) else (bif Nat.blt pc 142 then (bif Nat.blt pc 132 then (bif Nat.blt pc 125 then (bif Nat.blt pc 123 then (bif Nat.beq pc 122 then (.iconst 0, 123, (0, 0, 0), 0, 0, []) else TN) else (bif Nat.beq pc 123 then (.istore 6, 125, (6, 0, 0), 0, 0, []) else TN)) else (bif Nat.blt pc 127 then (bif Nat.beq pc 125 then (.iload 6, 127, (6, 0, 0), 0, 0, []) else TN) else (bif Nat.blt pc 129 then (bif Nat.beq pc 127 then (.iload 5, 129, (5, 0, 0), 0, 0, []) else TN) else (bif Nat.beq pc 129 then (.if_icmp .ge 31, 132, (160, 0, 0), 0, 0, []) else TN)))) else (bif Nat.blt pc 138 then (bif Nat.blt pc 133 then (bif Nat.beq pc 132 then (.aload_n 0, 133, (0, 0, 0), 0, 0, []) else TN) else (bif Nat.blt pc 136 then (bif Nat.beq pc 133 then (.getfield 104, 136, (12, 42, 0), 0, 0, []) else TN) else (bif Nat.beq pc 136 then (.bipush 40, 138, (0, 0, 0), 40, 0, []) else TN))) else (bif Nat.blt pc 139 then (bif Nat.beq pc 138 then (.iload_n 3, 139, (3, 0, 0), 0, 0, []) else TN) else (bif Nat.blt pc 140 then (bif Nat.beq pc 139 then (.imul, 140, (0, 0, 0), 0, 0, []) else TN) else (bif Nat.beq pc 140 then (.iload 4, 142, (4, 0, 0), 0, 0, []) else TN))))) else (bif Nat.blt pc 152 then (bif Nat.blt pc 146 then (bif Nat.blt pc 143 then (bif Nat.beq pc 142 then (.iadd, 143, (0, 0, 0), 0, 0, []) else TN) else (bif Nat.blt pc 145 then (bif Nat.beq pc 143 then (.iload 6, 145, (6, 0, 0), 0, 0, []) else TN) else (bif Nat.beq pc 145 then (.iadd, 146, (0, 0, 0), 0, 0, []) else TN))) else (bif Nat.blt pc 147 then (bif Nat.beq pc 146 then (.aload_n 0, 147, (0, 0, 0), 0, 0, []) else TN) else (bif Nat.blt pc 150 then (bif Nat.beq pc 147 then (.getfield 136, 150, (12, 62, 0), 0, 0, []) else TN) else (bif Nat.beq pc 150 then (.iload 6, 152, (6, 0, 0), 0, 0, []) else TN)))) else (bif Nat.blt pc 157 then (bif Nat.blt pc 153 then (bif Nat.beq pc 152 then (.saload, 153, (0, 0, 0), 0, 0, []) else TN) else (bif Nat.blt pc 154 then (bif Nat.beq pc 153 then (.sastore, 154, (0, 0, 0), 0, 0, []) else TN) else (bif Nat.beq pc 154 then (.iinc 6 1, 157, (6, 0, 0), 1, 0, []) else TN))) else (bif Nat.blt pc 160 then (bif Nat.beq pc 157 then (.goto (-32), 160, (125, 0, 0), 0, 0, []) else TN) else (bif Nat.blt pc 162 then (bif Nat.beq pc 160 then (.iload 5, 162, (5, 0, 0), 0, 0, []) else TN) else (bif Nat.beq pc 162 then (.ireturn, 163, (0, 0, 0), 0, 0, []) else TN)))))))
def tb_X12_copy (pc : Nat) : TI := bif Nat.ble 163 pc then TN else tt_X12_copy pc
theorem ok_X12_copy : tOK 12 (decide ("copy" = "<init>")) cX12_copy tb_X12_copy := tOK_of 163 tn_of (by decide +kernel)
def f_X12_copy_125 : Nat → Lay → Sto → Nat → Int32 → Int32 → Int32 → Int32 → Option (Int32 × Sto)
  | 0 => fun _ _ _ _ _ _ _ => none
  | k + 1 => fun L σ a0 a3 a4 a5 a6 => (if a5 ≤ a6 then some (a5, σ) else (σ.2.1 a0 62).bind fun x1 => (rI L σ x1 a6).bind fun v2 => (σ.2.1 a0 42).bind fun x3 => (wI L σ x3 (((40 * a3) + a4) + a6) (nSh v2)).bind fun σ4 => (f_X12_copy_125 k) L σ4 a0 a3 a4 a5 (a6 + 1))
def A_X12_copy_125 (c : Lay → Sto → Nat → Int32 → Int32 → Int32 → Int32 → Option (Int32 × Sto)) (lc : List (Option AV)) (st : List AV) (L : Lay) (σ : Sto) : Option (Int32 × Sto) := match lc, st with
  | [some (.inr (.inr (.inl (ta0, some a0)))), _, _, some (.inl a3), some (.inl a4), some (.inl a5), some (.inl a6)], [] => bif Nat.beq ta0 12 && true then c L σ a0 a3 a4 a5 a6 else none
  | _, _ => none
def f_X12_copy_88 : Nat → Lay → Sto → Nat → Int32 → Int32 → Int32 → Int32 → Int32 → Int32 → Option (Int32 × Sto)
  | 0 => fun _ _ _ _ _ _ _ _ _ => none
  | k + 1 => fun L σ a0 a1 a2 a3 a4 a5 a6 => (if a5 ≤ a6 then (f_X12_copy_125 FU) L σ a0 a3 a4 a5 0 else (σ.2.1 a0 42).bind fun x5 => (rI L σ x5 (((40 * a1) + a2) + a6)).bind fun v6 => (σ.2.1 a0 62).bind fun x7 => (wI L σ x7 a6 (nSh v6)).bind fun σ8 => (f_X12_copy_88 k) L σ8 a0 a1 a2 a3 a4 a5 (a6 + 1))
def A_X12_copy_88 (c : Lay → Sto → Nat → Int32 → Int32 → Int32 → Int32 → Int32 → Int32 → Option (Int32 × Sto)) (lc : List (Option AV)) (st : List AV) (L : Lay) (σ : Sto) : Option (Int32 × Sto) := match lc, st with
  | [some (.inr (.inr (.inl (ta0, some a0)))), some (.inl a1), some (.inl a2), some (.inl a3), some (.inl a4), some (.inl a5), some (.inl a6)], [] => bif Nat.beq ta0 12 && true then c L σ a0 a1 a2 a3 a4 a5 a6 else none
  | _, _ => none
def f_X12_copy (L : Lay) (σ : Sto) (a0 : Nat) (a1 : Int32) (a2 : Int32) (a3 : Int32) (a4 : Int32) (a5 : Int32) : Option (Int32 × Sto) := (f_X12_isSheet L σ a1).bind fun r9 => (if r9 = 0 then some ((-1000000001), σ) else (f_X12_isSheet L σ a3).bind fun r10 => (if r10 = 0 then some ((-1000000001), σ) else (σ.2.1 a0 41).bind fun x11 => (rI L σ x11 a1).bind fun v12 => (if v12 = (-1) then some ((-1000000011), σ) else (σ.2.1 a0 41).bind fun x13 => (rI L σ x13 a3).bind fun v14 => (if v14 = (-1) then some ((-1000000011), σ) else (if a5 < 0 then some ((-1000000013), σ) else (if a2 < 0 then some ((-1000000013), σ) else (if a4 < 0 then some ((-1000000013), σ) else (σ.2.1 a0 41).bind fun x15 => (rI L σ x15 a1).bind fun v16 => (if (v16 - a2) < a5 then some ((-1000000013), σ) else (σ.2.1 a0 41).bind fun x17 => (rI L σ x17 a3).bind fun v18 => (if a5 ≤ (v18 - a4) then (f_X12_copy_88 FU) L σ a0 a1 a2 a3 a4 a5 0 else some ((-1000000013), σ))))))))))
def ad_X12_copy : ADT := fun O L σ as k => match as with
  | [.inr (.inr (.inl (ta0, some a0))), .inl a1, .inl a2, .inl a3, .inl a4, .inl a5] => bif Nat.beq ta0 12 && true then (f_X12_copy L σ a0 a1 a2 a3 a4 a5).bind fun r => k (some (vI r.1)) L r.2 else none
  | _ => none
abbrev cl_X12_copy {O : Type} : CLT O := (clc 161 ad_X12_isSheet cl0)
theorem hc_X12_copy (G : GT) (l : Launch) {d : Nat} (hd : 3 ≤ d) {O : Type} : HCL G l (true, false) d (cl_X12_copy (O := O)) := (hclc (ca_X12_isSheet G l (d := 2) (Nat.le_refl _)) (fun _ => rfl) (fun e => by cases e) (by omega) hcl0)
theorem rt_X12_copy : retOK (0, 0) (some .int) := ⟨fun _ => rfl, fun h => absurd h (by decide), fun h => absurd h (by decide)⟩
set_option maxRecDepth 20000 in
theorem b_X12_copy_125 {G : GT} {l : Launch} {d : Nat} {L0 : Lay} {σ0 : Sto} (hd : 3 ≤ d) : ∀ k : Nat, HF G l 12 "copy" cX12_copy 7 (some .int) d L0 σ0 (true, false) (dcI L0) 125 (A_X12_copy_125 (f_X12_copy_125 k))
  | 0 => by
    intro lc st L σ o h hI
    unfold A_X12_copy_125 at h
    split at h
    · obtain ⟨_, hA1⟩ := bif_s h
      cases hA1
    · cases h
  | k + 1 => by
    have ih := b_X12_copy_125 (G := G) (l := l) (d := d) (L0 := L0) (σ0 := σ0) hd k
    intro lc st L σ o h hI
    unfold A_X12_copy_125 at h
    split at h
    · obtain ⟨hq0, hA1⟩ := bif_s h
      obtain ⟨e0, hq1⟩ := beq_and hq0
      subst e0
      exact exs (sp := [125]) (K := (kc 125 (A_X12_copy_125 (f_X12_copy_125 k)) k0)) ok_X12_copy rt_X12_copy (by omega) (hc_X12_copy G l hd) (hrI rfl) (hkc ih hk0) 93 hA1 hI
    · cases h
set_option maxRecDepth 20000 in
theorem b_X12_copy_88 {G : GT} {l : Launch} {d : Nat} {L0 : Lay} {σ0 : Sto} (hd : 3 ≤ d) : ∀ k : Nat, HF G l 12 "copy" cX12_copy 7 (some .int) d L0 σ0 (true, false) (dcI L0) 88 (A_X12_copy_88 (f_X12_copy_88 k))
  | 0 => by
    intro lc st L σ o h hI
    unfold A_X12_copy_88 at h
    split at h
    · obtain ⟨_, hA1⟩ := bif_s h
      cases hA1
    · cases h
  | k + 1 => by
    have ih := b_X12_copy_88 (G := G) (l := l) (d := d) (L0 := L0) (σ0 := σ0) hd k
    intro lc st L σ o h hI
    unfold A_X12_copy_88 at h
    split at h
    · obtain ⟨hq0, hA1⟩ := bif_s h
      obtain ⟨e0, hq1⟩ := beq_and hq0
      subst e0
      exact exs (sp := [88, 125]) (K := (kc 88 (A_X12_copy_88 (f_X12_copy_88 k)) (kc 125 (A_X12_copy_125 (f_X12_copy_125 FU)) k0))) ok_X12_copy rt_X12_copy (by omega) (hc_X12_copy G l hd) (hrI rfl) (hkc ih (hkc (b_X12_copy_125 hd FU) hk0)) 93 hA1 hI
    · cases h
set_option maxRecDepth 20000 in
theorem ca_X12_copy (G : GT) (l : Launch) {d : Nat} (hd : 3 ≤ d) : CA G l 131 (true, false) d ad_X12_copy := by
  intro O L σ as k o h hW hok
  unfold ad_X12_copy at h
  split at h
  · obtain ⟨hq0, hA0⟩ := bif_s h
    obtain ⟨e0, hq1⟩ := beq_and hq0
    subst e0
    obtain ⟨r, hr, hk⟩ := Option.bind_eq_some_iff.mp hA0
    exact ca_of (q := (dcI L) r) (by decide) rfl (Nat.le_of_ble_eq_true rfl) hk (fun _ => rfl) (fun e => by cases e) (exs (sp := [88]) (K := (kc 88 (A_X12_copy_88 (f_X12_copy_88 FU)) k0)) (L0 := L) (σ0 := σ) ok_X12_copy rt_X12_copy (by omega) (hc_X12_copy G l hd) (hrI rfl) (hkc (b_X12_copy_88 hd FU) hk0) 93 hr (inv0 hW hok))
  · cases h
def tt_X12_cost (pc : Nat) : TI := bif Nat.blt pc 9 then (bif Nat.blt pc 2 then (bif Nat.blt pc 1 then (bif Nat.beq pc 0 then (.aload_n 0, 1, (0, 0, 0), 0, 0, []) else TN) else (bif Nat.beq pc 1 then (.iload_n 1, 2, (1, 0, 0), 0, 0, []) else TN)) else (bif Nat.blt pc 5 then (bif Nat.beq pc 2 then (.invokevirtual 205, 5, (149, 1, 12), 0, 0, []) else TN) else (bif Nat.blt pc 8 then (bif Nat.beq pc 5 then (.ifCond .eq 11, 8, (16, 0, 0), 0, 0, []) else TN) else (bif Nat.beq pc 8 then (.aload_n 0, 9, (0, 0, 0), 0, 0, []) else TN)))) else (bif Nat.blt pc 13 then (bif Nat.blt pc 10 then (bif Nat.beq pc 9 then (.iload_n 1, 10, (1, 0, 0), 0, 0, []) else TN) else (bif Nat.beq pc 10 then (.invokevirtual 366, 13, (133, 1, 12), 0, 0, []) else TN)) else (bif Nat.blt pc 16 then (bif Nat.beq pc 13 then (.goto 5, 16, (18, 0, 0), 0, 0, []) else TN) else (bif Nat.blt pc 18 then (bif Nat.beq pc 16 then (.ldc 156, 18, (0, 0, 0), -1000000001, 0, []) else TN) else (bif Nat.beq pc 18 then (.ireturn, 19, (0, 0, 0), 0, 0, []) else TN))))
def tb_X12_cost (pc : Nat) : TI := bif Nat.ble 19 pc then TN else tt_X12_cost pc
theorem ok_X12_cost : tOK 12 (decide ("cost" = "<init>")) cX12_cost tb_X12_cost := tOK_of 19 tn_of (by decide +kernel)
def f_X12_cost (L : Lay) (σ : Sto) (a0 : Nat) (a1 : Int32) : Option Int32 := (f_X12_isBallot L σ a0 a1).bind fun r1 => (if r1 = 0 then some (-1000000001) else (f_X12_costOf L σ a0 a1).bind fun r2 => some r2)
def ad_X12_cost : ADT := fun O L σ as k => match as with
  | [.inr (.inr (.inl (ta0, some a0))), .inl a1] => bif Nat.beq ta0 12 && true then (f_X12_cost L σ a0 a1).bind fun r => k (some (vI r)) L σ else none
  | _ => none
abbrev cl_X12_cost {O : Type} : CLT O := (clc 149 ad_X12_isBallot (clc 133 ad_X12_costOf cl0))
theorem hc_X12_cost (G : GT) (l : Launch) {d : Nat} (hd : 4 ≤ d) {O : Type} : HCL G l (true, true) d (cl_X12_cost (O := O)) := (hclc (ca_X12_isBallot G l (d := 2) (Nat.le_refl _)) (fun _ => rfl) (fun _ => rfl) (by omega) (hclc (ca_X12_costOf G l (d := 3) (Nat.le_refl _)) (fun _ => rfl) (fun _ => rfl) (by omega) hcl0))
theorem rt_X12_cost : retOK (0, 0) (some .int) := ⟨fun _ => rfl, fun h => absurd h (by decide), fun h => absurd h (by decide)⟩
set_option maxRecDepth 20000 in
theorem ca_X12_cost (G : GT) (l : Launch) {d : Nat} (hd : 4 ≤ d) : CA G l 132 (true, true) d ad_X12_cost := by
  intro O L σ as k o h hW hok
  unfold ad_X12_cost at h
  split at h
  · obtain ⟨hq0, hA0⟩ := bif_s h
    obtain ⟨e0, hq1⟩ := beq_and hq0
    subst e0
    obtain ⟨r, hr, hk⟩ := Option.bind_eq_some_iff.mp hA0
    exact ca_of (q := (dcPI L σ) r) (by decide) rfl (Nat.le_of_ble_eq_true rfl) hk (fun _ => rfl) (fun _ => rfl) (exs (sp := []) (K := k0) (L0 := L) (σ0 := σ) ok_X12_cost rt_X12_cost (by omega) (hc_X12_cost G l hd) (hrPI rfl rfl) hk0 13 hr (inv0 hW hok))
  · cases h
def tt_X12_count (pc : Nat) : TI := bif Nat.blt pc 90 then (bif Nat.blt pc 67 then (bif Nat.blt pc 58 then (bif Nat.blt pc 53 then (bif Nat.blt pc 1 then (bif Nat.beq pc 0 then (.iload_n 1, 1, (1, 0, 0), 0, 0, []) else TN) else (bif Nat.blt pc 52 then (bif Nat.beq pc 1 then (.tableswitch 129 0 8 #[51, 56, 61, 99, 104, 109, 114, 119, 124], 52, (130, 0, 0), 0, 0, [(0, 52), (1, 57), (2, 62), (3, 100), (4, 105), (5, 110), (6, 115), (7, 120), (8, 125)]) else TN) else (bif Nat.beq pc 52 then (.aload_n 0, 53, (0, 0, 0), 0, 0, []) else TN))) else (bif Nat.blt pc 56 then (bif Nat.beq pc 53 then (.getfield 143, 56, (12, 2, 0), 0, 0, []) else TN) else (bif Nat.blt pc 57 then (bif Nat.beq pc 56 then (.ireturn, 57, (0, 0, 0), 0, 0, []) else TN) else (bif Nat.beq pc 57 then (.aload_n 0, 58, (0, 0, 0), 0, 0, []) else TN)))) else (bif Nat.blt pc 63 then (bif Nat.blt pc 61 then (bif Nat.beq pc 58 then (.getfield 150, 61, (12, 4, 0), 0, 0, []) else TN) else (bif Nat.blt pc 62 then (bif Nat.beq pc 61 then (.ireturn, 62, (0, 0, 0), 0, 0, []) else TN) else (bif Nat.beq pc 62 then (.iconst 0, 63, (0, 0, 0), 0, 0, []) else TN))) else (bif Nat.blt pc 65 then (bif Nat.blt pc 64 then (bif Nat.beq pc 63 then (.istore_n 2, 64, (2, 0, 0), 0, 0, []) else TN) else (bif Nat.beq pc 64 then (.iconst 0, 65, (0, 0, 0), 0, 0, []) else TN)) else (bif Nat.blt pc 66 then (bif Nat.beq pc 65 then (.istore_n 3, 66, (3, 0, 0), 0, 0, []) else TN) else (bif Nat.beq pc 66 then (.iload_n 3, 67, (3, 0, 0), 0, 0, []) else TN))))) else (bif Nat.blt pc 79 then (bif Nat.blt pc 74 then (bif Nat.blt pc 68 then (bif Nat.beq pc 67 then (.aload_n 0, 68, (0, 0, 0), 0, 0, []) else TN) else (bif Nat.blt pc 71 then (bif Nat.beq pc 68 then (.getfield 150, 71, (12, 4, 0), 0, 0, []) else TN) else (bif Nat.beq pc 71 then (.if_icmp .ge 27, 74, (98, 0, 0), 0, 0, []) else TN))) else (bif Nat.blt pc 75 then (bif Nat.beq pc 74 then (.iload_n 2, 75, (2, 0, 0), 0, 0, []) else TN) else (bif Nat.blt pc 76 then (bif Nat.beq pc 75 then (.aload_n 0, 76, (0, 0, 0), 0, 0, []) else TN) else (bif Nat.beq pc 76 then (.getfield 25, 79, (12, 9, 0), 0, 0, []) else TN)))) else (bif Nat.blt pc 82 then (bif Nat.blt pc 80 then (bif Nat.beq pc 79 then (.iload_n 3, 80, (3, 0, 0), 0, 0, []) else TN) else (bif Nat.blt pc 81 then (bif Nat.beq pc 80 then (.iaload, 81, (0, 0, 0), 0, 0, []) else TN) else (bif Nat.beq pc 81 then (.iconst (-1), 82, (0, 0, 0), -1, 0, []) else TN))) else (bif Nat.blt pc 86 then (bif Nat.blt pc 85 then (bif Nat.beq pc 82 then (.if_icmp .ne 7, 85, (89, 0, 0), 0, 0, []) else TN) else (bif Nat.beq pc 85 then (.iconst 1, 86, (0, 0, 0), 1, 0, []) else TN)) else (bif Nat.blt pc 89 then (bif Nat.beq pc 86 then (.goto 4, 89, (90, 0, 0), 0, 0, []) else TN) else (bif Nat.beq pc 89 then (.iconst 0, 90, (0, 0, 0), 0, 0, []) else TN)))))) else (bif Nat.blt pc 111 then (bif Nat.blt pc 100 then (bif Nat.blt pc 95 then (bif Nat.blt pc 91 then (bif Nat.beq pc 90 then (.iadd, 91, (0, 0, 0), 0, 0, []) else TN) else (bif Nat.blt pc 92 then (bif Nat.beq pc 91 then (.istore_n 2, 92, (2, 0, 0), 0, 0, []) else TN) else (bif Nat.beq pc 92 then (.iinc 3 1, 95, (3, 0, 0), 1, 0, []) else TN))) else (bif Nat.blt pc 98 then (bif Nat.beq pc 95 then (.goto (-29), 98, (66, 0, 0), 0, 0, []) else TN) else (bif Nat.blt pc 99 then (bif Nat.beq pc 98 then (.iload_n 2, 99, (2, 0, 0), 0, 0, []) else TN) else (bif Nat.beq pc 99 then (.ireturn, 100, (0, 0, 0), 0, 0, []) else TN)))) else (bif Nat.blt pc 105 then (bif Nat.blt pc 101 then (bif Nat.beq pc 100 then (.aload_n 0, 101, (0, 0, 0), 0, 0, []) else TN) else (bif Nat.blt pc 104 then (bif Nat.beq pc 101 then (.getfield 182, 104, (12, 13, 0), 0, 0, []) else TN) else (bif Nat.beq pc 104 then (.ireturn, 105, (0, 0, 0), 0, 0, []) else TN))) else (bif Nat.blt pc 109 then (bif Nat.blt pc 106 then (bif Nat.beq pc 105 then (.aload_n 0, 106, (0, 0, 0), 0, 0, []) else TN) else (bif Nat.beq pc 106 then (.getfield 153, 109, (12, 16, 0), 0, 0, []) else TN)) else (bif Nat.blt pc 110 then (bif Nat.beq pc 109 then (.ireturn, 110, (0, 0, 0), 0, 0, []) else TN) else (bif Nat.beq pc 110 then (.aload_n 0, 111, (0, 0, 0), 0, 0, []) else TN))))) else (bif Nat.blt pc 121 then (bif Nat.blt pc 116 then (bif Nat.blt pc 114 then (bif Nat.beq pc 111 then (.getfield 357, 114, (12, 29, 0), 0, 0, []) else TN) else (bif Nat.blt pc 115 then (bif Nat.beq pc 114 then (.ireturn, 115, (0, 0, 0), 0, 0, []) else TN) else (bif Nat.beq pc 115 then (.aload_n 0, 116, (0, 0, 0), 0, 0, []) else TN))) else (bif Nat.blt pc 119 then (bif Nat.beq pc 116 then (.getfield 166, 119, (12, 1, 0), 0, 0, []) else TN) else (bif Nat.blt pc 120 then (bif Nat.beq pc 119 then (.ireturn, 120, (0, 0, 0), 0, 0, []) else TN) else (bif Nat.beq pc 120 then (.aload_n 0, 121, (0, 0, 0), 0, 0, []) else TN)))) else (bif Nat.blt pc 126 then (bif Nat.blt pc 124 then (bif Nat.beq pc 121 then (.getfield 390, 124, (12, 39, 0), 0, 0, []) else TN) else (bif Nat.blt pc 125 then (bif Nat.beq pc 124 then (.ireturn, 125, (0, 0, 0), 0, 0, []) else TN) else (bif Nat.beq pc 125 then (.aload_n 0, 126, (0, 0, 0), 0, 0, []) else TN))) else (bif Nat.blt pc 130 then (bif Nat.blt pc 129 then (bif Nat.beq pc 126 then (.getfield 237, 129, (12, 25, 0), 0, 0, []) else TN) else (bif Nat.beq pc 129 then (.ireturn, 130, (0, 0, 0), 0, 0, []) else TN)) else (bif Nat.blt pc 132 then (bif Nat.beq pc 130 then (.ldc 156, 132, (0, 0, 0), -1000000001, 0, []) else TN) else (bif Nat.beq pc 132 then (.ireturn, 133, (0, 0, 0), 0, 0, []) else TN))))))
def tb_X12_count (pc : Nat) : TI := bif Nat.ble 133 pc then TN else tt_X12_count pc
theorem ok_X12_count : tOK 12 (decide ("count" = "<init>")) cX12_count tb_X12_count := tOK_of 133 tn_of (by decide +kernel)
def f_X12_count_90 (c66 : Lay → Sto → Nat → Int32 → Int32 → Int32 → Option Int32) (L : Lay) (σ : Sto) (a0 : Nat) (a1 : Int32) (a3 : Int32) (s0 : Int32) (s1 : Int32) : Option Int32 := c66 L σ a0 a1 (s1 + s0) (a3 + 1)
def A_X12_count_90 (c : Lay → Sto → Nat → Int32 → Int32 → Int32 → Int32 → Option Int32) (lc : List (Option AV)) (st : List AV) (L : Lay) (σ : Sto) : Option Int32 := match lc, st with
  | [some (.inr (.inr (.inl (ta0, some a0)))), some (.inl a1), _, some (.inl a3)], [.inl s0, .inl s1] => bif Nat.beq ta0 12 && true then c L σ a0 a1 a3 s0 s1 else none
  | _, _ => none
def f_X12_count_66 : Nat → Lay → Sto → Nat → Int32 → Int32 → Int32 → Option Int32
  | 0 => fun _ _ _ _ _ _ => none
  | k + 1 => fun L σ a0 a1 a2 a3 => (if (σ.1 a0 4) ≤ a3 then some a2 else (σ.2.1 a0 9).bind fun x1 => (rI L σ x1 a3).bind fun v2 => (if v2 = (-1) then (f_X12_count_90 (f_X12_count_66 k)) L σ a0 a1 a3 1 a2 else (f_X12_count_90 (f_X12_count_66 k)) L σ a0 a1 a3 0 a2))
def A_X12_count_66 (c : Lay → Sto → Nat → Int32 → Int32 → Int32 → Option Int32) (lc : List (Option AV)) (st : List AV) (L : Lay) (σ : Sto) : Option Int32 := match lc, st with
  | [some (.inr (.inr (.inl (ta0, some a0)))), some (.inl a1), some (.inl a2), some (.inl a3)], [] => bif Nat.beq ta0 12 && true then c L σ a0 a1 a2 a3 else none
  | _, _ => none
def f_X12_count (L : Lay) (σ : Sto) (a0 : Nat) (a1 : Int32) : Option Int32 := (if a1 = 0 then some (σ.1 a0 2) else (if a1 = 1 then some (σ.1 a0 4) else (if a1 = 2 then (f_X12_count_66 FU) L σ a0 a1 0 0 else (if a1 = 3 then some (σ.1 a0 13) else (if a1 = 4 then some (σ.1 a0 16) else (if a1 = 5 then some (σ.1 a0 29) else (if a1 = 6 then some (σ.1 a0 1) else (if a1 = 7 then some (σ.1 a0 39) else (if a1 = 8 then some (σ.1 a0 25) else some (-1000000001))))))))))
def ad_X12_count : ADT := fun O L σ as k => match as with
  | [.inr (.inr (.inl (ta0, some a0))), .inl a1] => bif Nat.beq ta0 12 && true then (f_X12_count L σ a0 a1).bind fun r => k (some (vI r)) L σ else none
  | _ => none
abbrev cl_X12_count {O : Type} : CLT O := cl0
theorem hc_X12_count (G : GT) (l : Launch) {d : Nat} (hd : 1 ≤ d) {O : Type} : HCL G l (true, true) d (cl_X12_count (O := O)) := hcl0
theorem rt_X12_count : retOK (0, 0) (some .int) := ⟨fun _ => rfl, fun h => absurd h (by decide), fun h => absurd h (by decide)⟩
set_option maxRecDepth 20000 in
theorem b_X12_count_90 {G : GT} {l : Launch} {d : Nat} {L0 : Lay} {σ0 : Sto} (hd : 1 ≤ d) {c66 : Lay → Sto → Nat → Int32 → Int32 → Int32 → Option Int32} (h66 : HF G l 12 "count" cX12_count 4 (some .int) d L0 σ0 (true, true) (dcPI L0 σ0) 66 (A_X12_count_66 c66)) : HF G l 12 "count" cX12_count 4 (some .int) d L0 σ0 (true, true) (dcPI L0 σ0) 90 (A_X12_count_90 (f_X12_count_90 c66)) := by
  intro lc st L σ o h hI
  unfold A_X12_count_90 at h
  split at h
  · obtain ⟨hq0, hA1⟩ := bif_s h
    obtain ⟨e0, hq1⟩ := beq_and hq0
    subst e0
    exact exs (sp := [66]) (K := (kc 66 (A_X12_count_66 c66) k0)) ok_X12_count rt_X12_count (by omega) (hc_X12_count G l hd) (hrPI rfl rfl) (hkc h66 hk0) 55 hA1 hI
  · cases h
set_option maxRecDepth 20000 in
theorem b_X12_count_66 {G : GT} {l : Launch} {d : Nat} {L0 : Lay} {σ0 : Sto} (hd : 1 ≤ d) : ∀ k : Nat, HF G l 12 "count" cX12_count 4 (some .int) d L0 σ0 (true, true) (dcPI L0 σ0) 66 (A_X12_count_66 (f_X12_count_66 k))
  | 0 => by
    intro lc st L σ o h hI
    unfold A_X12_count_66 at h
    split at h
    · obtain ⟨_, hA1⟩ := bif_s h
      cases hA1
    · cases h
  | k + 1 => by
    have ih := b_X12_count_66 (G := G) (l := l) (d := d) (L0 := L0) (σ0 := σ0) hd k
    intro lc st L σ o h hI
    unfold A_X12_count_66 at h
    split at h
    · obtain ⟨hq0, hA1⟩ := bif_s h
      obtain ⟨e0, hq1⟩ := beq_and hq0
      subst e0
      exact exs (sp := [90]) (K := (kc 90 (A_X12_count_90 (f_X12_count_90 (f_X12_count_66 k))) k0)) ok_X12_count rt_X12_count (by omega) (hc_X12_count G l hd) (hrPI rfl rfl) (hkc (b_X12_count_90 hd ih) hk0) 55 hA1 hI
    · cases h
set_option maxRecDepth 20000 in
theorem ca_X12_count (G : GT) (l : Launch) {d : Nat} (hd : 1 ≤ d) : CA G l 134 (true, true) d ad_X12_count := by
  intro O L σ as k o h hW hok
  unfold ad_X12_count at h
  split at h
  · obtain ⟨hq0, hA0⟩ := bif_s h
    obtain ⟨e0, hq1⟩ := beq_and hq0
    subst e0
    obtain ⟨r, hr, hk⟩ := Option.bind_eq_some_iff.mp hA0
    exact ca_of (q := (dcPI L σ) r) (by decide) rfl (Nat.le_of_ble_eq_true rfl) hk (fun _ => rfl) (fun _ => rfl) (exs (sp := [66]) (K := (kc 66 (A_X12_count_66 (f_X12_count_66 FU)) k0)) (L0 := L) (σ0 := σ) ok_X12_count rt_X12_count (by omega) (hc_X12_count G l hd) (hrPI rfl rfl) (hkc (b_X12_count_66 hd FU) hk0) 55 hr (inv0 hW hok))
  · cases h
def tt_X12_isEntitled (pc : Nat) : TI := bif Nat.blt pc 4 then (bif Nat.blt pc 2 then (bif Nat.blt pc 1 then (bif Nat.beq pc 0 then (.aload_n 0, 1, (0, 0, 0), 0, 0, []) else TN) else (bif Nat.beq pc 1 then (.iload_n 1, 2, (1, 0, 0), 0, 0, []) else TN)) else (bif Nat.blt pc 3 then (bif Nat.beq pc 2 then (.iload_n 2, 3, (2, 0, 0), 0, 0, []) else TN) else (bif Nat.beq pc 3 then (.aload_n 0, 4, (0, 0, 0), 0, 0, []) else TN))) else (bif Nat.blt pc 8 then (bif Nat.blt pc 7 then (bif Nat.beq pc 4 then (.getfield 46, 7, (12, 18, 0), 0, 0, []) else TN) else (bif Nat.beq pc 7 then (.iload_n 1, 8, (1, 0, 0), 0, 0, []) else TN)) else (bif Nat.blt pc 9 then (bif Nat.beq pc 8 then (.iaload, 9, (0, 0, 0), 0, 0, []) else TN) else (bif Nat.blt pc 12 then (bif Nat.beq pc 9 then (.invokevirtual 202, 12, (153, 3, 12), 0, 0, []) else TN) else (bif Nat.beq pc 12 then (.ireturn, 13, (0, 0, 0), 0, 0, []) else TN))))
def tb_X12_isEntitled (pc : Nat) : TI := bif Nat.ble 13 pc then TN else tt_X12_isEntitled pc
theorem ok_X12_isEntitled : tOK 12 (decide ("isEntitled" = "<init>")) cX12_isEntitled tb_X12_isEntitled := tOK_of 13 tn_of (by decide +kernel)
def f_X12_isEntitled (L : Lay) (σ : Sto) (a0 : Nat) (a1 : Int32) (a2 : Int32) : Option Int32 := (σ.2.1 a0 18).bind fun x1 => (rI L σ x1 a1).bind fun v2 => (f_X12_isIn L σ a0 a1 a2 v2).bind fun r3 => (ckN 1 r3).bind fun _ => some r3
def ad_X12_isEntitled : ADT := fun O L σ as k => match as with
  | [.inr (.inr (.inl (ta0, some a0))), .inl a1, .inl a2] => bif Nat.beq ta0 12 && true then (f_X12_isEntitled L σ a0 a1 a2).bind fun r => k (some (vI r)) L σ else none
  | _ => none
abbrev cl_X12_isEntitled {O : Type} : CLT O := (clc 153 ad_X12_isIn cl0)
theorem hc_X12_isEntitled (G : GT) (l : Launch) {d : Nat} (hd : 3 ≤ d) {O : Type} : HCL G l (true, true) d (cl_X12_isEntitled (O := O)) := (hclc (ca_X12_isIn G l (d := 2) (Nat.le_refl _)) (fun _ => rfl) (fun _ => rfl) (by omega) hcl0)
theorem rt_X12_isEntitled : retOK (1, 0) (some .boolean) := ⟨fun _ => rfl, fun h => absurd h (by decide), fun h => absurd h (by decide)⟩
set_option maxRecDepth 20000 in
theorem ca_X12_isEntitled (G : GT) (l : Launch) {d : Nat} (hd : 3 ≤ d) : CA G l 152 (true, true) d ad_X12_isEntitled := by
  intro O L σ as k o h hW hok
  unfold ad_X12_isEntitled at h
  split at h
  · obtain ⟨hq0, hA0⟩ := bif_s h
    obtain ⟨e0, hq1⟩ := beq_and hq0
    subst e0
    obtain ⟨r, hr, hk⟩ := Option.bind_eq_some_iff.mp hA0
    exact ca_of (q := (dcPI L σ) r) (by decide) rfl (Nat.le_of_ble_eq_true rfl) hk (fun _ => rfl) (fun _ => rfl) (exs (sp := []) (K := k0) (L0 := L) (σ0 := σ) ok_X12_isEntitled rt_X12_isEntitled (by omega) (hc_X12_isEntitled G l hd) (hrPI rfl rfl) hk0 12 hr (inv0 hW hok))
  · cases h
def tt_X12_knows (pc : Nat) : TI := bif Nat.blt pc 191 then (bif Nat.blt pc 99 then (bif Nat.blt pc 46 then (bif Nat.blt pc 23 then (bif Nat.blt pc 12 then (bif Nat.blt pc 3 then (bif Nat.blt pc 1 then (bif Nat.beq pc 0 then (.iconst 0, 1, (0, 0, 0), 0, 0, []) else TN) else (bif Nat.blt pc 2 then (bif Nat.beq pc 1 then (.istore_n 3, 2, (3, 0, 0), 0, 0, []) else TN) else (bif Nat.beq pc 2 then (.iload_n 3, 3, (3, 0, 0), 0, 0, []) else TN))) else (bif Nat.blt pc 8 then (bif Nat.blt pc 5 then (bif Nat.beq pc 3 then (.bipush 13, 5, (0, 0, 0), 13, 0, []) else TN) else (bif Nat.beq pc 5 then (.if_icmp .ge 16, 8, (21, 0, 0), 0, 0, []) else TN)) else (bif Nat.blt pc 9 then (bif Nat.beq pc 8 then (.aload_n 0, 9, (0, 0, 0), 0, 0, []) else TN) else (bif Nat.beq pc 9 then (.getfield 118, 12, (12, 46, 0), 0, 0, []) else TN)))) else (bif Nat.blt pc 15 then (bif Nat.blt pc 13 then (bif Nat.beq pc 12 then (.iload_n 3, 13, (3, 0, 0), 0, 0, []) else TN) else (bif Nat.blt pc 14 then (bif Nat.beq pc 13 then (.iconst 0, 14, (0, 0, 0), 0, 0, []) else TN) else (bif Nat.beq pc 14 then (.iastore, 15, (0, 0, 0), 0, 0, []) else TN))) else (bif Nat.blt pc 21 then (bif Nat.blt pc 18 then (bif Nat.beq pc 15 then (.iinc 3 1, 18, (3, 0, 0), 1, 0, []) else TN) else (bif Nat.beq pc 18 then (.goto (-16), 21, (2, 0, 0), 0, 0, []) else TN)) else (bif Nat.blt pc 22 then (bif Nat.beq pc 21 then (.iconst 0, 22, (0, 0, 0), 0, 0, []) else TN) else (bif Nat.beq pc 22 then (.istore_n 3, 23, (3, 0, 0), 0, 0, []) else TN))))) else (bif Nat.blt pc 35 then (bif Nat.blt pc 28 then (bif Nat.blt pc 24 then (bif Nat.beq pc 23 then (.iload_n 3, 24, (3, 0, 0), 0, 0, []) else TN) else (bif Nat.blt pc 25 then (bif Nat.beq pc 24 then (.aload_n 0, 25, (0, 0, 0), 0, 0, []) else TN) else (bif Nat.beq pc 25 then (.getfield 150, 28, (12, 4, 0), 0, 0, []) else TN))) else (bif Nat.blt pc 33 then (bif Nat.blt pc 31 then (bif Nat.beq pc 28 then (.if_icmp .ge 260, 31, (288, 0, 0), 0, 0, []) else TN) else (bif Nat.beq pc 31 then (.bipush 40, 33, (0, 0, 0), 40, 0, []) else TN)) else (bif Nat.blt pc 34 then (bif Nat.beq pc 33 then (.iload_n 1, 34, (1, 0, 0), 0, 0, []) else TN) else (bif Nat.beq pc 34 then (.imul, 35, (0, 0, 0), 0, 0, []) else TN)))) else (bif Nat.blt pc 39 then (bif Nat.blt pc 36 then (bif Nat.beq pc 35 then (.iload_n 3, 36, (3, 0, 0), 0, 0, []) else TN) else (bif Nat.blt pc 37 then (bif Nat.beq pc 36 then (.iadd, 37, (0, 0, 0), 0, 0, []) else TN) else (bif Nat.beq pc 37 then (.istore 4, 39, (4, 0, 0), 0, 0, []) else TN))) else (bif Nat.blt pc 43 then (bif Nat.blt pc 40 then (bif Nat.beq pc 39 then (.aload_n 0, 40, (0, 0, 0), 0, 0, []) else TN) else (bif Nat.beq pc 40 then (.getfield 52, 43, (12, 20, 0), 0, 0, []) else TN)) else (bif Nat.blt pc 45 then (bif Nat.beq pc 43 then (.iload 4, 45, (4, 0, 0), 0, 0, []) else TN) else (bif Nat.beq pc 45 then (.iaload, 46, (0, 0, 0), 0, 0, []) else TN)))))) else (bif Nat.blt pc 73 then (bif Nat.blt pc 58 then (bif Nat.blt pc 51 then (bif Nat.blt pc 47 then (bif Nat.beq pc 46 then (.iconst (-1), 47, (0, 0, 0), -1, 0, []) else TN) else (bif Nat.blt pc 50 then (bif Nat.beq pc 47 then (.if_icmp .eq 18, 50, (65, 0, 0), 0, 0, []) else TN) else (bif Nat.beq pc 50 then (.aload_n 0, 51, (0, 0, 0), 0, 0, []) else TN))) else (bif Nat.blt pc 56 then (bif Nat.blt pc 54 then (bif Nat.beq pc 51 then (.getfield 52, 54, (12, 20, 0), 0, 0, []) else TN) else (bif Nat.beq pc 54 then (.iload 4, 56, (4, 0, 0), 0, 0, []) else TN)) else (bif Nat.blt pc 57 then (bif Nat.beq pc 56 then (.iaload, 57, (0, 0, 0), 0, 0, []) else TN) else (bif Nat.beq pc 57 then (.iload_n 2, 58, (2, 0, 0), 0, 0, []) else TN)))) else (bif Nat.blt pc 65 then (bif Nat.blt pc 61 then (bif Nat.beq pc 58 then (.if_icmp .gt 7, 61, (65, 0, 0), 0, 0, []) else TN) else (bif Nat.blt pc 62 then (bif Nat.beq pc 61 then (.iconst 1, 62, (0, 0, 0), 1, 0, []) else TN) else (bif Nat.beq pc 62 then (.goto 4, 65, (66, 0, 0), 0, 0, []) else TN))) else (bif Nat.blt pc 68 then (bif Nat.blt pc 66 then (bif Nat.beq pc 65 then (.iconst 0, 66, (0, 0, 0), 0, 0, []) else TN) else (bif Nat.beq pc 66 then (.istore 5, 68, (5, 0, 0), 0, 0, []) else TN)) else (bif Nat.blt pc 70 then (bif Nat.beq pc 68 then (.iload 5, 70, (5, 0, 0), 0, 0, []) else TN) else (bif Nat.beq pc 70 then (.ifCond .eq 29, 73, (99, 0, 0), 0, 0, []) else TN))))) else (bif Nat.blt pc 85 then (bif Nat.blt pc 79 then (bif Nat.blt pc 74 then (bif Nat.beq pc 73 then (.aload_n 0, 74, (0, 0, 0), 0, 0, []) else TN) else (bif Nat.blt pc 77 then (bif Nat.beq pc 74 then (.getfield 55, 77, (12, 21, 0), 0, 0, []) else TN) else (bif Nat.beq pc 77 then (.iload 4, 79, (4, 0, 0), 0, 0, []) else TN))) else (bif Nat.blt pc 81 then (bif Nat.blt pc 80 then (bif Nat.beq pc 79 then (.iaload, 80, (0, 0, 0), 0, 0, []) else TN) else (bif Nat.beq pc 80 then (.iconst (-1), 81, (0, 0, 0), -1, 0, []) else TN)) else (bif Nat.blt pc 84 then (bif Nat.beq pc 81 then (.if_icmp .eq 18, 84, (99, 0, 0), 0, 0, []) else TN) else (bif Nat.beq pc 84 then (.aload_n 0, 85, (0, 0, 0), 0, 0, []) else TN)))) else (bif Nat.blt pc 91 then (bif Nat.blt pc 88 then (bif Nat.beq pc 85 then (.getfield 58, 88, (12, 22, 0), 0, 0, []) else TN) else (bif Nat.blt pc 90 then (bif Nat.beq pc 88 then (.iload 4, 90, (4, 0, 0), 0, 0, []) else TN) else (bif Nat.beq pc 90 then (.iaload, 91, (0, 0, 0), 0, 0, []) else TN))) else (bif Nat.blt pc 95 then (bif Nat.blt pc 92 then (bif Nat.beq pc 91 then (.iload_n 2, 92, (2, 0, 0), 0, 0, []) else TN) else (bif Nat.beq pc 92 then (.if_icmp .gt 7, 95, (99, 0, 0), 0, 0, []) else TN)) else (bif Nat.blt pc 96 then (bif Nat.beq pc 95 then (.iconst 1, 96, (0, 0, 0), 1, 0, []) else TN) else (bif Nat.beq pc 96 then (.goto 4, 99, (100, 0, 0), 0, 0, []) else TN))))))) else (bif Nat.blt pc 141 then (bif Nat.blt pc 120 then (bif Nat.blt pc 111 then (bif Nat.blt pc 103 then (bif Nat.blt pc 100 then (bif Nat.beq pc 99 then (.iconst 0, 100, (0, 0, 0), 0, 0, []) else TN) else (bif Nat.blt pc 102 then (bif Nat.beq pc 100 then (.istore 6, 102, (6, 0, 0), 0, 0, []) else TN) else (bif Nat.beq pc 102 then (.aload_n 0, 103, (0, 0, 0), 0, 0, []) else TN))) else (bif Nat.blt pc 105 then (bif Nat.blt pc 104 then (bif Nat.beq pc 103 then (.iload_n 1, 104, (1, 0, 0), 0, 0, []) else TN) else (bif Nat.beq pc 104 then (.iload_n 3, 105, (3, 0, 0), 0, 0, []) else TN)) else (bif Nat.blt pc 108 then (bif Nat.beq pc 105 then (.invokevirtual 211, 108, (152, 2, 12), 0, 0, []) else TN) else (bif Nat.beq pc 108 then (.ifCond .eq 155, 111, (263, 0, 0), 0, 0, []) else TN)))) else (bif Nat.blt pc 116 then (bif Nat.blt pc 112 then (bif Nat.beq pc 111 then (.aload_n 0, 112, (0, 0, 0), 0, 0, []) else TN) else (bif Nat.blt pc 115 then (bif Nat.beq pc 112 then (.getfield 118, 115, (12, 46, 0), 0, 0, []) else TN) else (bif Nat.beq pc 115 then (.iconst 0, 116, (0, 0, 0), 0, 0, []) else TN))) else (bif Nat.blt pc 118 then (bif Nat.blt pc 117 then (bif Nat.beq pc 116 then (.dup2, 117, (0, 0, 0), 0, 0, []) else TN) else (bif Nat.beq pc 117 then (.iaload, 118, (0, 0, 0), 0, 0, []) else TN)) else (bif Nat.blt pc 119 then (bif Nat.beq pc 118 then (.iconst 1, 119, (0, 0, 0), 1, 0, []) else TN) else (bif Nat.beq pc 119 then (.iadd, 120, (0, 0, 0), 0, 0, []) else TN))))) else (bif Nat.blt pc 130 then (bif Nat.blt pc 125 then (bif Nat.blt pc 121 then (bif Nat.beq pc 120 then (.iastore, 121, (0, 0, 0), 0, 0, []) else TN) else (bif Nat.blt pc 122 then (bif Nat.beq pc 121 then (.aload_n 0, 122, (0, 0, 0), 0, 0, []) else TN) else (bif Nat.beq pc 122 then (.getfield 118, 125, (12, 46, 0), 0, 0, []) else TN))) else (bif Nat.blt pc 127 then (bif Nat.blt pc 126 then (bif Nat.beq pc 125 then (.iconst 1, 126, (0, 0, 0), 1, 0, []) else TN) else (bif Nat.beq pc 126 then (.dup2, 127, (0, 0, 0), 0, 0, []) else TN)) else (bif Nat.blt pc 128 then (bif Nat.beq pc 127 then (.iaload, 128, (0, 0, 0), 0, 0, []) else TN) else (bif Nat.beq pc 128 then (.iload 5, 130, (5, 0, 0), 0, 0, []) else TN)))) else (bif Nat.blt pc 137 then (bif Nat.blt pc 133 then (bif Nat.beq pc 130 then (.ifCond .eq 7, 133, (137, 0, 0), 0, 0, []) else TN) else (bif Nat.blt pc 134 then (bif Nat.beq pc 133 then (.iconst 1, 134, (0, 0, 0), 1, 0, []) else TN) else (bif Nat.beq pc 134 then (.goto 4, 137, (138, 0, 0), 0, 0, []) else TN))) else (bif Nat.blt pc 139 then (bif Nat.blt pc 138 then (bif Nat.beq pc 137 then (.iconst 0, 138, (0, 0, 0), 0, 0, []) else TN) else (bif Nat.beq pc 138 then (.iadd, 139, (0, 0, 0), 0, 0, []) else TN)) else (bif Nat.blt pc 140 then (bif Nat.beq pc 139 then (.iastore, 140, (0, 0, 0), 0, 0, []) else TN) else (bif Nat.beq pc 140 then (.aload_n 0, 141, (0, 0, 0), 0, 0, []) else TN)))))) else (bif Nat.blt pc 167 then (bif Nat.blt pc 153 then (bif Nat.blt pc 146 then (bif Nat.blt pc 144 then (bif Nat.beq pc 141 then (.getfield 118, 144, (12, 46, 0), 0, 0, []) else TN) else (bif Nat.blt pc 145 then (bif Nat.beq pc 144 then (.iconst 4, 145, (0, 0, 0), 4, 0, []) else TN) else (bif Nat.beq pc 145 then (.dup2, 146, (0, 0, 0), 0, 0, []) else TN))) else (bif Nat.blt pc 149 then (bif Nat.blt pc 147 then (bif Nat.beq pc 146 then (.iaload, 147, (0, 0, 0), 0, 0, []) else TN) else (bif Nat.beq pc 147 then (.iload 6, 149, (6, 0, 0), 0, 0, []) else TN)) else (bif Nat.blt pc 152 then (bif Nat.beq pc 149 then (.ifCond .eq 17, 152, (166, 0, 0), 0, 0, []) else TN) else (bif Nat.beq pc 152 then (.aload_n 0, 153, (0, 0, 0), 0, 0, []) else TN)))) else (bif Nat.blt pc 159 then (bif Nat.blt pc 156 then (bif Nat.beq pc 153 then (.getfield 55, 156, (12, 21, 0), 0, 0, []) else TN) else (bif Nat.blt pc 158 then (bif Nat.beq pc 156 then (.iload 4, 158, (4, 0, 0), 0, 0, []) else TN) else (bif Nat.beq pc 158 then (.iaload, 159, (0, 0, 0), 0, 0, []) else TN))) else (bif Nat.blt pc 163 then (bif Nat.blt pc 162 then (bif Nat.beq pc 159 then (.ifCond .ne 7, 162, (166, 0, 0), 0, 0, []) else TN) else (bif Nat.beq pc 162 then (.iconst 1, 163, (0, 0, 0), 1, 0, []) else TN)) else (bif Nat.blt pc 166 then (bif Nat.beq pc 163 then (.goto 4, 166, (167, 0, 0), 0, 0, []) else TN) else (bif Nat.beq pc 166 then (.iconst 0, 167, (0, 0, 0), 0, 0, []) else TN))))) else (bif Nat.blt pc 176 then (bif Nat.blt pc 170 then (bif Nat.blt pc 168 then (bif Nat.beq pc 167 then (.iadd, 168, (0, 0, 0), 0, 0, []) else TN) else (bif Nat.blt pc 169 then (bif Nat.beq pc 168 then (.iastore, 169, (0, 0, 0), 0, 0, []) else TN) else (bif Nat.beq pc 169 then (.aload_n 0, 170, (0, 0, 0), 0, 0, []) else TN))) else (bif Nat.blt pc 174 then (bif Nat.blt pc 173 then (bif Nat.beq pc 170 then (.getfield 118, 173, (12, 46, 0), 0, 0, []) else TN) else (bif Nat.beq pc 173 then (.iconst 5, 174, (0, 0, 0), 5, 0, []) else TN)) else (bif Nat.blt pc 175 then (bif Nat.beq pc 174 then (.dup2, 175, (0, 0, 0), 0, 0, []) else TN) else (bif Nat.beq pc 175 then (.iaload, 176, (0, 0, 0), 0, 0, []) else TN)))) else (bif Nat.blt pc 182 then (bif Nat.blt pc 178 then (bif Nat.beq pc 176 then (.iload 6, 178, (6, 0, 0), 0, 0, []) else TN) else (bif Nat.blt pc 181 then (bif Nat.beq pc 178 then (.ifCond .eq 17, 181, (195, 0, 0), 0, 0, []) else TN) else (bif Nat.beq pc 181 then (.aload_n 0, 182, (0, 0, 0), 0, 0, []) else TN))) else (bif Nat.blt pc 187 then (bif Nat.blt pc 185 then (bif Nat.beq pc 182 then (.getfield 55, 185, (12, 21, 0), 0, 0, []) else TN) else (bif Nat.beq pc 185 then (.iload 4, 187, (4, 0, 0), 0, 0, []) else TN)) else (bif Nat.blt pc 188 then (bif Nat.beq pc 187 then (.iaload, 188, (0, 0, 0), 0, 0, []) else TN) else (bif Nat.beq pc 188 then (.ifCond .le 7, 191, (195, 0, 0), 0, 0, []) else TN)))))))) else (bif Nat.blt pc 288 then (bif Nat.blt pc 237 then (bif Nat.blt pc 215 then (bif Nat.blt pc 202 then (bif Nat.blt pc 196 then (bif Nat.blt pc 192 then (bif Nat.beq pc 191 then (.iconst 1, 192, (0, 0, 0), 1, 0, []) else TN) else (bif Nat.blt pc 195 then (bif Nat.beq pc 192 then (.goto 4, 195, (196, 0, 0), 0, 0, []) else TN) else (bif Nat.beq pc 195 then (.iconst 0, 196, (0, 0, 0), 0, 0, []) else TN))) else (bif Nat.blt pc 198 then (bif Nat.blt pc 197 then (bif Nat.beq pc 196 then (.iadd, 197, (0, 0, 0), 0, 0, []) else TN) else (bif Nat.beq pc 197 then (.iastore, 198, (0, 0, 0), 0, 0, []) else TN)) else (bif Nat.blt pc 199 then (bif Nat.beq pc 198 then (.aload_n 0, 199, (0, 0, 0), 0, 0, []) else TN) else (bif Nat.beq pc 199 then (.getfield 118, 202, (12, 46, 0), 0, 0, []) else TN)))) else (bif Nat.blt pc 206 then (bif Nat.blt pc 204 then (bif Nat.beq pc 202 then (.bipush 6, 204, (0, 0, 0), 6, 0, []) else TN) else (bif Nat.blt pc 205 then (bif Nat.beq pc 204 then (.dup2, 205, (0, 0, 0), 0, 0, []) else TN) else (bif Nat.beq pc 205 then (.iaload, 206, (0, 0, 0), 0, 0, []) else TN))) else (bif Nat.blt pc 211 then (bif Nat.blt pc 208 then (bif Nat.beq pc 206 then (.iload 6, 208, (6, 0, 0), 0, 0, []) else TN) else (bif Nat.beq pc 208 then (.ifCond .eq 18, 211, (226, 0, 0), 0, 0, []) else TN)) else (bif Nat.blt pc 212 then (bif Nat.beq pc 211 then (.aload_n 0, 212, (0, 0, 0), 0, 0, []) else TN) else (bif Nat.beq pc 212 then (.getfield 55, 215, (12, 21, 0), 0, 0, []) else TN))))) else (bif Nat.blt pc 227 then (bif Nat.blt pc 219 then (bif Nat.blt pc 217 then (bif Nat.beq pc 215 then (.iload 4, 217, (4, 0, 0), 0, 0, []) else TN) else (bif Nat.blt pc 218 then (bif Nat.beq pc 217 then (.iaload, 218, (0, 0, 0), 0, 0, []) else TN) else (bif Nat.beq pc 218 then (.iconst 1, 219, (0, 0, 0), 1, 0, []) else TN))) else (bif Nat.blt pc 223 then (bif Nat.blt pc 222 then (bif Nat.beq pc 219 then (.if_icmp .ne 7, 222, (226, 0, 0), 0, 0, []) else TN) else (bif Nat.beq pc 222 then (.iconst 1, 223, (0, 0, 0), 1, 0, []) else TN)) else (bif Nat.blt pc 226 then (bif Nat.beq pc 223 then (.goto 4, 226, (227, 0, 0), 0, 0, []) else TN) else (bif Nat.beq pc 226 then (.iconst 0, 227, (0, 0, 0), 0, 0, []) else TN)))) else (bif Nat.blt pc 230 then (bif Nat.blt pc 228 then (bif Nat.beq pc 227 then (.iadd, 228, (0, 0, 0), 0, 0, []) else TN) else (bif Nat.blt pc 229 then (bif Nat.beq pc 228 then (.iastore, 229, (0, 0, 0), 0, 0, []) else TN) else (bif Nat.beq pc 229 then (.aload_n 0, 230, (0, 0, 0), 0, 0, []) else TN))) else (bif Nat.blt pc 235 then (bif Nat.blt pc 233 then (bif Nat.beq pc 230 then (.getfield 118, 233, (12, 46, 0), 0, 0, []) else TN) else (bif Nat.beq pc 233 then (.bipush 7, 235, (0, 0, 0), 7, 0, []) else TN)) else (bif Nat.blt pc 236 then (bif Nat.beq pc 235 then (.dup2, 236, (0, 0, 0), 0, 0, []) else TN) else (bif Nat.beq pc 236 then (.iaload, 237, (0, 0, 0), 0, 0, []) else TN)))))) else (bif Nat.blt pc 263 then (bif Nat.blt pc 250 then (bif Nat.blt pc 243 then (bif Nat.blt pc 239 then (bif Nat.beq pc 237 then (.iload 6, 239, (6, 0, 0), 0, 0, []) else TN) else (bif Nat.blt pc 242 then (bif Nat.beq pc 239 then (.ifCond .eq 18, 242, (257, 0, 0), 0, 0, []) else TN) else (bif Nat.beq pc 242 then (.aload_n 0, 243, (0, 0, 0), 0, 0, []) else TN))) else (bif Nat.blt pc 248 then (bif Nat.blt pc 246 then (bif Nat.beq pc 243 then (.getfield 55, 246, (12, 21, 0), 0, 0, []) else TN) else (bif Nat.beq pc 246 then (.iload 4, 248, (4, 0, 0), 0, 0, []) else TN)) else (bif Nat.blt pc 249 then (bif Nat.beq pc 248 then (.iaload, 249, (0, 0, 0), 0, 0, []) else TN) else (bif Nat.beq pc 249 then (.iconst 2, 250, (0, 0, 0), 2, 0, []) else TN)))) else (bif Nat.blt pc 257 then (bif Nat.blt pc 253 then (bif Nat.beq pc 250 then (.if_icmp .ne 7, 253, (257, 0, 0), 0, 0, []) else TN) else (bif Nat.blt pc 254 then (bif Nat.beq pc 253 then (.iconst 1, 254, (0, 0, 0), 1, 0, []) else TN) else (bif Nat.beq pc 254 then (.goto 4, 257, (258, 0, 0), 0, 0, []) else TN))) else (bif Nat.blt pc 259 then (bif Nat.blt pc 258 then (bif Nat.beq pc 257 then (.iconst 0, 258, (0, 0, 0), 0, 0, []) else TN) else (bif Nat.beq pc 258 then (.iadd, 259, (0, 0, 0), 0, 0, []) else TN)) else (bif Nat.blt pc 260 then (bif Nat.beq pc 259 then (.iastore, 260, (0, 0, 0), 0, 0, []) else TN) else (bif Nat.beq pc 260 then (.goto 22, 263, (282, 0, 0), 0, 0, []) else TN))))) else (bif Nat.blt pc 275 then (bif Nat.blt pc 268 then (bif Nat.blt pc 264 then (bif Nat.beq pc 263 then (.aload_n 0, 264, (0, 0, 0), 0, 0, []) else TN) else (bif Nat.blt pc 267 then (bif Nat.beq pc 264 then (.getfield 118, 267, (12, 46, 0), 0, 0, []) else TN) else (bif Nat.beq pc 267 then (.iconst 3, 268, (0, 0, 0), 3, 0, []) else TN))) else (bif Nat.blt pc 270 then (bif Nat.blt pc 269 then (bif Nat.beq pc 268 then (.dup2, 269, (0, 0, 0), 0, 0, []) else TN) else (bif Nat.beq pc 269 then (.iaload, 270, (0, 0, 0), 0, 0, []) else TN)) else (bif Nat.blt pc 272 then (bif Nat.beq pc 270 then (.iload 5, 272, (5, 0, 0), 0, 0, []) else TN) else (bif Nat.beq pc 272 then (.ifCond .eq 7, 275, (279, 0, 0), 0, 0, []) else TN)))) else (bif Nat.blt pc 280 then (bif Nat.blt pc 276 then (bif Nat.beq pc 275 then (.iconst 1, 276, (0, 0, 0), 1, 0, []) else TN) else (bif Nat.blt pc 279 then (bif Nat.beq pc 276 then (.goto 4, 279, (280, 0, 0), 0, 0, []) else TN) else (bif Nat.beq pc 279 then (.iconst 0, 280, (0, 0, 0), 0, 0, []) else TN))) else (bif Nat.blt pc 282 then (bif Nat.blt pc 281 then (bif Nat.beq pc 280 then (.iadd, 281, (0, 0, 0), 0, 0, []) else TN) else (bif Nat.beq pc 281 then (.iastore, 282, (0, 0, 0), 0, 0, []) else TN)) else (bif Nat.blt pc 285 then (bif Nat.beq pc 282 then (.iinc 3 1, 285, (3, 0, 0), 1, 0, []) else TN) else (bif Nat.beq pc 285 then (.goto (-262), 288, (23, 0, 0), 0, 0, []) else TN))))))) else (bif Nat.blt pc 331 then (bif Nat.blt pc 308 then (bif Nat.blt pc 299 then (bif Nat.blt pc 293 then (bif Nat.blt pc 289 then (bif Nat.beq pc 288 then (.aload_n 0, 289, (0, 0, 0), 0, 0, []) else TN) else (bif Nat.blt pc 292 then (bif Nat.beq pc 289 then (.getfield 118, 292, (12, 46, 0), 0, 0, []) else TN) else (bif Nat.beq pc 292 then (.iconst 2, 293, (0, 0, 0), 2, 0, []) else TN))) else (bif Nat.blt pc 297 then (bif Nat.blt pc 294 then (bif Nat.beq pc 293 then (.aload_n 0, 294, (0, 0, 0), 0, 0, []) else TN) else (bif Nat.beq pc 294 then (.getfield 118, 297, (12, 46, 0), 0, 0, []) else TN)) else (bif Nat.blt pc 298 then (bif Nat.beq pc 297 then (.iconst 0, 298, (0, 0, 0), 0, 0, []) else TN) else (bif Nat.beq pc 298 then (.iaload, 299, (0, 0, 0), 0, 0, []) else TN)))) else (bif Nat.blt pc 304 then (bif Nat.blt pc 300 then (bif Nat.beq pc 299 then (.aload_n 0, 300, (0, 0, 0), 0, 0, []) else TN) else (bif Nat.blt pc 303 then (bif Nat.beq pc 300 then (.getfield 118, 303, (12, 46, 0), 0, 0, []) else TN) else (bif Nat.beq pc 303 then (.iconst 1, 304, (0, 0, 0), 1, 0, []) else TN))) else (bif Nat.blt pc 306 then (bif Nat.blt pc 305 then (bif Nat.beq pc 304 then (.iaload, 305, (0, 0, 0), 0, 0, []) else TN) else (bif Nat.beq pc 305 then (.isub, 306, (0, 0, 0), 0, 0, []) else TN)) else (bif Nat.blt pc 307 then (bif Nat.beq pc 306 then (.iastore, 307, (0, 0, 0), 0, 0, []) else TN) else (bif Nat.beq pc 307 then (.iconst 0, 308, (0, 0, 0), 0, 0, []) else TN))))) else (bif Nat.blt pc 321 then (bif Nat.blt pc 311 then (bif Nat.blt pc 309 then (bif Nat.beq pc 308 then (.istore_n 3, 309, (3, 0, 0), 0, 0, []) else TN) else (bif Nat.blt pc 310 then (bif Nat.beq pc 309 then (.iload_n 3, 310, (3, 0, 0), 0, 0, []) else TN) else (bif Nat.beq pc 310 then (.aload_n 0, 311, (0, 0, 0), 0, 0, []) else TN))) else (bif Nat.blt pc 317 then (bif Nat.blt pc 314 then (bif Nat.beq pc 311 then (.getfield 143, 314, (12, 2, 0), 0, 0, []) else TN) else (bif Nat.beq pc 314 then (.if_icmp .ge 50, 317, (364, 0, 0), 0, 0, []) else TN)) else (bif Nat.blt pc 318 then (bif Nat.beq pc 317 then (.aload_n 0, 318, (0, 0, 0), 0, 0, []) else TN) else (bif Nat.beq pc 318 then (.getfield 118, 321, (12, 46, 0), 0, 0, []) else TN)))) else (bif Nat.blt pc 327 then (bif Nat.blt pc 323 then (bif Nat.beq pc 321 then (.bipush 8, 323, (0, 0, 0), 8, 0, []) else TN) else (bif Nat.blt pc 324 then (bif Nat.beq pc 323 then (.aload_n 0, 324, (0, 0, 0), 0, 0, []) else TN) else (bif Nat.beq pc 324 then (.getfield 43, 327, (12, 17, 0), 0, 0, []) else TN))) else (bif Nat.blt pc 329 then (bif Nat.blt pc 328 then (bif Nat.beq pc 327 then (.iload_n 1, 328, (1, 0, 0), 0, 0, []) else TN) else (bif Nat.beq pc 328 then (.iaload, 329, (0, 0, 0), 0, 0, []) else TN)) else (bif Nat.blt pc 330 then (bif Nat.beq pc 329 then (.iload_n 3, 330, (3, 0, 0), 0, 0, []) else TN) else (bif Nat.beq pc 330 then (.ishr, 331, (0, 0, 0), 0, 0, []) else TN)))))) else (bif Nat.blt pc 356 then (bif Nat.blt pc 340 then (bif Nat.blt pc 334 then (bif Nat.blt pc 332 then (bif Nat.beq pc 331 then (.iconst 1, 332, (0, 0, 0), 1, 0, []) else TN) else (bif Nat.blt pc 333 then (bif Nat.beq pc 332 then (.iand, 333, (0, 0, 0), 0, 0, []) else TN) else (bif Nat.beq pc 333 then (.iconst 1, 334, (0, 0, 0), 1, 0, []) else TN))) else (bif Nat.blt pc 338 then (bif Nat.blt pc 337 then (bif Nat.beq pc 334 then (.if_icmp .ne 16, 337, (350, 0, 0), 0, 0, []) else TN) else (bif Nat.beq pc 337 then (.aload_n 0, 338, (0, 0, 0), 0, 0, []) else TN)) else (bif Nat.blt pc 339 then (bif Nat.beq pc 338 then (.iload_n 3, 339, (3, 0, 0), 0, 0, []) else TN) else (bif Nat.beq pc 339 then (.iconst 1, 340, (0, 0, 0), 1, 0, []) else TN)))) else (bif Nat.blt pc 347 then (bif Nat.blt pc 343 then (bif Nat.beq pc 340 then (.invokevirtual 162, 343, (159, 2, 12), 0, 0, []) else TN) else (bif Nat.blt pc 346 then (bif Nat.beq pc 343 then (.ifCond .eq 7, 346, (350, 0, 0), 0, 0, []) else TN) else (bif Nat.beq pc 346 then (.iconst 1, 347, (0, 0, 0), 1, 0, []) else TN))) else (bif Nat.blt pc 351 then (bif Nat.blt pc 350 then (bif Nat.beq pc 347 then (.goto 10, 350, (357, 0, 0), 0, 0, []) else TN) else (bif Nat.beq pc 350 then (.aload_n 0, 351, (0, 0, 0), 0, 0, []) else TN)) else (bif Nat.blt pc 354 then (bif Nat.beq pc 351 then (.getfield 118, 354, (12, 46, 0), 0, 0, []) else TN) else (bif Nat.beq pc 354 then (.bipush 8, 356, (0, 0, 0), 8, 0, []) else TN))))) else (bif Nat.blt pc 370 then (bif Nat.blt pc 361 then (bif Nat.blt pc 357 then (bif Nat.beq pc 356 then (.iaload, 357, (0, 0, 0), 0, 0, []) else TN) else (bif Nat.blt pc 358 then (bif Nat.beq pc 357 then (.iastore, 358, (0, 0, 0), 0, 0, []) else TN) else (bif Nat.beq pc 358 then (.iinc 3 1, 361, (3, 0, 0), 1, 0, []) else TN))) else (bif Nat.blt pc 365 then (bif Nat.blt pc 364 then (bif Nat.beq pc 361 then (.goto (-52), 364, (309, 0, 0), 0, 0, []) else TN) else (bif Nat.beq pc 364 then (.aload_n 0, 365, (0, 0, 0), 0, 0, []) else TN)) else (bif Nat.blt pc 368 then (bif Nat.beq pc 365 then (.getfield 118, 368, (12, 46, 0), 0, 0, []) else TN) else (bif Nat.beq pc 368 then (.bipush 9, 370, (0, 0, 0), 9, 0, []) else TN)))) else (bif Nat.blt pc 376 then (bif Nat.blt pc 372 then (bif Nat.blt pc 371 then (bif Nat.beq pc 370 then (.iload_n 2, 371, (2, 0, 0), 0, 0, []) else TN) else (bif Nat.beq pc 371 then (.aload_n 0, 372, (0, 0, 0), 0, 0, []) else TN)) else (bif Nat.blt pc 375 then (bif Nat.beq pc 372 then (.getfield 46, 375, (12, 18, 0), 0, 0, []) else TN) else (bif Nat.beq pc 375 then (.iload_n 1, 376, (1, 0, 0), 0, 0, []) else TN))) else (bif Nat.blt pc 378 then (bif Nat.blt pc 377 then (bif Nat.beq pc 376 then (.iaload, 377, (0, 0, 0), 0, 0, []) else TN) else (bif Nat.beq pc 377 then (.isub, 378, (0, 0, 0), 0, 0, []) else TN)) else (bif Nat.blt pc 379 then (bif Nat.beq pc 378 then (.iastore, 379, (0, 0, 0), 0, 0, []) else TN) else (bif Nat.beq pc 379 then (.return_, 380, (0, 0, 0), 0, 0, []) else TN))))))))
def tb_X12_knows (pc : Nat) : TI := bif Nat.ble 380 pc then TN else tt_X12_knows pc
theorem ok_X12_knows : tOK 12 (decide ("knows" = "<init>")) cX12_knows tb_X12_knows := tOK_of 380 tn_of (by decide +kernel)
def f_X12_knows_282 (c23 : Lay → Sto → Nat → Int32 → Int32 → Int32 → Option Sto) (L : Lay) (σ : Sto) (a0 : Nat) (a1 : Int32) (a2 : Int32) (a3 : Int32) : Option Sto := c23 L σ a0 a1 a2 (a3 + 1)
def A_X12_knows_282 (c : Lay → Sto → Nat → Int32 → Int32 → Int32 → Option Sto) (lc : List (Option AV)) (st : List AV) (L : Lay) (σ : Sto) : Option Sto := match lc, st with
  | [some (.inr (.inr (.inl (ta0, some a0)))), some (.inl a1), some (.inl a2), some (.inl a3), _, _, _], [] => bif Nat.beq ta0 12 && true then c L σ a0 a1 a2 a3 else none
  | _, _ => none
def f_X12_knows_258 (c23 : Lay → Sto → Nat → Int32 → Int32 → Int32 → Option Sto) (L : Lay) (σ : Sto) (a0 : Nat) (a1 : Int32) (a2 : Int32) (a3 : Int32) (s0 : Int32) (s1 : Int32) (s2 : Int32) (s3 : Option Nat) : Option Sto := s3.bind fun x1 => (wI L σ x1 s2 (s1 + s0)).bind fun σ2 => (f_X12_knows_282 c23) L σ2 a0 a1 a2 a3
def A_X12_knows_258 (c : Lay → Sto → Nat → Int32 → Int32 → Int32 → Int32 → Int32 → Int32 → Option Nat → Option Sto) (lc : List (Option AV)) (st : List AV) (L : Lay) (σ : Sto) : Option Sto := match lc, st with
  | [some (.inr (.inr (.inl (ta0, some a0)))), some (.inl a1), some (.inl a2), some (.inl a3), _, _, _], [.inl s0, .inl s1, .inl s2, .inr (.inr (.inl (ts3, s3)))] => bif Nat.beq ta0 12 && (Nat.beq ts3 20 && true) then c L σ a0 a1 a2 a3 s0 s1 s2 s3 else none
  | _, _ => none
def f_X12_knows_257 (c23 : Lay → Sto → Nat → Int32 → Int32 → Int32 → Option Sto) (L : Lay) (σ : Sto) (a0 : Nat) (a1 : Int32) (a2 : Int32) (a3 : Int32) (s0 : Int32) (s1 : Int32) (s2 : Option Nat) : Option Sto := (f_X12_knows_258 c23) L σ a0 a1 a2 a3 0 s0 s1 s2
def A_X12_knows_257 (c : Lay → Sto → Nat → Int32 → Int32 → Int32 → Int32 → Int32 → Option Nat → Option Sto) (lc : List (Option AV)) (st : List AV) (L : Lay) (σ : Sto) : Option Sto := match lc, st with
  | [some (.inr (.inr (.inl (ta0, some a0)))), some (.inl a1), some (.inl a2), some (.inl a3), _, _, _], [.inl s0, .inl s1, .inr (.inr (.inl (ts2, s2)))] => bif Nat.beq ta0 12 && (Nat.beq ts2 20 && true) then c L σ a0 a1 a2 a3 s0 s1 s2 else none
  | _, _ => none
def f_X12_knows_227 (c23 : Lay → Sto → Nat → Int32 → Int32 → Int32 → Option Sto) (L : Lay) (σ : Sto) (a0 : Nat) (a1 : Int32) (a2 : Int32) (a3 : Int32) (a4 : Int32) (a6 : Int32) (s0 : Int32) (s1 : Int32) (s2 : Int32) (s3 : Option Nat) : Option Sto := s3.bind fun x3 => (wI L σ x3 s2 (s1 + s0)).bind fun σ4 => (σ4.2.1 a0 46).bind fun x5 => (rI L σ4 x5 7).bind fun v6 => (if a6 = 0 then (f_X12_knows_257 c23) L σ4 a0 a1 a2 a3 v6 7 (σ4.2.1 a0 46) else (σ4.2.1 a0 21).bind fun x7 => (rI L σ4 x7 a4).bind fun v8 => (if v8 = 2 then (f_X12_knows_258 c23) L σ4 a0 a1 a2 a3 1 v6 7 (σ4.2.1 a0 46) else (f_X12_knows_257 c23) L σ4 a0 a1 a2 a3 v6 7 (σ4.2.1 a0 46)))
def A_X12_knows_227 (c : Lay → Sto → Nat → Int32 → Int32 → Int32 → Int32 → Int32 → Int32 → Int32 → Int32 → Option Nat → Option Sto) (lc : List (Option AV)) (st : List AV) (L : Lay) (σ : Sto) : Option Sto := match lc, st with
  | [some (.inr (.inr (.inl (ta0, some a0)))), some (.inl a1), some (.inl a2), some (.inl a3), some (.inl a4), _, some (.inl a6)], [.inl s0, .inl s1, .inl s2, .inr (.inr (.inl (ts3, s3)))] => bif Nat.beq ta0 12 && (Nat.beq ts3 20 && true) then c L σ a0 a1 a2 a3 a4 a6 s0 s1 s2 s3 else none
  | _, _ => none
def f_X12_knows_226 (c23 : Lay → Sto → Nat → Int32 → Int32 → Int32 → Option Sto) (L : Lay) (σ : Sto) (a0 : Nat) (a1 : Int32) (a2 : Int32) (a3 : Int32) (a4 : Int32) (a6 : Int32) (s0 : Int32) (s1 : Int32) (s2 : Option Nat) : Option Sto := (f_X12_knows_227 c23) L σ a0 a1 a2 a3 a4 a6 0 s0 s1 s2
def A_X12_knows_226 (c : Lay → Sto → Nat → Int32 → Int32 → Int32 → Int32 → Int32 → Int32 → Int32 → Option Nat → Option Sto) (lc : List (Option AV)) (st : List AV) (L : Lay) (σ : Sto) : Option Sto := match lc, st with
  | [some (.inr (.inr (.inl (ta0, some a0)))), some (.inl a1), some (.inl a2), some (.inl a3), some (.inl a4), _, some (.inl a6)], [.inl s0, .inl s1, .inr (.inr (.inl (ts2, s2)))] => bif Nat.beq ta0 12 && (Nat.beq ts2 20 && true) then c L σ a0 a1 a2 a3 a4 a6 s0 s1 s2 else none
  | _, _ => none
def f_X12_knows_196 (c23 : Lay → Sto → Nat → Int32 → Int32 → Int32 → Option Sto) (L : Lay) (σ : Sto) (a0 : Nat) (a1 : Int32) (a2 : Int32) (a3 : Int32) (a4 : Int32) (a6 : Int32) (s0 : Int32) (s1 : Int32) (s2 : Int32) (s3 : Option Nat) : Option Sto := s3.bind fun x9 => (wI L σ x9 s2 (s1 + s0)).bind fun σ10 => (σ10.2.1 a0 46).bind fun x11 => (rI L σ10 x11 6).bind fun v12 => (if a6 = 0 then (f_X12_knows_226 c23) L σ10 a0 a1 a2 a3 a4 a6 v12 6 (σ10.2.1 a0 46) else (σ10.2.1 a0 21).bind fun x13 => (rI L σ10 x13 a4).bind fun v14 => (if v14 = 1 then (f_X12_knows_227 c23) L σ10 a0 a1 a2 a3 a4 a6 1 v12 6 (σ10.2.1 a0 46) else (f_X12_knows_226 c23) L σ10 a0 a1 a2 a3 a4 a6 v12 6 (σ10.2.1 a0 46)))
def A_X12_knows_196 (c : Lay → Sto → Nat → Int32 → Int32 → Int32 → Int32 → Int32 → Int32 → Int32 → Int32 → Option Nat → Option Sto) (lc : List (Option AV)) (st : List AV) (L : Lay) (σ : Sto) : Option Sto := match lc, st with
  | [some (.inr (.inr (.inl (ta0, some a0)))), some (.inl a1), some (.inl a2), some (.inl a3), some (.inl a4), _, some (.inl a6)], [.inl s0, .inl s1, .inl s2, .inr (.inr (.inl (ts3, s3)))] => bif Nat.beq ta0 12 && (Nat.beq ts3 20 && true) then c L σ a0 a1 a2 a3 a4 a6 s0 s1 s2 s3 else none
  | _, _ => none
def f_X12_knows_195 (c23 : Lay → Sto → Nat → Int32 → Int32 → Int32 → Option Sto) (L : Lay) (σ : Sto) (a0 : Nat) (a1 : Int32) (a2 : Int32) (a3 : Int32) (a4 : Int32) (a6 : Int32) (s0 : Int32) (s1 : Int32) (s2 : Option Nat) : Option Sto := (f_X12_knows_196 c23) L σ a0 a1 a2 a3 a4 a6 0 s0 s1 s2
def A_X12_knows_195 (c : Lay → Sto → Nat → Int32 → Int32 → Int32 → Int32 → Int32 → Int32 → Int32 → Option Nat → Option Sto) (lc : List (Option AV)) (st : List AV) (L : Lay) (σ : Sto) : Option Sto := match lc, st with
  | [some (.inr (.inr (.inl (ta0, some a0)))), some (.inl a1), some (.inl a2), some (.inl a3), some (.inl a4), _, some (.inl a6)], [.inl s0, .inl s1, .inr (.inr (.inl (ts2, s2)))] => bif Nat.beq ta0 12 && (Nat.beq ts2 20 && true) then c L σ a0 a1 a2 a3 a4 a6 s0 s1 s2 else none
  | _, _ => none
def f_X12_knows_167 (c23 : Lay → Sto → Nat → Int32 → Int32 → Int32 → Option Sto) (L : Lay) (σ : Sto) (a0 : Nat) (a1 : Int32) (a2 : Int32) (a3 : Int32) (a4 : Int32) (a6 : Int32) (s0 : Int32) (s1 : Int32) (s2 : Int32) (s3 : Option Nat) : Option Sto := s3.bind fun x15 => (wI L σ x15 s2 (s1 + s0)).bind fun σ16 => (σ16.2.1 a0 46).bind fun x17 => (rI L σ16 x17 5).bind fun v18 => (if a6 = 0 then (f_X12_knows_195 c23) L σ16 a0 a1 a2 a3 a4 a6 v18 5 (σ16.2.1 a0 46) else (σ16.2.1 a0 21).bind fun x19 => (rI L σ16 x19 a4).bind fun v20 => (if v20 ≤ 0 then (f_X12_knows_195 c23) L σ16 a0 a1 a2 a3 a4 a6 v18 5 (σ16.2.1 a0 46) else (f_X12_knows_196 c23) L σ16 a0 a1 a2 a3 a4 a6 1 v18 5 (σ16.2.1 a0 46)))
def A_X12_knows_167 (c : Lay → Sto → Nat → Int32 → Int32 → Int32 → Int32 → Int32 → Int32 → Int32 → Int32 → Option Nat → Option Sto) (lc : List (Option AV)) (st : List AV) (L : Lay) (σ : Sto) : Option Sto := match lc, st with
  | [some (.inr (.inr (.inl (ta0, some a0)))), some (.inl a1), some (.inl a2), some (.inl a3), some (.inl a4), _, some (.inl a6)], [.inl s0, .inl s1, .inl s2, .inr (.inr (.inl (ts3, s3)))] => bif Nat.beq ta0 12 && (Nat.beq ts3 20 && true) then c L σ a0 a1 a2 a3 a4 a6 s0 s1 s2 s3 else none
  | _, _ => none
def f_X12_knows_166 (c23 : Lay → Sto → Nat → Int32 → Int32 → Int32 → Option Sto) (L : Lay) (σ : Sto) (a0 : Nat) (a1 : Int32) (a2 : Int32) (a3 : Int32) (a4 : Int32) (a6 : Int32) (s0 : Int32) (s1 : Int32) (s2 : Option Nat) : Option Sto := (f_X12_knows_167 c23) L σ a0 a1 a2 a3 a4 a6 0 s0 s1 s2
def A_X12_knows_166 (c : Lay → Sto → Nat → Int32 → Int32 → Int32 → Int32 → Int32 → Int32 → Int32 → Option Nat → Option Sto) (lc : List (Option AV)) (st : List AV) (L : Lay) (σ : Sto) : Option Sto := match lc, st with
  | [some (.inr (.inr (.inl (ta0, some a0)))), some (.inl a1), some (.inl a2), some (.inl a3), some (.inl a4), _, some (.inl a6)], [.inl s0, .inl s1, .inr (.inr (.inl (ts2, s2)))] => bif Nat.beq ta0 12 && (Nat.beq ts2 20 && true) then c L σ a0 a1 a2 a3 a4 a6 s0 s1 s2 else none
  | _, _ => none
def f_X12_knows_138 (c23 : Lay → Sto → Nat → Int32 → Int32 → Int32 → Option Sto) (L : Lay) (σ : Sto) (a0 : Nat) (a1 : Int32) (a2 : Int32) (a3 : Int32) (a4 : Int32) (a6 : Int32) (s0 : Int32) (s1 : Int32) (s2 : Int32) (s3 : Option Nat) : Option Sto := s3.bind fun x21 => (wI L σ x21 s2 (s1 + s0)).bind fun σ22 => (σ22.2.1 a0 46).bind fun x23 => (rI L σ22 x23 4).bind fun v24 => (if a6 = 0 then (f_X12_knows_166 c23) L σ22 a0 a1 a2 a3 a4 a6 v24 4 (σ22.2.1 a0 46) else (σ22.2.1 a0 21).bind fun x25 => (rI L σ22 x25 a4).bind fun v26 => (if v26 = 0 then (f_X12_knows_167 c23) L σ22 a0 a1 a2 a3 a4 a6 1 v24 4 (σ22.2.1 a0 46) else (f_X12_knows_166 c23) L σ22 a0 a1 a2 a3 a4 a6 v24 4 (σ22.2.1 a0 46)))
def A_X12_knows_138 (c : Lay → Sto → Nat → Int32 → Int32 → Int32 → Int32 → Int32 → Int32 → Int32 → Int32 → Option Nat → Option Sto) (lc : List (Option AV)) (st : List AV) (L : Lay) (σ : Sto) : Option Sto := match lc, st with
  | [some (.inr (.inr (.inl (ta0, some a0)))), some (.inl a1), some (.inl a2), some (.inl a3), some (.inl a4), _, some (.inl a6)], [.inl s0, .inl s1, .inl s2, .inr (.inr (.inl (ts3, s3)))] => bif Nat.beq ta0 12 && (Nat.beq ts3 20 && true) then c L σ a0 a1 a2 a3 a4 a6 s0 s1 s2 s3 else none
  | _, _ => none
def f_X12_knows_280 (c23 : Lay → Sto → Nat → Int32 → Int32 → Int32 → Option Sto) (L : Lay) (σ : Sto) (a0 : Nat) (a1 : Int32) (a2 : Int32) (a3 : Int32) (s0 : Int32) (s1 : Int32) (s2 : Int32) (s3 : Option Nat) : Option Sto := s3.bind fun x27 => (wI L σ x27 s2 (s1 + s0)).bind fun σ28 => (f_X12_knows_282 c23) L σ28 a0 a1 a2 a3
def A_X12_knows_280 (c : Lay → Sto → Nat → Int32 → Int32 → Int32 → Int32 → Int32 → Int32 → Option Nat → Option Sto) (lc : List (Option AV)) (st : List AV) (L : Lay) (σ : Sto) : Option Sto := match lc, st with
  | [some (.inr (.inr (.inl (ta0, some a0)))), some (.inl a1), some (.inl a2), some (.inl a3), _, _, _], [.inl s0, .inl s1, .inl s2, .inr (.inr (.inl (ts3, s3)))] => bif Nat.beq ta0 12 && (Nat.beq ts3 20 && true) then c L σ a0 a1 a2 a3 s0 s1 s2 s3 else none
  | _, _ => none
def f_X12_knows_100 (c23 : Lay → Sto → Nat → Int32 → Int32 → Int32 → Option Sto) (L : Lay) (σ : Sto) (a0 : Nat) (a1 : Int32) (a2 : Int32) (a3 : Int32) (a4 : Int32) (a5 : Int32) (s0 : Int32) : Option Sto := (f_X12_isEntitled L σ a0 a1 a3).bind fun r29 => (if r29 = 0 then (σ.2.1 a0 46).bind fun x30 => (rI L σ x30 3).bind fun v31 => (if a5 = 0 then (f_X12_knows_280 c23) L σ a0 a1 a2 a3 0 v31 3 (σ.2.1 a0 46) else (f_X12_knows_280 c23) L σ a0 a1 a2 a3 1 v31 3 (σ.2.1 a0 46)) else (σ.2.1 a0 46).bind fun x32 => (rI L σ x32 0).bind fun v33 => (σ.2.1 a0 46).bind fun x34 => (wI L σ x34 0 (v33 + 1)).bind fun σ35 => (σ35.2.1 a0 46).bind fun x36 => (rI L σ35 x36 1).bind fun v37 => (if a5 = 0 then (f_X12_knows_138 c23) L σ35 a0 a1 a2 a3 a4 s0 0 v37 1 (σ35.2.1 a0 46) else (f_X12_knows_138 c23) L σ35 a0 a1 a2 a3 a4 s0 1 v37 1 (σ35.2.1 a0 46)))
def A_X12_knows_100 (c : Lay → Sto → Nat → Int32 → Int32 → Int32 → Int32 → Int32 → Int32 → Option Sto) (lc : List (Option AV)) (st : List AV) (L : Lay) (σ : Sto) : Option Sto := match lc, st with
  | [some (.inr (.inr (.inl (ta0, some a0)))), some (.inl a1), some (.inl a2), some (.inl a3), some (.inl a4), some (.inl a5), _], [.inl s0] => bif Nat.beq ta0 12 && true then c L σ a0 a1 a2 a3 a4 a5 s0 else none
  | _, _ => none
def f_X12_knows_99 (c23 : Lay → Sto → Nat → Int32 → Int32 → Int32 → Option Sto) (L : Lay) (σ : Sto) (a0 : Nat) (a1 : Int32) (a2 : Int32) (a3 : Int32) (a4 : Int32) (a5 : Int32) : Option Sto := (f_X12_knows_100 c23) L σ a0 a1 a2 a3 a4 a5 0
def A_X12_knows_99 (c : Lay → Sto → Nat → Int32 → Int32 → Int32 → Int32 → Int32 → Option Sto) (lc : List (Option AV)) (st : List AV) (L : Lay) (σ : Sto) : Option Sto := match lc, st with
  | [some (.inr (.inr (.inl (ta0, some a0)))), some (.inl a1), some (.inl a2), some (.inl a3), some (.inl a4), some (.inl a5), _], [] => bif Nat.beq ta0 12 && true then c L σ a0 a1 a2 a3 a4 a5 else none
  | _, _ => none
def f_X12_knows_66 (c23 : Lay → Sto → Nat → Int32 → Int32 → Int32 → Option Sto) (L : Lay) (σ : Sto) (a0 : Nat) (a1 : Int32) (a2 : Int32) (a3 : Int32) (a4 : Int32) (s0 : Int32) : Option Sto := (if s0 = 0 then (f_X12_knows_99 c23) L σ a0 a1 a2 a3 a4 s0 else (σ.2.1 a0 21).bind fun x38 => (rI L σ x38 a4).bind fun v39 => (if v39 = (-1) then (f_X12_knows_99 c23) L σ a0 a1 a2 a3 a4 s0 else (σ.2.1 a0 22).bind fun x40 => (rI L σ x40 a4).bind fun v41 => (if a2 < v41 then (f_X12_knows_99 c23) L σ a0 a1 a2 a3 a4 s0 else (f_X12_knows_100 c23) L σ a0 a1 a2 a3 a4 s0 1)))
def A_X12_knows_66 (c : Lay → Sto → Nat → Int32 → Int32 → Int32 → Int32 → Int32 → Option Sto) (lc : List (Option AV)) (st : List AV) (L : Lay) (σ : Sto) : Option Sto := match lc, st with
  | [some (.inr (.inr (.inl (ta0, some a0)))), some (.inl a1), some (.inl a2), some (.inl a3), some (.inl a4), _, _], [.inl s0] => bif Nat.beq ta0 12 && true then c L σ a0 a1 a2 a3 a4 s0 else none
  | _, _ => none
def f_X12_knows_65 (c23 : Lay → Sto → Nat → Int32 → Int32 → Int32 → Option Sto) (L : Lay) (σ : Sto) (a0 : Nat) (a1 : Int32) (a2 : Int32) (a3 : Int32) (a4 : Int32) : Option Sto := (f_X12_knows_66 c23) L σ a0 a1 a2 a3 a4 0
def A_X12_knows_65 (c : Lay → Sto → Nat → Int32 → Int32 → Int32 → Int32 → Option Sto) (lc : List (Option AV)) (st : List AV) (L : Lay) (σ : Sto) : Option Sto := match lc, st with
  | [some (.inr (.inr (.inl (ta0, some a0)))), some (.inl a1), some (.inl a2), some (.inl a3), some (.inl a4), _, _], [] => bif Nat.beq ta0 12 && true then c L σ a0 a1 a2 a3 a4 else none
  | _, _ => none
def f_X12_knows_357 (c309 : Lay → Sto → Nat → Int32 → Int32 → Int32 → Option Sto) (L : Lay) (σ : Sto) (a0 : Nat) (a1 : Int32) (a2 : Int32) (a3 : Int32) (s0 : Int32) (s1 : Int32) (s2 : Option Nat) : Option Sto := s2.bind fun x42 => (wI L σ x42 s1 s0).bind fun σ43 => c309 L σ43 a0 a1 a2 (a3 + 1)
def A_X12_knows_357 (c : Lay → Sto → Nat → Int32 → Int32 → Int32 → Int32 → Int32 → Option Nat → Option Sto) (lc : List (Option AV)) (st : List AV) (L : Lay) (σ : Sto) : Option Sto := match lc, st with
  | [some (.inr (.inr (.inl (ta0, some a0)))), some (.inl a1), some (.inl a2), some (.inl a3), _, _, _], [.inl s0, .inl s1, .inr (.inr (.inl (ts2, s2)))] => bif Nat.beq ta0 12 && (Nat.beq ts2 20 && true) then c L σ a0 a1 a2 a3 s0 s1 s2 else none
  | _, _ => none
def f_X12_knows_350 (c309 : Lay → Sto → Nat → Int32 → Int32 → Int32 → Option Sto) (L : Lay) (σ : Sto) (a0 : Nat) (a1 : Int32) (a2 : Int32) (a3 : Int32) (s0 : Int32) (s1 : Option Nat) : Option Sto := (σ.2.1 a0 46).bind fun x44 => (rI L σ x44 8).bind fun v45 => (f_X12_knows_357 c309) L σ a0 a1 a2 a3 v45 s0 s1
def A_X12_knows_350 (c : Lay → Sto → Nat → Int32 → Int32 → Int32 → Int32 → Option Nat → Option Sto) (lc : List (Option AV)) (st : List AV) (L : Lay) (σ : Sto) : Option Sto := match lc, st with
  | [some (.inr (.inr (.inl (ta0, some a0)))), some (.inl a1), some (.inl a2), some (.inl a3), _, _, _], [.inl s0, .inr (.inr (.inl (ts1, s1)))] => bif Nat.beq ta0 12 && (Nat.beq ts1 20 && true) then c L σ a0 a1 a2 a3 s0 s1 else none
  | _, _ => none
def f_X12_knows_309 : Nat → Lay → Sto → Nat → Int32 → Int32 → Int32 → Option Sto
  | 0 => fun _ _ _ _ _ _ => none
  | k + 1 => fun L σ a0 a1 a2 a3 => (if (σ.1 a0 2) ≤ a3 then (σ.2.1 a0 18).bind fun x46 => (rI L σ x46 a1).bind fun v47 => (σ.2.1 a0 46).bind fun x48 => (wI L σ x48 9 (a2 - v47)).bind fun σ49 => some σ49 else (σ.2.1 a0 17).bind fun x50 => (rI L σ x50 a1).bind fun v51 => (if ((v51 >>> (a3 &&& 31)) &&& 1) = 1 then (f_X12_isOfKind L σ a0 a3 1).bind fun r52 => (if r52 = 0 then (f_X12_knows_350 (f_X12_knows_309 k)) L σ a0 a1 a2 a3 8 (σ.2.1 a0 46) else (f_X12_knows_357 (f_X12_knows_309 k)) L σ a0 a1 a2 a3 1 8 (σ.2.1 a0 46)) else (f_X12_knows_350 (f_X12_knows_309 k)) L σ a0 a1 a2 a3 8 (σ.2.1 a0 46)))
def A_X12_knows_309 (c : Lay → Sto → Nat → Int32 → Int32 → Int32 → Option Sto) (lc : List (Option AV)) (st : List AV) (L : Lay) (σ : Sto) : Option Sto := match lc, st with
  | [some (.inr (.inr (.inl (ta0, some a0)))), some (.inl a1), some (.inl a2), some (.inl a3), _, _, _], [] => bif Nat.beq ta0 12 && true then c L σ a0 a1 a2 a3 else none
  | _, _ => none
def f_X12_knows_23 : Nat → Lay → Sto → Nat → Int32 → Int32 → Int32 → Option Sto
  | 0 => fun _ _ _ _ _ _ => none
  | k + 1 => fun L σ a0 a1 a2 a3 => (if (σ.1 a0 4) ≤ a3 then (σ.2.1 a0 46).bind fun x53 => (rI L σ x53 0).bind fun v54 => (σ.2.1 a0 46).bind fun x55 => (rI L σ x55 1).bind fun v56 => (σ.2.1 a0 46).bind fun x57 => (wI L σ x57 2 (v54 - v56)).bind fun σ58 => (f_X12_knows_309 FU) L σ58 a0 a1 a2 0 else (σ.2.1 a0 20).bind fun x59 => (rI L σ x59 ((40 * a1) + a3)).bind fun v60 => (if v60 = (-1) then (f_X12_knows_65 (f_X12_knows_23 k)) L σ a0 a1 a2 a3 ((40 * a1) + a3) else (σ.2.1 a0 20).bind fun x61 => (rI L σ x61 ((40 * a1) + a3)).bind fun v62 => (if a2 < v62 then (f_X12_knows_65 (f_X12_knows_23 k)) L σ a0 a1 a2 a3 ((40 * a1) + a3) else (f_X12_knows_66 (f_X12_knows_23 k)) L σ a0 a1 a2 a3 ((40 * a1) + a3) 1)))
def A_X12_knows_23 (c : Lay → Sto → Nat → Int32 → Int32 → Int32 → Option Sto) (lc : List (Option AV)) (st : List AV) (L : Lay) (σ : Sto) : Option Sto := match lc, st with
  | [some (.inr (.inr (.inl (ta0, some a0)))), some (.inl a1), some (.inl a2), some (.inl a3), _, _, _], [] => bif Nat.beq ta0 12 && true then c L σ a0 a1 a2 a3 else none
  | _, _ => none
def f_X12_knows_2 : Nat → Lay → Sto → Nat → Int32 → Int32 → Int32 → Option Sto
  | 0 => fun _ _ _ _ _ _ => none
  | k + 1 => fun L σ a0 a1 a2 a3 => (if 13 ≤ a3 then (f_X12_knows_23 FU) L σ a0 a1 a2 0 else (σ.2.1 a0 46).bind fun x63 => (wI L σ x63 a3 0).bind fun σ64 => (f_X12_knows_2 k) L σ64 a0 a1 a2 (a3 + 1))
def A_X12_knows_2 (c : Lay → Sto → Nat → Int32 → Int32 → Int32 → Option Sto) (lc : List (Option AV)) (st : List AV) (L : Lay) (σ : Sto) : Option Sto := match lc, st with
  | [some (.inr (.inr (.inl (ta0, some a0)))), some (.inl a1), some (.inl a2), some (.inl a3), _, _, _], [] => bif Nat.beq ta0 12 && true then c L σ a0 a1 a2 a3 else none
  | _, _ => none
def f_X12_knows (L : Lay) (σ : Sto) (a0 : Nat) (a1 : Int32) (a2 : Int32) : Option Sto := (f_X12_knows_2 FU) L σ a0 a1 a2 0
def ad_X12_knows : ADT := fun O L σ as k => match as with
  | [.inr (.inr (.inl (ta0, some a0))), .inl a1, .inl a2] => bif Nat.beq ta0 12 && true then (f_X12_knows L σ a0 a1 a2).bind fun σ2 => k none L σ2 else none
  | _ => none
abbrev cl_X12_knows {O : Type} : CLT O := (clc 152 ad_X12_isEntitled (clc 159 ad_X12_isOfKind cl0))
theorem hc_X12_knows (G : GT) (l : Launch) {d : Nat} (hd : 4 ≤ d) {O : Type} : HCL G l (true, false) d (cl_X12_knows (O := O)) := (hclc (ca_X12_isEntitled G l (d := 3) (Nat.le_refl _)) (fun _ => rfl) (fun e => by cases e) (by omega) (hclc (ca_X12_isOfKind G l (d := 1) (Nat.le_refl _)) (fun _ => rfl) (fun e => by cases e) (by omega) hcl0))
theorem rt_X12_knows : retOK (6, 0) none := ⟨fun h => absurd h (by decide), fun h => absurd h (by decide), fun _ => rfl⟩
set_option maxRecDepth 20000 in
theorem b_X12_knows_282 {G : GT} {l : Launch} {d : Nat} {L0 : Lay} {σ0 : Sto} (hd : 4 ≤ d) {c23 : Lay → Sto → Nat → Int32 → Int32 → Int32 → Option Sto} (h23 : HF G l 12 "knows" cX12_knows 7 none d L0 σ0 (true, false) (dcV L0) 23 (A_X12_knows_23 c23)) : HF G l 12 "knows" cX12_knows 7 none d L0 σ0 (true, false) (dcV L0) 282 (A_X12_knows_282 (f_X12_knows_282 c23)) := by
  intro lc st L σ o h hI
  unfold A_X12_knows_282 at h
  split at h
  · obtain ⟨hq0, hA1⟩ := bif_s h
    obtain ⟨e0, hq1⟩ := beq_and hq0
    subst e0
    exact exs (sp := [23]) (K := (kc 23 (A_X12_knows_23 c23) k0)) ok_X12_knows rt_X12_knows (by omega) (hc_X12_knows G l hd) (hrV rfl) (hkc h23 hk0) 228 hA1 hI
  · cases h
set_option maxRecDepth 20000 in
theorem b_X12_knows_258 {G : GT} {l : Launch} {d : Nat} {L0 : Lay} {σ0 : Sto} (hd : 4 ≤ d) {c23 : Lay → Sto → Nat → Int32 → Int32 → Int32 → Option Sto} (h23 : HF G l 12 "knows" cX12_knows 7 none d L0 σ0 (true, false) (dcV L0) 23 (A_X12_knows_23 c23)) : HF G l 12 "knows" cX12_knows 7 none d L0 σ0 (true, false) (dcV L0) 258 (A_X12_knows_258 (f_X12_knows_258 c23)) := by
  intro lc st L σ o h hI
  unfold A_X12_knows_258 at h
  split at h
  · obtain ⟨hq0, hA1⟩ := bif_s h
    obtain ⟨e0, hq1⟩ := beq_and hq0
    obtain ⟨e1, hq2⟩ := beq_and hq1
    subst e0
    subst e1
    exact exs (sp := [282]) (K := (kc 282 (A_X12_knows_282 (f_X12_knows_282 c23)) k0)) ok_X12_knows rt_X12_knows (by omega) (hc_X12_knows G l hd) (hrV rfl) (hkc (b_X12_knows_282 hd h23) hk0) 228 hA1 hI
  · cases h
set_option maxRecDepth 20000 in
theorem b_X12_knows_257 {G : GT} {l : Launch} {d : Nat} {L0 : Lay} {σ0 : Sto} (hd : 4 ≤ d) {c23 : Lay → Sto → Nat → Int32 → Int32 → Int32 → Option Sto} (h23 : HF G l 12 "knows" cX12_knows 7 none d L0 σ0 (true, false) (dcV L0) 23 (A_X12_knows_23 c23)) : HF G l 12 "knows" cX12_knows 7 none d L0 σ0 (true, false) (dcV L0) 257 (A_X12_knows_257 (f_X12_knows_257 c23)) := by
  intro lc st L σ o h hI
  unfold A_X12_knows_257 at h
  split at h
  · obtain ⟨hq0, hA1⟩ := bif_s h
    obtain ⟨e0, hq1⟩ := beq_and hq0
    obtain ⟨e1, hq2⟩ := beq_and hq1
    subst e0
    subst e1
    exact exs (sp := [258]) (K := (kc 258 (A_X12_knows_258 (f_X12_knows_258 c23)) k0)) ok_X12_knows rt_X12_knows (by omega) (hc_X12_knows G l hd) (hrV rfl) (hkc (b_X12_knows_258 hd h23) hk0) 228 hA1 hI
  · cases h
set_option maxRecDepth 20000 in
theorem b_X12_knows_227 {G : GT} {l : Launch} {d : Nat} {L0 : Lay} {σ0 : Sto} (hd : 4 ≤ d) {c23 : Lay → Sto → Nat → Int32 → Int32 → Int32 → Option Sto} (h23 : HF G l 12 "knows" cX12_knows 7 none d L0 σ0 (true, false) (dcV L0) 23 (A_X12_knows_23 c23)) : HF G l 12 "knows" cX12_knows 7 none d L0 σ0 (true, false) (dcV L0) 227 (A_X12_knows_227 (f_X12_knows_227 c23)) := by
  intro lc st L σ o h hI
  unfold A_X12_knows_227 at h
  split at h
  · obtain ⟨hq0, hA1⟩ := bif_s h
    obtain ⟨e0, hq1⟩ := beq_and hq0
    obtain ⟨e1, hq2⟩ := beq_and hq1
    subst e0
    subst e1
    exact exs (sp := [257, 258]) (K := (kc 257 (A_X12_knows_257 (f_X12_knows_257 c23)) (kc 258 (A_X12_knows_258 (f_X12_knows_258 c23)) k0))) ok_X12_knows rt_X12_knows (by omega) (hc_X12_knows G l hd) (hrV rfl) (hkc (b_X12_knows_257 hd h23) (hkc (b_X12_knows_258 hd h23) hk0)) 228 hA1 hI
  · cases h
set_option maxRecDepth 20000 in
theorem b_X12_knows_226 {G : GT} {l : Launch} {d : Nat} {L0 : Lay} {σ0 : Sto} (hd : 4 ≤ d) {c23 : Lay → Sto → Nat → Int32 → Int32 → Int32 → Option Sto} (h23 : HF G l 12 "knows" cX12_knows 7 none d L0 σ0 (true, false) (dcV L0) 23 (A_X12_knows_23 c23)) : HF G l 12 "knows" cX12_knows 7 none d L0 σ0 (true, false) (dcV L0) 226 (A_X12_knows_226 (f_X12_knows_226 c23)) := by
  intro lc st L σ o h hI
  unfold A_X12_knows_226 at h
  split at h
  · obtain ⟨hq0, hA1⟩ := bif_s h
    obtain ⟨e0, hq1⟩ := beq_and hq0
    obtain ⟨e1, hq2⟩ := beq_and hq1
    subst e0
    subst e1
    exact exs (sp := [227]) (K := (kc 227 (A_X12_knows_227 (f_X12_knows_227 c23)) k0)) ok_X12_knows rt_X12_knows (by omega) (hc_X12_knows G l hd) (hrV rfl) (hkc (b_X12_knows_227 hd h23) hk0) 228 hA1 hI
  · cases h
set_option maxRecDepth 20000 in
theorem b_X12_knows_196 {G : GT} {l : Launch} {d : Nat} {L0 : Lay} {σ0 : Sto} (hd : 4 ≤ d) {c23 : Lay → Sto → Nat → Int32 → Int32 → Int32 → Option Sto} (h23 : HF G l 12 "knows" cX12_knows 7 none d L0 σ0 (true, false) (dcV L0) 23 (A_X12_knows_23 c23)) : HF G l 12 "knows" cX12_knows 7 none d L0 σ0 (true, false) (dcV L0) 196 (A_X12_knows_196 (f_X12_knows_196 c23)) := by
  intro lc st L σ o h hI
  unfold A_X12_knows_196 at h
  split at h
  · obtain ⟨hq0, hA1⟩ := bif_s h
    obtain ⟨e0, hq1⟩ := beq_and hq0
    obtain ⟨e1, hq2⟩ := beq_and hq1
    subst e0
    subst e1
    exact exs (sp := [226, 227]) (K := (kc 226 (A_X12_knows_226 (f_X12_knows_226 c23)) (kc 227 (A_X12_knows_227 (f_X12_knows_227 c23)) k0))) ok_X12_knows rt_X12_knows (by omega) (hc_X12_knows G l hd) (hrV rfl) (hkc (b_X12_knows_226 hd h23) (hkc (b_X12_knows_227 hd h23) hk0)) 228 hA1 hI
  · cases h
set_option maxRecDepth 20000 in
theorem b_X12_knows_195 {G : GT} {l : Launch} {d : Nat} {L0 : Lay} {σ0 : Sto} (hd : 4 ≤ d) {c23 : Lay → Sto → Nat → Int32 → Int32 → Int32 → Option Sto} (h23 : HF G l 12 "knows" cX12_knows 7 none d L0 σ0 (true, false) (dcV L0) 23 (A_X12_knows_23 c23)) : HF G l 12 "knows" cX12_knows 7 none d L0 σ0 (true, false) (dcV L0) 195 (A_X12_knows_195 (f_X12_knows_195 c23)) := by
  intro lc st L σ o h hI
  unfold A_X12_knows_195 at h
  split at h
  · obtain ⟨hq0, hA1⟩ := bif_s h
    obtain ⟨e0, hq1⟩ := beq_and hq0
    obtain ⟨e1, hq2⟩ := beq_and hq1
    subst e0
    subst e1
    exact exs (sp := [196]) (K := (kc 196 (A_X12_knows_196 (f_X12_knows_196 c23)) k0)) ok_X12_knows rt_X12_knows (by omega) (hc_X12_knows G l hd) (hrV rfl) (hkc (b_X12_knows_196 hd h23) hk0) 228 hA1 hI
  · cases h
set_option maxRecDepth 20000 in
theorem b_X12_knows_167 {G : GT} {l : Launch} {d : Nat} {L0 : Lay} {σ0 : Sto} (hd : 4 ≤ d) {c23 : Lay → Sto → Nat → Int32 → Int32 → Int32 → Option Sto} (h23 : HF G l 12 "knows" cX12_knows 7 none d L0 σ0 (true, false) (dcV L0) 23 (A_X12_knows_23 c23)) : HF G l 12 "knows" cX12_knows 7 none d L0 σ0 (true, false) (dcV L0) 167 (A_X12_knows_167 (f_X12_knows_167 c23)) := by
  intro lc st L σ o h hI
  unfold A_X12_knows_167 at h
  split at h
  · obtain ⟨hq0, hA1⟩ := bif_s h
    obtain ⟨e0, hq1⟩ := beq_and hq0
    obtain ⟨e1, hq2⟩ := beq_and hq1
    subst e0
    subst e1
    exact exs (sp := [195, 196]) (K := (kc 195 (A_X12_knows_195 (f_X12_knows_195 c23)) (kc 196 (A_X12_knows_196 (f_X12_knows_196 c23)) k0))) ok_X12_knows rt_X12_knows (by omega) (hc_X12_knows G l hd) (hrV rfl) (hkc (b_X12_knows_195 hd h23) (hkc (b_X12_knows_196 hd h23) hk0)) 228 hA1 hI
  · cases h
set_option maxRecDepth 20000 in
theorem b_X12_knows_166 {G : GT} {l : Launch} {d : Nat} {L0 : Lay} {σ0 : Sto} (hd : 4 ≤ d) {c23 : Lay → Sto → Nat → Int32 → Int32 → Int32 → Option Sto} (h23 : HF G l 12 "knows" cX12_knows 7 none d L0 σ0 (true, false) (dcV L0) 23 (A_X12_knows_23 c23)) : HF G l 12 "knows" cX12_knows 7 none d L0 σ0 (true, false) (dcV L0) 166 (A_X12_knows_166 (f_X12_knows_166 c23)) := by
  intro lc st L σ o h hI
  unfold A_X12_knows_166 at h
  split at h
  · obtain ⟨hq0, hA1⟩ := bif_s h
    obtain ⟨e0, hq1⟩ := beq_and hq0
    obtain ⟨e1, hq2⟩ := beq_and hq1
    subst e0
    subst e1
    exact exs (sp := [167]) (K := (kc 167 (A_X12_knows_167 (f_X12_knows_167 c23)) k0)) ok_X12_knows rt_X12_knows (by omega) (hc_X12_knows G l hd) (hrV rfl) (hkc (b_X12_knows_167 hd h23) hk0) 228 hA1 hI
  · cases h
set_option maxRecDepth 20000 in
theorem b_X12_knows_138 {G : GT} {l : Launch} {d : Nat} {L0 : Lay} {σ0 : Sto} (hd : 4 ≤ d) {c23 : Lay → Sto → Nat → Int32 → Int32 → Int32 → Option Sto} (h23 : HF G l 12 "knows" cX12_knows 7 none d L0 σ0 (true, false) (dcV L0) 23 (A_X12_knows_23 c23)) : HF G l 12 "knows" cX12_knows 7 none d L0 σ0 (true, false) (dcV L0) 138 (A_X12_knows_138 (f_X12_knows_138 c23)) := by
  intro lc st L σ o h hI
  unfold A_X12_knows_138 at h
  split at h
  · obtain ⟨hq0, hA1⟩ := bif_s h
    obtain ⟨e0, hq1⟩ := beq_and hq0
    obtain ⟨e1, hq2⟩ := beq_and hq1
    subst e0
    subst e1
    exact exs (sp := [166, 167]) (K := (kc 166 (A_X12_knows_166 (f_X12_knows_166 c23)) (kc 167 (A_X12_knows_167 (f_X12_knows_167 c23)) k0))) ok_X12_knows rt_X12_knows (by omega) (hc_X12_knows G l hd) (hrV rfl) (hkc (b_X12_knows_166 hd h23) (hkc (b_X12_knows_167 hd h23) hk0)) 228 hA1 hI
  · cases h
set_option maxRecDepth 20000 in
theorem b_X12_knows_280 {G : GT} {l : Launch} {d : Nat} {L0 : Lay} {σ0 : Sto} (hd : 4 ≤ d) {c23 : Lay → Sto → Nat → Int32 → Int32 → Int32 → Option Sto} (h23 : HF G l 12 "knows" cX12_knows 7 none d L0 σ0 (true, false) (dcV L0) 23 (A_X12_knows_23 c23)) : HF G l 12 "knows" cX12_knows 7 none d L0 σ0 (true, false) (dcV L0) 280 (A_X12_knows_280 (f_X12_knows_280 c23)) := by
  intro lc st L σ o h hI
  unfold A_X12_knows_280 at h
  split at h
  · obtain ⟨hq0, hA1⟩ := bif_s h
    obtain ⟨e0, hq1⟩ := beq_and hq0
    obtain ⟨e1, hq2⟩ := beq_and hq1
    subst e0
    subst e1
    exact exs (sp := [282]) (K := (kc 282 (A_X12_knows_282 (f_X12_knows_282 c23)) k0)) ok_X12_knows rt_X12_knows (by omega) (hc_X12_knows G l hd) (hrV rfl) (hkc (b_X12_knows_282 hd h23) hk0) 228 hA1 hI
  · cases h
set_option maxRecDepth 20000 in
theorem b_X12_knows_100 {G : GT} {l : Launch} {d : Nat} {L0 : Lay} {σ0 : Sto} (hd : 4 ≤ d) {c23 : Lay → Sto → Nat → Int32 → Int32 → Int32 → Option Sto} (h23 : HF G l 12 "knows" cX12_knows 7 none d L0 σ0 (true, false) (dcV L0) 23 (A_X12_knows_23 c23)) : HF G l 12 "knows" cX12_knows 7 none d L0 σ0 (true, false) (dcV L0) 100 (A_X12_knows_100 (f_X12_knows_100 c23)) := by
  intro lc st L σ o h hI
  unfold A_X12_knows_100 at h
  split at h
  · obtain ⟨hq0, hA1⟩ := bif_s h
    obtain ⟨e0, hq1⟩ := beq_and hq0
    subst e0
    exact exs (sp := [138, 280]) (K := (kc 138 (A_X12_knows_138 (f_X12_knows_138 c23)) (kc 280 (A_X12_knows_280 (f_X12_knows_280 c23)) k0))) ok_X12_knows rt_X12_knows (by omega) (hc_X12_knows G l hd) (hrV rfl) (hkc (b_X12_knows_138 hd h23) (hkc (b_X12_knows_280 hd h23) hk0)) 228 hA1 hI
  · cases h
set_option maxRecDepth 20000 in
theorem b_X12_knows_99 {G : GT} {l : Launch} {d : Nat} {L0 : Lay} {σ0 : Sto} (hd : 4 ≤ d) {c23 : Lay → Sto → Nat → Int32 → Int32 → Int32 → Option Sto} (h23 : HF G l 12 "knows" cX12_knows 7 none d L0 σ0 (true, false) (dcV L0) 23 (A_X12_knows_23 c23)) : HF G l 12 "knows" cX12_knows 7 none d L0 σ0 (true, false) (dcV L0) 99 (A_X12_knows_99 (f_X12_knows_99 c23)) := by
  intro lc st L σ o h hI
  unfold A_X12_knows_99 at h
  split at h
  · obtain ⟨hq0, hA1⟩ := bif_s h
    obtain ⟨e0, hq1⟩ := beq_and hq0
    subst e0
    exact exs (sp := [100]) (K := (kc 100 (A_X12_knows_100 (f_X12_knows_100 c23)) k0)) ok_X12_knows rt_X12_knows (by omega) (hc_X12_knows G l hd) (hrV rfl) (hkc (b_X12_knows_100 hd h23) hk0) 228 hA1 hI
  · cases h
set_option maxRecDepth 20000 in
theorem b_X12_knows_66 {G : GT} {l : Launch} {d : Nat} {L0 : Lay} {σ0 : Sto} (hd : 4 ≤ d) {c23 : Lay → Sto → Nat → Int32 → Int32 → Int32 → Option Sto} (h23 : HF G l 12 "knows" cX12_knows 7 none d L0 σ0 (true, false) (dcV L0) 23 (A_X12_knows_23 c23)) : HF G l 12 "knows" cX12_knows 7 none d L0 σ0 (true, false) (dcV L0) 66 (A_X12_knows_66 (f_X12_knows_66 c23)) := by
  intro lc st L σ o h hI
  unfold A_X12_knows_66 at h
  split at h
  · obtain ⟨hq0, hA1⟩ := bif_s h
    obtain ⟨e0, hq1⟩ := beq_and hq0
    subst e0
    exact exs (sp := [99, 100]) (K := (kc 99 (A_X12_knows_99 (f_X12_knows_99 c23)) (kc 100 (A_X12_knows_100 (f_X12_knows_100 c23)) k0))) ok_X12_knows rt_X12_knows (by omega) (hc_X12_knows G l hd) (hrV rfl) (hkc (b_X12_knows_99 hd h23) (hkc (b_X12_knows_100 hd h23) hk0)) 228 hA1 hI
  · cases h
set_option maxRecDepth 20000 in
theorem b_X12_knows_65 {G : GT} {l : Launch} {d : Nat} {L0 : Lay} {σ0 : Sto} (hd : 4 ≤ d) {c23 : Lay → Sto → Nat → Int32 → Int32 → Int32 → Option Sto} (h23 : HF G l 12 "knows" cX12_knows 7 none d L0 σ0 (true, false) (dcV L0) 23 (A_X12_knows_23 c23)) : HF G l 12 "knows" cX12_knows 7 none d L0 σ0 (true, false) (dcV L0) 65 (A_X12_knows_65 (f_X12_knows_65 c23)) := by
  intro lc st L σ o h hI
  unfold A_X12_knows_65 at h
  split at h
  · obtain ⟨hq0, hA1⟩ := bif_s h
    obtain ⟨e0, hq1⟩ := beq_and hq0
    subst e0
    exact exs (sp := [66]) (K := (kc 66 (A_X12_knows_66 (f_X12_knows_66 c23)) k0)) ok_X12_knows rt_X12_knows (by omega) (hc_X12_knows G l hd) (hrV rfl) (hkc (b_X12_knows_66 hd h23) hk0) 228 hA1 hI
  · cases h
set_option maxRecDepth 20000 in
theorem b_X12_knows_357 {G : GT} {l : Launch} {d : Nat} {L0 : Lay} {σ0 : Sto} (hd : 4 ≤ d) {c309 : Lay → Sto → Nat → Int32 → Int32 → Int32 → Option Sto} (h309 : HF G l 12 "knows" cX12_knows 7 none d L0 σ0 (true, false) (dcV L0) 309 (A_X12_knows_309 c309)) : HF G l 12 "knows" cX12_knows 7 none d L0 σ0 (true, false) (dcV L0) 357 (A_X12_knows_357 (f_X12_knows_357 c309)) := by
  intro lc st L σ o h hI
  unfold A_X12_knows_357 at h
  split at h
  · obtain ⟨hq0, hA1⟩ := bif_s h
    obtain ⟨e0, hq1⟩ := beq_and hq0
    obtain ⟨e1, hq2⟩ := beq_and hq1
    subst e0
    subst e1
    exact exs (sp := [309]) (K := (kc 309 (A_X12_knows_309 c309) k0)) ok_X12_knows rt_X12_knows (by omega) (hc_X12_knows G l hd) (hrV rfl) (hkc h309 hk0) 228 hA1 hI
  · cases h
set_option maxRecDepth 20000 in
theorem b_X12_knows_350 {G : GT} {l : Launch} {d : Nat} {L0 : Lay} {σ0 : Sto} (hd : 4 ≤ d) {c309 : Lay → Sto → Nat → Int32 → Int32 → Int32 → Option Sto} (h309 : HF G l 12 "knows" cX12_knows 7 none d L0 σ0 (true, false) (dcV L0) 309 (A_X12_knows_309 c309)) : HF G l 12 "knows" cX12_knows 7 none d L0 σ0 (true, false) (dcV L0) 350 (A_X12_knows_350 (f_X12_knows_350 c309)) := by
  intro lc st L σ o h hI
  unfold A_X12_knows_350 at h
  split at h
  · obtain ⟨hq0, hA1⟩ := bif_s h
    obtain ⟨e0, hq1⟩ := beq_and hq0
    obtain ⟨e1, hq2⟩ := beq_and hq1
    subst e0
    subst e1
    exact exs (sp := [357]) (K := (kc 357 (A_X12_knows_357 (f_X12_knows_357 c309)) k0)) ok_X12_knows rt_X12_knows (by omega) (hc_X12_knows G l hd) (hrV rfl) (hkc (b_X12_knows_357 hd h309) hk0) 228 hA1 hI
  · cases h
set_option maxRecDepth 20000 in
theorem b_X12_knows_309 {G : GT} {l : Launch} {d : Nat} {L0 : Lay} {σ0 : Sto} (hd : 4 ≤ d) : ∀ k : Nat, HF G l 12 "knows" cX12_knows 7 none d L0 σ0 (true, false) (dcV L0) 309 (A_X12_knows_309 (f_X12_knows_309 k))
  | 0 => by
    intro lc st L σ o h hI
    unfold A_X12_knows_309 at h
    split at h
    · obtain ⟨_, hA1⟩ := bif_s h
      cases hA1
    · cases h
  | k + 1 => by
    have ih := b_X12_knows_309 (G := G) (l := l) (d := d) (L0 := L0) (σ0 := σ0) hd k
    intro lc st L σ o h hI
    unfold A_X12_knows_309 at h
    split at h
    · obtain ⟨hq0, hA1⟩ := bif_s h
      obtain ⟨e0, hq1⟩ := beq_and hq0
      subst e0
      exact exs (sp := [350, 357]) (K := (kc 350 (A_X12_knows_350 (f_X12_knows_350 (f_X12_knows_309 k))) (kc 357 (A_X12_knows_357 (f_X12_knows_357 (f_X12_knows_309 k))) k0))) ok_X12_knows rt_X12_knows (by omega) (hc_X12_knows G l hd) (hrV rfl) (hkc (b_X12_knows_350 hd ih) (hkc (b_X12_knows_357 hd ih) hk0)) 228 hA1 hI
    · cases h
set_option maxRecDepth 20000 in
theorem b_X12_knows_23 {G : GT} {l : Launch} {d : Nat} {L0 : Lay} {σ0 : Sto} (hd : 4 ≤ d) : ∀ k : Nat, HF G l 12 "knows" cX12_knows 7 none d L0 σ0 (true, false) (dcV L0) 23 (A_X12_knows_23 (f_X12_knows_23 k))
  | 0 => by
    intro lc st L σ o h hI
    unfold A_X12_knows_23 at h
    split at h
    · obtain ⟨_, hA1⟩ := bif_s h
      cases hA1
    · cases h
  | k + 1 => by
    have ih := b_X12_knows_23 (G := G) (l := l) (d := d) (L0 := L0) (σ0 := σ0) hd k
    intro lc st L σ o h hI
    unfold A_X12_knows_23 at h
    split at h
    · obtain ⟨hq0, hA1⟩ := bif_s h
      obtain ⟨e0, hq1⟩ := beq_and hq0
      subst e0
      exact exs (sp := [65, 66, 309]) (K := (kc 65 (A_X12_knows_65 (f_X12_knows_65 (f_X12_knows_23 k))) (kc 66 (A_X12_knows_66 (f_X12_knows_66 (f_X12_knows_23 k))) (kc 309 (A_X12_knows_309 (f_X12_knows_309 FU)) k0)))) ok_X12_knows rt_X12_knows (by omega) (hc_X12_knows G l hd) (hrV rfl) (hkc (b_X12_knows_65 hd ih) (hkc (b_X12_knows_66 hd ih) (hkc (b_X12_knows_309 hd FU) hk0))) 228 hA1 hI
    · cases h
set_option maxRecDepth 20000 in
theorem b_X12_knows_2 {G : GT} {l : Launch} {d : Nat} {L0 : Lay} {σ0 : Sto} (hd : 4 ≤ d) : ∀ k : Nat, HF G l 12 "knows" cX12_knows 7 none d L0 σ0 (true, false) (dcV L0) 2 (A_X12_knows_2 (f_X12_knows_2 k))
  | 0 => by
    intro lc st L σ o h hI
    unfold A_X12_knows_2 at h
    split at h
    · obtain ⟨_, hA1⟩ := bif_s h
      cases hA1
    · cases h
  | k + 1 => by
    have ih := b_X12_knows_2 (G := G) (l := l) (d := d) (L0 := L0) (σ0 := σ0) hd k
    intro lc st L σ o h hI
    unfold A_X12_knows_2 at h
    split at h
    · obtain ⟨hq0, hA1⟩ := bif_s h
      obtain ⟨e0, hq1⟩ := beq_and hq0
      subst e0
      exact exs (sp := [2, 23]) (K := (kc 2 (A_X12_knows_2 (f_X12_knows_2 k)) (kc 23 (A_X12_knows_23 (f_X12_knows_23 FU)) k0))) ok_X12_knows rt_X12_knows (by omega) (hc_X12_knows G l hd) (hrV rfl) (hkc ih (hkc (b_X12_knows_23 hd FU) hk0)) 228 hA1 hI
    · cases h
set_option maxRecDepth 20000 in
theorem ca_X12_knows (G : GT) (l : Launch) {d : Nat} (hd : 4 ≤ d) : CA G l 169 (true, false) d ad_X12_knows := by
  intro O L σ as k o h hW hok
  unfold ad_X12_knows at h
  split at h
  · obtain ⟨hq0, hA0⟩ := bif_s h
    obtain ⟨e0, hq1⟩ := beq_and hq0
    subst e0
    obtain ⟨r, hr, hk⟩ := Option.bind_eq_some_iff.mp hA0
    exact ca_of (q := (dcV L) r) (by decide) rfl (Nat.le_of_ble_eq_true rfl) hk (fun _ => rfl) (fun e => by cases e) (exs (sp := [2]) (K := (kc 2 (A_X12_knows_2 (f_X12_knows_2 FU)) k0)) (L0 := L) (σ0 := σ) ok_X12_knows rt_X12_knows (by omega) (hc_X12_knows G l hd) (hrV rfl) (hkc (b_X12_knows_2 hd FU) hk0) 228 hr (inv0 hW hok))
  · cases h
