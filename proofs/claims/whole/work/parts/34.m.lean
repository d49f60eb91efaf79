def tt_X12_gives (pc : Nat) : TI := bif Nat.blt pc 22 then (bif Nat.blt pc 11 then (bif Nat.blt pc 5 then (bif Nat.blt pc 1 then (bif Nat.beq pc 0 then (.aload_n 0, 1, (0, 0, 0), 0, 0, []) else TN) else (bif Nat.blt pc 2 then (bif Nat.beq pc 1 then (.iconst 1, 2, (0, 0, 0), 1, 0, []) else TN) else (bif Nat.beq pc 2 then (.putfield 243, 5, (12, 52, 0), 0, 0, []) else TN))) else (bif Nat.blt pc 7 then (bif Nat.blt pc 6 then (bif Nat.beq pc 5 then (.aload_n 0, 6, (0, 0, 0), 0, 0, []) else TN) else (bif Nat.beq pc 6 then (.iconst 0, 7, (0, 0, 0), 0, 0, []) else TN)) else (bif Nat.blt pc 10 then (bif Nat.beq pc 7 then (.putfield 268, 10, (12, 56, 0), 0, 0, []) else TN) else (bif Nat.beq pc 10 then (.aload_n 0, 11, (0, 0, 0), 0, 0, []) else TN)))) else (bif Nat.blt pc 16 then (bif Nat.blt pc 12 then (bif Nat.beq pc 11 then (.iconst 0, 12, (0, 0, 0), 0, 0, []) else TN) else (bif Nat.blt pc 15 then (bif Nat.beq pc 12 then (.putfield 250, 15, (12, 53, 0), 0, 0, []) else TN) else (bif Nat.beq pc 15 then (.aload_n 0, 16, (0, 0, 0), 0, 0, []) else TN))) else (bif Nat.blt pc 20 then (bif Nat.blt pc 17 then (bif Nat.beq pc 16 then (.aload_n 0, 17, (0, 0, 0), 0, 0, []) else TN) else (bif Nat.beq pc 17 then (.getfield 67, 20, (12, 28, 0), 0, 0, []) else TN)) else (bif Nat.blt pc 21 then (bif Nat.beq pc 20 then (.iload_n 1, 21, (1, 0, 0), 0, 0, []) else TN) else (bif Nat.beq pc 21 then (.iaload, 22, (0, 0, 0), 0, 0, []) else TN))))) else (bif Nat.blt pc 35 then (bif Nat.blt pc 27 then (bif Nat.blt pc 25 then (bif Nat.beq pc 22 then (.putfield 253, 25, (12, 55, 0), 0, 0, []) else TN) else (bif Nat.blt pc 26 then (bif Nat.beq pc 25 then (.aload_n 0, 26, (0, 0, 0), 0, 0, []) else TN) else (bif Nat.beq pc 26 then (.iconst 0, 27, (0, 0, 0), 0, 0, []) else TN))) else (bif Nat.blt pc 31 then (bif Nat.blt pc 30 then (bif Nat.beq pc 27 then (.putfield 297, 30, (12, 58, 0), 0, 0, []) else TN) else (bif Nat.beq pc 30 then (.aload_n 0, 31, (0, 0, 0), 0, 0, []) else TN)) else (bif Nat.blt pc 32 then (bif Nat.beq pc 31 then (.iconst 0, 32, (0, 0, 0), 0, 0, []) else TN) else (bif Nat.beq pc 32 then (.putfield 294, 35, (12, 59, 0), 0, 0, []) else TN)))) else (bif Nat.blt pc 41 then (bif Nat.blt pc 37 then (bif Nat.blt pc 36 then (bif Nat.beq pc 35 then (.aload_n 0, 36, (0, 0, 0), 0, 0, []) else TN) else (bif Nat.beq pc 36 then (.iload_n 1, 37, (1, 0, 0), 0, 0, []) else TN)) else (bif Nat.blt pc 40 then (bif Nat.beq pc 37 then (.putfield 309, 40, (12, 57, 0), 0, 0, []) else TN) else (bif Nat.beq pc 40 then (.aload_n 0, 41, (0, 0, 0), 0, 0, []) else TN))) else (bif Nat.blt pc 45 then (bif Nat.blt pc 44 then (bif Nat.beq pc 41 then (.invokevirtual 281, 44, (182, 0, 12), 0, 0, []) else TN) else (bif Nat.beq pc 44 then (.aload_n 0, 45, (0, 0, 0), 0, 0, []) else TN)) else (bif Nat.blt pc 48 then (bif Nat.beq pc 45 then (.invokevirtual 303, 48, (190, 0, 12), 0, 0, []) else TN) else (bif Nat.beq pc 48 then (.ireturn, 49, (0, 0, 0), 0, 0, []) else TN)))))
def tb_X12_gives (pc : Nat) : TI := bif Nat.ble 49 pc then TN else tt_X12_gives pc
theorem ok_X12_gives : tOK 12 (decide ("gives" = "<init>")) cX12_gives tb_X12_gives := tOK_of 49 tn_of (by decide +kernel)
def f_X12_gives (L : Lay) (σ : Sto) (a0 : Nat) (a1 : Int32) : Option (Int32 × Sto) := ((ckN 1 1).bind fun _ => putI σ a0 52 1).bind fun σ1 => ((ckN 1 0).bind fun _ => putI σ1 a0 56 0).bind fun σ2 => (putI σ2 a0 53 0).bind fun σ3 => (σ3.2.1 a0 28).bind fun x4 => (rI L σ3 x4 a1).bind fun v5 => (putI σ3 a0 55 v5).bind fun σ6 => (putI σ6 a0 58 0).bind fun σ7 => (putI σ7 a0 59 0).bind fun σ8 => (putI σ8 a0 57 a1).bind fun σ9 => (f_X12_next L σ9 a0).bind fun σ10 => (f_X12_or L σ10 a0).bind fun r11 => some (r11.1, r11.2)
def ad_X12_gives : ADT := fun O L σ as k => match as with
  | [.inr (.inr (.inl (ta0, some a0))), .inl a1] => bif Nat.beq ta0 12 && true then (f_X12_gives L σ a0 a1).bind fun r => k (some (vI r.1)) L r.2 else none
  | _ => none
abbrev cl_X12_gives {O : Type} : CLT O := (clc 182 ad_X12_next (clc 190 ad_X12_or cl0))
theorem hc_X12_gives (G : GT) (l : Launch) {d : Nat} (hd : 107 ≤ d) {O : Type} : HCL G l (true, false) d (cl_X12_gives (O := O)) := (hclc (ca_X12_next G l (d := 3) (Nat.le_refl _)) (fun _ => rfl) (fun e => by cases e) (by omega) (hclc (ca_X12_or G l (d := 106) (Nat.le_refl _)) (fun _ => rfl) (fun e => by cases e) (by omega) hcl0))
theorem rt_X12_gives : retOK (0, 0) (some .int) := ⟨fun _ => rfl, fun h => absurd h (by decide), fun h => absurd h (by decide)⟩
set_option maxRecDepth 20000 in
theorem ca_X12_gives (G : GT) (l : Launch) {d : Nat} (hd : 107 ≤ d) : CA G l 142 (true, false) d ad_X12_gives := by
  intro O L σ as k o h hW hok
  unfold ad_X12_gives at h
  split at h
  · obtain ⟨hq0, hA0⟩ := bif_s h
    obtain ⟨e0, hq1⟩ := beq_and hq0
    subst e0
    obtain ⟨r, hr, hk⟩ := Option.bind_eq_some_iff.mp hA0
    exact ca_of (q := (dcI L) r) (by decide) rfl (Nat.le_of_ble_eq_true rfl) hk (fun _ => rfl) (fun e => by cases e) (exs (sp := []) (K := k0) (L0 := L) (σ0 := σ) ok_X12_gives rt_X12_gives (by omega) (hc_X12_gives G l hd) (hrI rfl) hk0 32 hr (inv0 hW hok))
  · cases h
def tt_X12_saysOn (pc : Nat) : TI := bif Nat.blt pc 6 then (bif Nat.blt pc 2 then (bif Nat.blt pc 1 then (bif Nat.beq pc 0 then (.aload_n 0, 1, (0, 0, 0), 0, 0, []) else TN) else (bif Nat.beq pc 1 then (.iload_n 1, 2, (1, 0, 0), 0, 0, []) else TN)) else (bif Nat.blt pc 3 then (bif Nat.beq pc 2 then (.iload_n 3, 3, (3, 0, 0), 0, 0, []) else TN) else (bif Nat.beq pc 3 then (.invokevirtual 220, 6, (169, 2, 12), 0, 0, []) else TN))) else (bif Nat.blt pc 8 then (bif Nat.blt pc 7 then (bif Nat.beq pc 6 then (.aload_n 0, 7, (0, 0, 0), 0, 0, []) else TN) else (bif Nat.beq pc 7 then (.iload_n 2, 8, (2, 0, 0), 0, 0, []) else TN)) else (bif Nat.blt pc 11 then (bif Nat.beq pc 8 then (.invokevirtual 341, 11, (142, 1, 12), 0, 0, []) else TN) else (bif Nat.beq pc 11 then (.ireturn, 12, (0, 0, 0), 0, 0, []) else TN)))
def tb_X12_saysOn (pc : Nat) : TI := bif Nat.ble 12 pc then TN else tt_X12_saysOn pc
theorem ok_X12_saysOn : tOK 12 (decide ("saysOn" = "<init>")) cX12_saysOn tb_X12_saysOn := tOK_of 12 tn_of (by decide +kernel)
def f_X12_saysOn (L : Lay) (σ : Sto) (a0 : Nat) (a1 : Int32) (a2 : Int32) (a3 : Int32) : Option (Int32 × Sto) := (f_X12_knows L σ a0 a1 a3).bind fun σ1 => (f_X12_gives L σ1 a0 a2).bind fun r2 => some (r2.1, r2.2)
def ad_X12_saysOn : ADT := fun O L σ as k => match as with
  | [.inr (.inr (.inl (ta0, some a0))), .inl a1, .inl a2, .inl a3] => bif Nat.beq ta0 12 && true then (f_X12_saysOn L σ a0 a1 a2 a3).bind fun r => k (some (vI r.1)) L r.2 else none
  | _ => none
abbrev cl_X12_saysOn {O : Type} : CLT O := (clc 169 ad_X12_knows (clc 142 ad_X12_gives cl0))
theorem hc_X12_saysOn (G : GT) (l : Launch) {d : Nat} (hd : 108 ≤ d) {O : Type} : HCL G l (true, false) d (cl_X12_saysOn (O := O)) := (hclc (ca_X12_knows G l (d := 4) (Nat.le_refl _)) (fun _ => rfl) (fun e => by cases e) (by omega) (hclc (ca_X12_gives G l (d := 107) (Nat.le_refl _)) (fun _ => rfl) (fun e => by cases e) (by omega) hcl0))
theorem rt_X12_saysOn : retOK (0, 0) (some .int) := ⟨fun _ => rfl, fun h => absurd h (by decide), fun h => absurd h (by decide)⟩
set_option maxRecDepth 20000 in
theorem ca_X12_saysOn (G : GT) (l : Launch) {d : Nat} (hd : 108 ≤ d) : CA G l 202 (true, false) d ad_X12_saysOn := by
  intro O L σ as k o h hW hok
  unfold ad_X12_saysOn at h
  split at h
  · obtain ⟨hq0, hA0⟩ := bif_s h
    obtain ⟨e0, hq1⟩ := beq_and hq0
    subst e0
    obtain ⟨r, hr, hk⟩ := Option.bind_eq_some_iff.mp hA0
    exact ca_of (q := (dcI L) r) (by decide) rfl (Nat.le_of_ble_eq_true rfl) hk (fun _ => rfl) (fun e => by cases e) (exs (sp := []) (K := k0) (L0 := L) (σ0 := σ) ok_X12_saysOn rt_X12_saysOn (by omega) (hc_X12_saysOn G l hd) (hrI rfl) hk0 11 hr (inv0 hW hok))
  · cases h
def tt_X12_cure (pc : Nat) : TI := bif Nat.blt pc 51 then (bif Nat.blt pc 25 then (bif Nat.blt pc 12 then (bif Nat.blt pc 5 then (bif Nat.blt pc 1 then (bif Nat.beq pc 0 then (.aload_n 0, 1, (0, 0, 0), 0, 0, []) else TN) else (bif Nat.blt pc 2 then (bif Nat.beq pc 1 then (.iload_n 1, 2, (1, 0, 0), 0, 0, []) else TN) else (bif Nat.beq pc 2 then (.invokevirtual 205, 5, (149, 1, 12), 0, 0, []) else TN))) else (bif Nat.blt pc 10 then (bif Nat.blt pc 8 then (bif Nat.beq pc 5 then (.ifCond .ne 6, 8, (11, 0, 0), 0, 0, []) else TN) else (bif Nat.beq pc 8 then (.ldc 156, 10, (0, 0, 0), -1000000001, 0, []) else TN)) else (bif Nat.blt pc 11 then (bif Nat.beq pc 10 then (.ireturn, 11, (0, 0, 0), 0, 0, []) else TN) else (bif Nat.beq pc 11 then (.aload_n 0, 12, (0, 0, 0), 0, 0, []) else TN)))) else (bif Nat.blt pc 19 then (bif Nat.blt pc 15 then (bif Nat.beq pc 12 then (.getfield 338, 15, (12, 27, 0), 0, 0, []) else TN) else (bif Nat.blt pc 18 then (bif Nat.beq pc 15 then (.ifCond .eq 16, 18, (31, 0, 0), 0, 0, []) else TN) else (bif Nat.beq pc 18 then (.aload_n 0, 19, (0, 0, 0), 0, 0, []) else TN))) else (bif Nat.blt pc 21 then (bif Nat.blt pc 20 then (bif Nat.beq pc 19 then (.iload_n 1, 20, (1, 0, 0), 0, 0, []) else TN) else (bif Nat.beq pc 20 then (.iconst 0, 21, (0, 0, 0), 0, 0, []) else TN)) else (bif Nat.blt pc 22 then (bif Nat.beq pc 21 then (.aload_n 0, 22, (0, 0, 0), 0, 0, []) else TN) else (bif Nat.beq pc 22 then (.getfield 166, 25, (12, 1, 0), 0, 0, []) else TN))))) else (bif Nat.blt pc 37 then (bif Nat.blt pc 33 then (bif Nat.blt pc 28 then (bif Nat.beq pc 25 then (.invokevirtual 344, 28, (202, 3, 12), 0, 0, []) else TN) else (bif Nat.blt pc 31 then (bif Nat.beq pc 28 then (.ifCond .eq 6, 31, (34, 0, 0), 0, 0, []) else TN) else (bif Nat.beq pc 31 then (.ldc 176, 33, (0, 0, 0), -1000000002, 0, []) else TN))) else (bif Nat.blt pc 35 then (bif Nat.blt pc 34 then (bif Nat.beq pc 33 then (.ireturn, 34, (0, 0, 0), 0, 0, []) else TN) else (bif Nat.beq pc 34 then (.aload_n 0, 35, (0, 0, 0), 0, 0, []) else TN)) else (bif Nat.blt pc 36 then (bif Nat.beq pc 35 then (.iload_n 1, 36, (1, 0, 0), 0, 0, []) else TN) else (bif Nat.beq pc 36 then (.aload_n 0, 37, (0, 0, 0), 0, 0, []) else TN)))) else (bif Nat.blt pc 47 then (bif Nat.blt pc 43 then (bif Nat.blt pc 40 then (bif Nat.beq pc 37 then (.getfield 166, 40, (12, 1, 0), 0, 0, []) else TN) else (bif Nat.beq pc 40 then (.invokevirtual 220, 43, (169, 2, 12), 0, 0, []) else TN)) else (bif Nat.blt pc 44 then (bif Nat.beq pc 43 then (.aload_n 0, 44, (0, 0, 0), 0, 0, []) else TN) else (bif Nat.beq pc 44 then (.getfield 118, 47, (12, 46, 0), 0, 0, []) else TN))) else (bif Nat.blt pc 49 then (bif Nat.blt pc 48 then (bif Nat.beq pc 47 then (.iconst 2, 48, (0, 0, 0), 2, 0, []) else TN) else (bif Nat.beq pc 48 then (.iaload, 49, (0, 0, 0), 0, 0, []) else TN)) else (bif Nat.blt pc 50 then (bif Nat.beq pc 49 then (.istore_n 2, 50, (2, 0, 0), 0, 0, []) else TN) else (bif Nat.beq pc 50 then (.iconst 1, 51, (0, 0, 0), 1, 0, []) else TN)))))) else (bif Nat.blt pc 72 then (bif Nat.blt pc 62 then (bif Nat.blt pc 54 then (bif Nat.blt pc 52 then (bif Nat.beq pc 51 then (.istore_n 3, 52, (3, 0, 0), 0, 0, []) else TN) else (bif Nat.blt pc 53 then (bif Nat.beq pc 52 then (.iload_n 3, 53, (3, 0, 0), 0, 0, []) else TN) else (bif Nat.beq pc 53 then (.iload_n 2, 54, (2, 0, 0), 0, 0, []) else TN))) else (bif Nat.blt pc 58 then (bif Nat.blt pc 57 then (bif Nat.beq pc 54 then (.if_icmp .gt 39, 57, (93, 0, 0), 0, 0, []) else TN) else (bif Nat.beq pc 57 then (.aload_n 0, 58, (0, 0, 0), 0, 0, []) else TN)) else (bif Nat.blt pc 61 then (bif Nat.beq pc 58 then (.getfield 118, 61, (12, 46, 0), 0, 0, []) else TN) else (bif Nat.beq pc 61 then (.iconst 1, 62, (0, 0, 0), 1, 0, []) else TN)))) else (bif Nat.blt pc 66 then (bif Nat.blt pc 64 then (bif Nat.blt pc 63 then (bif Nat.beq pc 62 then (.dup2, 63, (0, 0, 0), 0, 0, []) else TN) else (bif Nat.beq pc 63 then (.iaload, 64, (0, 0, 0), 0, 0, []) else TN)) else (bif Nat.blt pc 65 then (bif Nat.beq pc 64 then (.iconst 1, 65, (0, 0, 0), 1, 0, []) else TN) else (bif Nat.beq pc 65 then (.iadd, 66, (0, 0, 0), 0, 0, []) else TN))) else (bif Nat.blt pc 68 then (bif Nat.blt pc 67 then (bif Nat.beq pc 66 then (.iastore, 67, (0, 0, 0), 0, 0, []) else TN) else (bif Nat.beq pc 67 then (.aload_n 0, 68, (0, 0, 0), 0, 0, []) else TN)) else (bif Nat.blt pc 71 then (bif Nat.beq pc 68 then (.getfield 118, 71, (12, 46, 0), 0, 0, []) else TN) else (bif Nat.beq pc 71 then (.iconst 2, 72, (0, 0, 0), 2, 0, []) else TN))))) else (bif Nat.blt pc 79 then (bif Nat.blt pc 75 then (bif Nat.blt pc 73 then (bif Nat.beq pc 72 then (.dup2, 73, (0, 0, 0), 0, 0, []) else TN) else (bif Nat.blt pc 74 then (bif Nat.beq pc 73 then (.iaload, 74, (0, 0, 0), 0, 0, []) else TN) else (bif Nat.beq pc 74 then (.iconst 1, 75, (0, 0, 0), 1, 0, []) else TN))) else (bif Nat.blt pc 77 then (bif Nat.blt pc 76 then (bif Nat.beq pc 75 then (.isub, 76, (0, 0, 0), 0, 0, []) else TN) else (bif Nat.beq pc 76 then (.iastore, 77, (0, 0, 0), 0, 0, []) else TN)) else (bif Nat.blt pc 78 then (bif Nat.beq pc 77 then (.aload_n 0, 78, (0, 0, 0), 0, 0, []) else TN) else (bif Nat.beq pc 78 then (.iconst 0, 79, (0, 0, 0), 0, 0, []) else TN)))) else (bif Nat.blt pc 87 then (bif Nat.blt pc 85 then (bif Nat.blt pc 82 then (bif Nat.beq pc 79 then (.invokevirtual 341, 82, (142, 1, 12), 0, 0, []) else TN) else (bif Nat.beq pc 82 then (.ifCond .eq 5, 85, (87, 0, 0), 0, 0, []) else TN)) else (bif Nat.blt pc 86 then (bif Nat.beq pc 85 then (.iload_n 3, 86, (3, 0, 0), 0, 0, []) else TN) else (bif Nat.beq pc 86 then (.ireturn, 87, (0, 0, 0), 0, 0, []) else TN))) else (bif Nat.blt pc 93 then (bif Nat.blt pc 90 then (bif Nat.beq pc 87 then (.iinc 3 1, 90, (3, 0, 0), 1, 0, []) else TN) else (bif Nat.beq pc 90 then (.goto (-38), 93, (52, 0, 0), 0, 0, []) else TN)) else (bif Nat.blt pc 95 then (bif Nat.beq pc 93 then (.ldc 177, 95, (0, 0, 0), -1000000005, 0, []) else TN) else (bif Nat.beq pc 95 then (.ireturn, 96, (0, 0, 0), 0, 0, []) else TN))))))
def tb_X12_cure (pc : Nat) : TI := bif Nat.ble 96 pc then TN else tt_X12_cure pc
theorem ok_X12_cure : tOK 12 (decide ("cure" = "<init>")) cX12_cure tb_X12_cure := tOK_of 96 tn_of (by decide +kernel)
def f_X12_cure_52 : Nat → Lay → Sto → Nat → Int32 → Int32 → Option (Int32 × Sto)
  | 0 => fun _ _ _ _ _ => none
  | k + 1 => fun L σ a0 a2 a3 => (if a2 < a3 then some ((-1000000005), σ) else (σ.2.1 a0 46).bind fun x1 => (rI L σ x1 1).bind fun v2 => (σ.2.1 a0 46).bind fun x3 => (wI L σ x3 1 (v2 + 1)).bind fun σ4 => (σ4.2.1 a0 46).bind fun x5 => (rI L σ4 x5 2).bind fun v6 => (σ4.2.1 a0 46).bind fun x7 => (wI L σ4 x7 2 (v6 - 1)).bind fun σ8 => (f_X12_gives L σ8 a0 0).bind fun r9 => (if r9.1 = 0 then (f_X12_cure_52 k) L r9.2 a0 a2 (a3 + 1) else some (a3, r9.2)))
def A_X12_cure_52 (c : Lay → Sto → Nat → Int32 → Int32 → Option (Int32 × Sto)) (lc : List (Option AV)) (st : List AV) (L : Lay) (σ : Sto) : Option (Int32 × Sto) := match lc, st with
  | [some (.inr (.inr (.inl (ta0, some a0)))), _, some (.inl a2), some (.inl a3)], [] => bif Nat.beq ta0 12 && true then c L σ a0 a2 a3 else none
  | _, _ => none
def f_X12_cure (L : Lay) (σ : Sto) (a0 : Nat) (a1 : Int32) : Option (Int32 × Sto) := (f_X12_isBallot L σ a0 a1).bind fun r10 => (if r10 = 0 then some ((-1000000001), σ) else (if (σ.1 a0 27) = 0 then some ((-1000000002), σ) else (f_X12_saysOn L σ a0 a1 0 (σ.1 a0 1)).bind fun r11 => (if r11.1 = 0 then (f_X12_knows L r11.2 a0 a1 (r11.2.1 a0 1)).bind fun σ12 => (σ12.2.1 a0 46).bind fun x13 => (rI L σ12 x13 2).bind fun v14 => (f_X12_cure_52 FU) L σ12 a0 v14 1 else some ((-1000000002), r11.2))))
def ad_X12_cure : ADT := fun O L σ as k => match as with
  | [.inr (.inr (.inl (ta0, some a0))), .inl a1] => bif Nat.beq ta0 12 && true then (f_X12_cure L σ a0 a1).bind fun r => k (some (vI r.1)) L r.2 else none
  | _ => none
abbrev cl_X12_cure {O : Type} : CLT O := (clc 142 ad_X12_gives (clc 149 ad_X12_isBallot (clc 202 ad_X12_saysOn (clc 169 ad_X12_knows cl0))))
theorem hc_X12_cure (G : GT) (l : Launch) {d : Nat} (hd : 109 ≤ d) {O : Type} : HCL G l (true, false) d (cl_X12_cure (O := O)) := (hclc (ca_X12_gives G l (d := 107) (Nat.le_refl _)) (fun _ => rfl) (fun e => by cases e) (by omega) (hclc (ca_X12_isBallot G l (d := 2) (Nat.le_refl _)) (fun _ => rfl) (fun e => by cases e) (by omega) (hclc (ca_X12_saysOn G l (d := 108) (Nat.le_refl _)) (fun _ => rfl) (fun e => by cases e) (by omega) (hclc (ca_X12_knows G l (d := 4) (Nat.le_refl _)) (fun _ => rfl) (fun e => by cases e) (by omega) hcl0))))
theorem rt_X12_cure : retOK (0, 0) (some .int) := ⟨fun _ => rfl, fun h => absurd h (by decide), fun h => absurd h (by decide)⟩
set_option maxRecDepth 20000 in
theorem b_X12_cure_52 {G : GT} {l : Launch} {d : Nat} {L0 : Lay} {σ0 : Sto} (hd : 109 ≤ d) : ∀ k : Nat, HF G l 12 "cure" cX12_cure 4 (some .int) d L0 σ0 (true, false) (dcI L0) 52 (A_X12_cure_52 (f_X12_cure_52 k))
  | 0 => by
    intro lc st L σ o h hI
    unfold A_X12_cure_52 at h
    split at h
    · obtain ⟨_, hA1⟩ := bif_s h
      cases hA1
    · cases h
  | k + 1 => by
    have ih := b_X12_cure_52 (G := G) (l := l) (d := d) (L0 := L0) (σ0 := σ0) hd k
    intro lc st L σ o h hI
    unfold A_X12_cure_52 at h
    split at h
    · obtain ⟨hq0, hA1⟩ := bif_s h
      obtain ⟨e0, hq1⟩ := beq_and hq0
      subst e0
      exact exs (sp := [52]) (K := (kc 52 (A_X12_cure_52 (f_X12_cure_52 k)) k0)) ok_X12_cure rt_X12_cure (by omega) (hc_X12_cure G l hd) (hrI rfl) (hkc ih hk0) 62 hA1 hI
    · cases h
set_option maxRecDepth 20000 in
theorem ca_X12_cure (G : GT) (l : Launch) {d : Nat} (hd : 109 ≤ d) : CA G l 135 (true, false) d ad_X12_cure := by
  intro O L σ as k o h hW hok
  unfold ad_X12_cure at h
  split at h
  · obtain ⟨hq0, hA0⟩ := bif_s h
    obtain ⟨e0, hq1⟩ := beq_and hq0
    subst e0
    obtain ⟨r, hr, hk⟩ := Option.bind_eq_some_iff.mp hA0
    exact ca_of (q := (dcI L) r) (by decide) rfl (Nat.le_of_ble_eq_true rfl) hk (fun _ => rfl) (fun e => by cases e) (exs (sp := [52]) (K := (kc 52 (A_X12_cure_52 (f_X12_cure_52 FU)) k0)) (L0 := L) (σ0 := σ) ok_X12_cure rt_X12_cure (by omega) (hc_X12_cure G l hd) (hrI rfl) (hkc (b_X12_cure_52 hd FU) hk0) 62 hr (inv0 hW hok))
  · cases h
def tt_X12_days (pc : Nat) : TI := bif Nat.blt pc 22 then (bif Nat.blt pc 10 then (bif Nat.blt pc 2 then (bif Nat.blt pc 1 then (bif Nat.beq pc 0 then (.iload_n 1, 1, (1, 0, 0), 0, 0, []) else TN) else (bif Nat.beq pc 1 then (.iconst 1, 2, (0, 0, 0), 1, 0, []) else TN)) else (bif Nat.blt pc 4 then (bif Nat.beq pc 2 then (.bipush 60, 4, (0, 0, 0), 60, 0, []) else TN) else (bif Nat.blt pc 7 then (bif Nat.beq pc 4 then (.invokestatic 146, 7, (147, 3, 0), 0, 0, []) else TN) else (bif Nat.beq pc 7 then (.ifCond .eq 15, 10, (22, 0, 0), 0, 0, []) else TN)))) else (bif Nat.blt pc 15 then (bif Nat.blt pc 11 then (bif Nat.beq pc 10 then (.aload_n 0, 11, (0, 0, 0), 0, 0, []) else TN) else (bif Nat.blt pc 14 then (bif Nat.beq pc 11 then (.getfield 166, 14, (12, 1, 0), 0, 0, []) else TN) else (bif Nat.beq pc 14 then (.iload_n 1, 15, (1, 0, 0), 0, 0, []) else TN))) else (bif Nat.blt pc 16 then (bif Nat.beq pc 15 then (.iadd, 16, (0, 0, 0), 0, 0, []) else TN) else (bif Nat.blt pc 19 then (bif Nat.beq pc 16 then (.sipush 400, 19, (0, 0, 0), 400, 0, []) else TN) else (bif Nat.beq pc 19 then (.if_icmp .le 6, 22, (25, 0, 0), 0, 0, []) else TN))))) else (bif Nat.blt pc 30 then (bif Nat.blt pc 25 then (bif Nat.blt pc 24 then (bif Nat.beq pc 22 then (.ldc 156, 24, (0, 0, 0), -1000000001, 0, []) else TN) else (bif Nat.beq pc 24 then (.ireturn, 25, (0, 0, 0), 0, 0, []) else TN)) else (bif Nat.blt pc 26 then (bif Nat.beq pc 25 then (.aload_n 0, 26, (0, 0, 0), 0, 0, []) else TN) else (bif Nat.blt pc 27 then (bif Nat.beq pc 26 then (.dup, 27, (0, 0, 0), 0, 0, []) else TN) else (bif Nat.beq pc 27 then (.getfield 166, 30, (12, 1, 0), 0, 0, []) else TN)))) else (bif Nat.blt pc 35 then (bif Nat.blt pc 31 then (bif Nat.beq pc 30 then (.iload_n 1, 31, (1, 0, 0), 0, 0, []) else TN) else (bif Nat.blt pc 32 then (bif Nat.beq pc 31 then (.iadd, 32, (0, 0, 0), 0, 0, []) else TN) else (bif Nat.beq pc 32 then (.putfield 166, 35, (12, 1, 0), 0, 0, []) else TN))) else (bif Nat.blt pc 36 then (bif Nat.beq pc 35 then (.aload_n 0, 36, (0, 0, 0), 0, 0, []) else TN) else (bif Nat.blt pc 39 then (bif Nat.beq pc 36 then (.getfield 166, 39, (12, 1, 0), 0, 0, []) else TN) else (bif Nat.beq pc 39 then (.ireturn, 40, (0, 0, 0), 0, 0, []) else TN)))))
def tb_X12_days (pc : Nat) : TI := bif Nat.ble 40 pc then TN else tt_X12_days pc
theorem ok_X12_days : tOK 12 (decide ("days" = "<init>")) cX12_days tb_X12_days := tOK_of 40 tn_of (by decide +kernel)
def f_X12_days (L : Lay) (σ : Sto) (a0 : Nat) (a1 : Int32) : Option (Int32 × Sto) := (f_X12_in L σ a1 1 60).bind fun r1 => (if r1 = 0 then some ((-1000000001), σ) else (if ((σ.1 a0 1) + a1) ≤ 400 then (putI σ a0 1 ((σ.1 a0 1) + a1)).bind fun σ2 => some ((σ2.1 a0 1), σ2) else some ((-1000000001), σ)))
def ad_X12_days : ADT := fun O L σ as k => match as with
  | [.inr (.inr (.inl (ta0, some a0))), .inl a1] => bif Nat.beq ta0 12 && true then (f_X12_days L σ a0 a1).bind fun r => k (some (vI r.1)) L r.2 else none
  | _ => none
abbrev cl_X12_days {O : Type} : CLT O := (clc 147 ad_X12_in cl0)
theorem hc_X12_days (G : GT) (l : Launch) {d : Nat} (hd : 2 ≤ d) {O : Type} : HCL G l (true, false) d (cl_X12_days (O := O)) := (hclc (ca_X12_in G l (d := 1) (Nat.le_refl _)) (fun _ => rfl) (fun e => by cases e) (by omega) hcl0)
theorem rt_X12_days : retOK (0, 0) (some .int) := ⟨fun _ => rfl, fun h => absurd h (by decide), fun h => absurd h (by decide)⟩
set_option maxRecDepth 20000 in
theorem ca_X12_days (G : GT) (l : Launch) {d : Nat} (hd : 2 ≤ d) : CA G l 137 (true, false) d ad_X12_days := by
  intro O L σ as k o h hW hok
  unfold ad_X12_days at h
  split at h
  · obtain ⟨hq0, hA0⟩ := bif_s h
    obtain ⟨e0, hq1⟩ := beq_and hq0
    subst e0
    obtain ⟨r, hr, hk⟩ := Option.bind_eq_some_iff.mp hA0
    exact ca_of (q := (dcI L) r) (by decide) rfl (Nat.le_of_ble_eq_true rfl) hk (fun _ => rfl) (fun e => by cases e) (exs (sp := []) (K := k0) (L0 := L) (σ0 := σ) ok_X12_days rt_X12_days (by omega) (hc_X12_days G l hd) (hrI rfl) hk0 25 hr (inv0 hW hok))
  · cases h
def tt_X12_docked (pc : Nat) : TI := bif Nat.blt pc 28 then (bif Nat.blt pc 13 then (bif Nat.blt pc 5 then (bif Nat.blt pc 1 then (bif Nat.beq pc 0 then (.aload_n 0, 1, (0, 0, 0), 0, 0, []) else TN) else (bif Nat.blt pc 2 then (bif Nat.beq pc 1 then (.iload_n 1, 2, (1, 0, 0), 0, 0, []) else TN) else (bif Nat.beq pc 2 then (.invokevirtual 169, 5, (157, 1, 12), 0, 0, []) else TN))) else (bif Nat.blt pc 9 then (bif Nat.blt pc 8 then (bif Nat.beq pc 5 then (.ifCond .eq 14, 8, (19, 0, 0), 0, 0, []) else TN) else (bif Nat.beq pc 8 then (.iload_n 2, 9, (2, 0, 0), 0, 0, []) else TN)) else (bif Nat.blt pc 10 then (bif Nat.beq pc 9 then (.iconst 0, 10, (0, 0, 0), 0, 0, []) else TN) else (bif Nat.beq pc 10 then (.sipush 600, 13, (0, 0, 0), 600, 0, []) else TN)))) else (bif Nat.blt pc 22 then (bif Nat.blt pc 19 then (bif Nat.blt pc 16 then (bif Nat.beq pc 13 then (.invokestatic 146, 16, (147, 3, 0), 0, 0, []) else TN) else (bif Nat.beq pc 16 then (.ifCond .ne 6, 19, (22, 0, 0), 0, 0, []) else TN)) else (bif Nat.blt pc 21 then (bif Nat.beq pc 19 then (.ldc 156, 21, (0, 0, 0), -1000000001, 0, []) else TN) else (bif Nat.beq pc 21 then (.ireturn, 22, (0, 0, 0), 0, 0, []) else TN))) else (bif Nat.blt pc 24 then (bif Nat.blt pc 23 then (bif Nat.beq pc 22 then (.aload_n 0, 23, (0, 0, 0), 0, 0, []) else TN) else (bif Nat.beq pc 23 then (.iload_n 1, 24, (1, 0, 0), 0, 0, []) else TN)) else (bif Nat.blt pc 27 then (bif Nat.beq pc 24 then (.invokevirtual 363, 27, (136, 1, 12), 0, 0, []) else TN) else (bif Nat.beq pc 27 then (.aload_n 0, 28, (0, 0, 0), 0, 0, []) else TN))))) else (bif Nat.blt pc 38 then (bif Nat.blt pc 33 then (bif Nat.blt pc 31 then (bif Nat.beq pc 28 then (.getfield 19, 31, (12, 7, 0), 0, 0, []) else TN) else (bif Nat.blt pc 32 then (bif Nat.beq pc 31 then (.iload_n 1, 32, (1, 0, 0), 0, 0, []) else TN) else (bif Nat.beq pc 32 then (.iaload, 33, (0, 0, 0), 0, 0, []) else TN))) else (bif Nat.blt pc 35 then (bif Nat.blt pc 34 then (bif Nat.beq pc 33 then (.iload_n 2, 34, (2, 0, 0), 0, 0, []) else TN) else (bif Nat.beq pc 34 then (.imul, 35, (0, 0, 0), 0, 0, []) else TN)) else (bif Nat.blt pc 37 then (bif Nat.beq pc 35 then (.bipush 60, 37, (0, 0, 0), 60, 0, []) else TN) else (bif Nat.beq pc 37 then (.idiv, 38, (0, 0, 0), 0, 0, []) else TN)))) else (bif Nat.blt pc 44 then (bif Nat.blt pc 40 then (bif Nat.blt pc 39 then (bif Nat.beq pc 38 then (.isub, 39, (0, 0, 0), 0, 0, []) else TN) else (bif Nat.beq pc 39 then (.istore_n 3, 40, (3, 0, 0), 0, 0, []) else TN)) else (bif Nat.blt pc 41 then (bif Nat.beq pc 40 then (.iload_n 3, 41, (3, 0, 0), 0, 0, []) else TN) else (bif Nat.beq pc 41 then (.ifCond .ge 7, 44, (48, 0, 0), 0, 0, []) else TN))) else (bif Nat.blt pc 48 then (bif Nat.blt pc 45 then (bif Nat.beq pc 44 then (.iconst 0, 45, (0, 0, 0), 0, 0, []) else TN) else (bif Nat.beq pc 45 then (.goto 4, 48, (49, 0, 0), 0, 0, []) else TN)) else (bif Nat.blt pc 49 then (bif Nat.beq pc 48 then (.iload_n 3, 49, (3, 0, 0), 0, 0, []) else TN) else (bif Nat.beq pc 49 then (.ireturn, 50, (0, 0, 0), 0, 0, []) else TN)))))
def tb_X12_docked (pc : Nat) : TI := bif Nat.ble 50 pc then TN else tt_X12_docked pc
theorem ok_X12_docked : tOK 12 (decide ("docked" = "<init>")) cX12_docked tb_X12_docked := tOK_of 50 tn_of (by decide +kernel)
def f_X12_docked (L : Lay) (σ : Sto) (a0 : Nat) (a1 : Int32) (a2 : Int32) : Option Int32 := (f_X12_isMember L σ a0 a1).bind fun r1 => (if r1 = 0 then some (-1000000001) else (f_X12_in L σ a2 0 600).bind fun r2 => (if r2 = 0 then some (-1000000001) else (f_X12_dayWage L σ a0 a1).bind fun r3 => (σ.2.1 a0 7).bind fun x4 => (rI L σ x4 a1).bind fun v5 => (dv (v5 * a2) 60).bind fun q6 => (if 0 ≤ (r3 - q6) then some (r3 - q6) else some 0)))
def ad_X12_docked : ADT := fun O L σ as k => match as with
  | [.inr (.inr (.inl (ta0, some a0))), .inl a1, .inl a2] => bif Nat.beq ta0 12 && true then (f_X12_docked L σ a0 a1 a2).bind fun r => k (some (vI r)) L σ else none
  | _ => none
abbrev cl_X12_docked {O : Type} : CLT O := (clc 157 ad_X12_isMember (clc 147 ad_X12_in (clc 136 ad_X12_dayWage cl0)))
theorem hc_X12_docked (G : GT) (l : Launch) {d : Nat} (hd : 3 ≤ d) {O : Type} : HCL G l (true, true) d (cl_X12_docked (O := O)) := (hclc (ca_X12_isMember G l (d := 2) (Nat.le_refl _)) (fun _ => rfl) (fun _ => rfl) (by omega) (hclc (ca_X12_in G l (d := 1) (Nat.le_refl _)) (fun _ => rfl) (fun _ => rfl) (by omega) (hclc (ca_X12_dayWage G l (d := 1) (Nat.le_refl _)) (fun _ => rfl) (fun _ => rfl) (by omega) hcl0)))
theorem rt_X12_docked : retOK (0, 0) (some .int) := ⟨fun _ => rfl, fun h => absurd h (by decide), fun h => absurd h (by decide)⟩
set_option maxRecDepth 20000 in
theorem ca_X12_docked (G : GT) (l : Launch) {d : Nat} (hd : 3 ≤ d) : CA G l 138 (true, true) d ad_X12_docked := by
  intro O L σ as k o h hW hok
  unfold ad_X12_docked at h
  split at h
  · obtain ⟨hq0, hA0⟩ := bif_s h
    obtain ⟨e0, hq1⟩ := beq_and hq0
    subst e0
    obtain ⟨r, hr, hk⟩ := Option.bind_eq_some_iff.mp hA0
    exact ca_of (q := (dcPI L σ) r) (by decide) rfl (Nat.le_of_ble_eq_true rfl) hk (fun _ => rfl) (fun _ => rfl) (exs (sp := []) (K := k0) (L0 := L) (σ0 := σ) ok_X12_docked rt_X12_docked (by omega) (hc_X12_docked G l hd) (hrPI rfl rfl) hk0 33 hr (inv0 hW hok))
  · cases h
def tt_X12_feed (pc : Nat) : TI := bif Nat.blt pc 52 then (bif Nat.blt pc 25 then (bif Nat.blt pc 14 then (bif Nat.blt pc 6 then (bif Nat.blt pc 1 then (bif Nat.beq pc 0 then (.aload_n 0, 1, (0, 0, 0), 0, 0, []) else TN) else (bif Nat.blt pc 4 then (bif Nat.beq pc 1 then (.getfield 237, 4, (12, 25, 0), 0, 0, []) else TN) else (bif Nat.beq pc 4 then (.bipush 12, 6, (0, 0, 0), 12, 0, []) else TN))) else (bif Nat.blt pc 9 then (bif Nat.blt pc 7 then (bif Nat.beq pc 6 then (.iadd, 7, (0, 0, 0), 0, 0, []) else TN) else (bif Nat.beq pc 7 then (.bipush 108, 9, (0, 0, 0), 108, 0, []) else TN)) else (bif Nat.blt pc 12 then (bif Nat.beq pc 9 then (.if_icmp .le 6, 12, (15, 0, 0), 0, 0, []) else TN) else (bif Nat.beq pc 12 then (.ldc 157, 14, (0, 0, 0), -1000000003, 0, []) else TN)))) else (bif Nat.blt pc 18 then (bif Nat.blt pc 15 then (bif Nat.beq pc 14 then (.ireturn, 15, (0, 0, 0), 0, 0, []) else TN) else (bif Nat.blt pc 16 then (bif Nat.beq pc 15 then (.iconst 0, 16, (0, 0, 0), 0, 0, []) else TN) else (bif Nat.beq pc 16 then (.istore 4, 18, (4, 0, 0), 0, 0, []) else TN))) else (bif Nat.blt pc 21 then (bif Nat.blt pc 20 then (bif Nat.beq pc 18 then (.iload 4, 20, (4, 0, 0), 0, 0, []) else TN) else (bif Nat.beq pc 20 then (.iconst 4, 21, (0, 0, 0), 4, 0, []) else TN)) else (bif Nat.blt pc 24 then (bif Nat.beq pc 21 then (.if_icmp .ge 68, 24, (89, 0, 0), 0, 0, []) else TN) else (bif Nat.beq pc 24 then (.aload_n 0, 25, (0, 0, 0), 0, 0, []) else TN))))) else (bif Nat.blt pc 38 then (bif Nat.blt pc 32 then (bif Nat.blt pc 28 then (bif Nat.beq pc 25 then (.getfield 61, 28, (12, 23, 0), 0, 0, []) else TN) else (bif Nat.blt pc 29 then (bif Nat.beq pc 28 then (.aload_n 0, 29, (0, 0, 0), 0, 0, []) else TN) else (bif Nat.beq pc 29 then (.getfield 237, 32, (12, 25, 0), 0, 0, []) else TN))) else (bif Nat.blt pc 35 then (bif Nat.blt pc 34 then (bif Nat.beq pc 32 then (.iload 4, 34, (4, 0, 0), 0, 0, []) else TN) else (bif Nat.beq pc 34 then (.iadd, 35, (0, 0, 0), 0, 0, []) else TN)) else (bif Nat.blt pc 36 then (bif Nat.beq pc 35 then (.iload_n 1, 36, (1, 0, 0), 0, 0, []) else TN) else (bif Nat.beq pc 36 then (.iload 4, 38, (4, 0, 0), 0, 0, []) else TN)))) else (bif Nat.blt pc 46 then (bif Nat.blt pc 42 then (bif Nat.blt pc 41 then (bif Nat.beq pc 38 then (.invokestatic 240, 41, (127, 2, 0), 0, 0, []) else TN) else (bif Nat.beq pc 41 then (.iastore, 42, (0, 0, 0), 0, 0, []) else TN)) else (bif Nat.blt pc 43 then (bif Nat.beq pc 42 then (.aload_n 0, 43, (0, 0, 0), 0, 0, []) else TN) else (bif Nat.beq pc 43 then (.getfield 61, 46, (12, 23, 0), 0, 0, []) else TN))) else (bif Nat.blt pc 50 then (bif Nat.blt pc 47 then (bif Nat.beq pc 46 then (.aload_n 0, 47, (0, 0, 0), 0, 0, []) else TN) else (bif Nat.beq pc 47 then (.getfield 237, 50, (12, 25, 0), 0, 0, []) else TN)) else (bif Nat.blt pc 51 then (bif Nat.beq pc 50 then (.iconst 4, 51, (0, 0, 0), 4, 0, []) else TN) else (bif Nat.beq pc 51 then (.iadd, 52, (0, 0, 0), 0, 0, []) else TN)))))) else (bif Nat.blt pc 76 then (bif Nat.blt pc 63 then (bif Nat.blt pc 56 then (bif Nat.blt pc 54 then (bif Nat.beq pc 52 then (.iload 4, 54, (4, 0, 0), 0, 0, []) else TN) else (bif Nat.blt pc 55 then (bif Nat.beq pc 54 then (.iadd, 55, (0, 0, 0), 0, 0, []) else TN) else (bif Nat.beq pc 55 then (.iload_n 2, 56, (2, 0, 0), 0, 0, []) else TN))) else (bif Nat.blt pc 61 then (bif Nat.blt pc 58 then (bif Nat.beq pc 56 then (.iload 4, 58, (4, 0, 0), 0, 0, []) else TN) else (bif Nat.beq pc 58 then (.invokestatic 240, 61, (127, 2, 0), 0, 0, []) else TN)) else (bif Nat.blt pc 62 then (bif Nat.beq pc 61 then (.iastore, 62, (0, 0, 0), 0, 0, []) else TN) else (bif Nat.beq pc 62 then (.aload_n 0, 63, (0, 0, 0), 0, 0, []) else TN)))) else (bif Nat.blt pc 70 then (bif Nat.blt pc 66 then (bif Nat.beq pc 63 then (.getfield 61, 66, (12, 23, 0), 0, 0, []) else TN) else (bif Nat.blt pc 67 then (bif Nat.beq pc 66 then (.aload_n 0, 67, (0, 0, 0), 0, 0, []) else TN) else (bif Nat.beq pc 67 then (.getfield 237, 70, (12, 25, 0), 0, 0, []) else TN))) else (bif Nat.blt pc 73 then (bif Nat.blt pc 72 then (bif Nat.beq pc 70 then (.bipush 8, 72, (0, 0, 0), 8, 0, []) else TN) else (bif Nat.beq pc 72 then (.iadd, 73, (0, 0, 0), 0, 0, []) else TN)) else (bif Nat.blt pc 75 then (bif Nat.beq pc 73 then (.iload 4, 75, (4, 0, 0), 0, 0, []) else TN) else (bif Nat.beq pc 75 then (.iadd, 76, (0, 0, 0), 0, 0, []) else TN))))) else (bif Nat.blt pc 90 then (bif Nat.blt pc 82 then (bif Nat.blt pc 77 then (bif Nat.beq pc 76 then (.iload_n 3, 77, (3, 0, 0), 0, 0, []) else TN) else (bif Nat.blt pc 79 then (bif Nat.beq pc 77 then (.iload 4, 79, (4, 0, 0), 0, 0, []) else TN) else (bif Nat.beq pc 79 then (.invokestatic 240, 82, (127, 2, 0), 0, 0, []) else TN))) else (bif Nat.blt pc 86 then (bif Nat.blt pc 83 then (bif Nat.beq pc 82 then (.iastore, 83, (0, 0, 0), 0, 0, []) else TN) else (bif Nat.beq pc 83 then (.iinc 4 1, 86, (4, 0, 0), 1, 0, []) else TN)) else (bif Nat.blt pc 89 then (bif Nat.beq pc 86 then (.goto (-68), 89, (18, 0, 0), 0, 0, []) else TN) else (bif Nat.beq pc 89 then (.aload_n 0, 90, (0, 0, 0), 0, 0, []) else TN)))) else (bif Nat.blt pc 97 then (bif Nat.blt pc 94 then (bif Nat.blt pc 91 then (bif Nat.beq pc 90 then (.dup, 91, (0, 0, 0), 0, 0, []) else TN) else (bif Nat.beq pc 91 then (.getfield 237, 94, (12, 25, 0), 0, 0, []) else TN)) else (bif Nat.blt pc 96 then (bif Nat.beq pc 94 then (.bipush 12, 96, (0, 0, 0), 12, 0, []) else TN) else (bif Nat.beq pc 96 then (.iadd, 97, (0, 0, 0), 0, 0, []) else TN))) else (bif Nat.blt pc 101 then (bif Nat.blt pc 100 then (bif Nat.beq pc 97 then (.putfield 237, 100, (12, 25, 0), 0, 0, []) else TN) else (bif Nat.beq pc 100 then (.aload_n 0, 101, (0, 0, 0), 0, 0, []) else TN)) else (bif Nat.blt pc 104 then (bif Nat.beq pc 101 then (.getfield 237, 104, (12, 25, 0), 0, 0, []) else TN) else (bif Nat.beq pc 104 then (.ireturn, 105, (0, 0, 0), 0, 0, []) else TN))))))
def tb_X12_feed (pc : Nat) : TI := bif Nat.ble 105 pc then TN else tt_X12_feed pc
theorem ok_X12_feed : tOK 12 (decide ("feed" = "<init>")) cX12_feed tb_X12_feed := tOK_of 105 tn_of (by decide +kernel)
def f_X12_feed_18 : Nat → Lay → Sto → Nat → Int32 → Int32 → Int32 → Int32 → Option (Int32 × Sto)
  | 0 => fun _ _ _ _ _ _ _ => none
  | k + 1 => fun L σ a0 a1 a2 a3 a4 => (if 4 ≤ a4 then (putI σ a0 25 ((σ.1 a0 25) + 12)).bind fun σ1 => some ((σ1.1 a0 25), σ1) else (f_X12_byteOf L σ a1 a4).bind fun r2 => (σ.2.1 a0 23).bind fun x3 => (wI L σ x3 ((σ.1 a0 25) + a4) r2).bind fun σ4 => (f_X12_byteOf L σ4 a2 a4).bind fun r5 => (σ4.2.1 a0 23).bind fun x6 => (wI L σ4 x6 (((σ4.1 a0 25) + 4) + a4) r5).bind fun σ7 => (f_X12_byteOf L σ7 a3 a4).bind fun r8 => (σ7.2.1 a0 23).bind fun x9 => (wI L σ7 x9 (((σ7.1 a0 25) + 8) + a4) r8).bind fun σ10 => (f_X12_feed_18 k) L σ10 a0 a1 a2 a3 (a4 + 1))
def A_X12_feed_18 (c : Lay → Sto → Nat → Int32 → Int32 → Int32 → Int32 → Option (Int32 × Sto)) (lc : List (Option AV)) (st : List AV) (L : Lay) (σ : Sto) : Option (Int32 × Sto) := match lc, st with
  | [some (.inr (.inr (.inl (ta0, some a0)))), some (.inl a1), some (.inl a2), some (.inl a3), some (.inl a4)], [] => bif Nat.beq ta0 12 && true then c L σ a0 a1 a2 a3 a4 else none
  | _, _ => none
def f_X12_feed (L : Lay) (σ : Sto) (a0 : Nat) (a1 : Int32) (a2 : Int32) (a3 : Int32) : Option (Int32 × Sto) := (if ((σ.1 a0 25) + 12) ≤ 108 then (f_X12_feed_18 FU) L σ a0 a1 a2 a3 0 else some ((-1000000003), σ))
def ad_X12_feed : ADT := fun O L σ as k => match as with
  | [.inr (.inr (.inl (ta0, some a0))), .inl a1, .inl a2, .inl a3] => bif Nat.beq ta0 12 && true then (f_X12_feed L σ a0 a1 a2 a3).bind fun r => k (some (vI r.1)) L r.2 else none
  | _ => none
abbrev cl_X12_feed {O : Type} : CLT O := (clc 127 ad_X12_byteOf cl0)
theorem hc_X12_feed (G : GT) (l : Launch) {d : Nat} (hd : 2 ≤ d) {O : Type} : HCL G l (true, false) d (cl_X12_feed (O := O)) := (hclc (ca_X12_byteOf G l (d := 1) (Nat.le_refl _)) (fun _ => rfl) (fun e => by cases e) (by omega) hcl0)
theorem rt_X12_feed : retOK (0, 0) (some .int) := ⟨fun _ => rfl, fun h => absurd h (by decide), fun h => absurd h (by decide)⟩
set_option maxRecDepth 20000 in
theorem b_X12_feed_18 {G : GT} {l : Launch} {d : Nat} {L0 : Lay} {σ0 : Sto} (hd : 2 ≤ d) : ∀ k : Nat, HF G l 12 "feed" cX12_feed 5 (some .int) d L0 σ0 (true, false) (dcI L0) 18 (A_X12_feed_18 (f_X12_feed_18 k))
  | 0 => by
    intro lc st L σ o h hI
    unfold A_X12_feed_18 at h
    split at h
    · obtain ⟨_, hA1⟩ := bif_s h
      cases hA1
    · cases h
  | k + 1 => by
    have ih := b_X12_feed_18 (G := G) (l := l) (d := d) (L0 := L0) (σ0 := σ0) hd k
    intro lc st L σ o h hI
    unfold A_X12_feed_18 at h
    split at h
    · obtain ⟨hq0, hA1⟩ := bif_s h
      obtain ⟨e0, hq1⟩ := beq_and hq0
      subst e0
      exact exs (sp := [18]) (K := (kc 18 (A_X12_feed_18 (f_X12_feed_18 k)) k0)) ok_X12_feed rt_X12_feed (by omega) (hc_X12_feed G l hd) (hrI rfl) (hkc ih hk0) 61 hA1 hI
    · cases h
set_option maxRecDepth 20000 in
theorem ca_X12_feed (G : GT) (l : Launch) {d : Nat} (hd : 2 ≤ d) : CA G l 139 (true, false) d ad_X12_feed := by
  intro O L σ as k o h hW hok
  unfold ad_X12_feed at h
  split at h
  · obtain ⟨hq0, hA0⟩ := bif_s h
    obtain ⟨e0, hq1⟩ := beq_and hq0
    subst e0
    obtain ⟨r, hr, hk⟩ := Option.bind_eq_some_iff.mp hA0
    exact ca_of (q := (dcI L) r) (by decide) rfl (Nat.le_of_ble_eq_true rfl) hk (fun _ => rfl) (fun e => by cases e) (exs (sp := [18]) (K := (kc 18 (A_X12_feed_18 (f_X12_feed_18 FU)) k0)) (L0 := L) (σ0 := σ) ok_X12_feed rt_X12_feed (by omega) (hc_X12_feed G l hd) (hrI rfl) (hkc (b_X12_feed_18 hd FU) hk0) 61 hr (inv0 hW hok))
  · cases h
def tt_X12_figuresApart (pc : Nat) : TI := bif Nat.blt pc 26 then (bif Nat.blt pc 12 then (bif Nat.blt pc 4 then (bif Nat.blt pc 2 then (bif Nat.blt pc 1 then (bif Nat.beq pc 0 then (.iconst 0, 1, (0, 0, 0), 0, 0, []) else TN) else (bif Nat.beq pc 1 then (.istore_n 2, 2, (2, 0, 0), 0, 0, []) else TN)) else (bif Nat.blt pc 3 then (bif Nat.beq pc 2 then (.iload_n 0, 3, (0, 0, 0), 0, 0, []) else TN) else (bif Nat.beq pc 3 then (.istore_n 3, 4, (3, 0, 0), 0, 0, []) else TN))) else (bif Nat.blt pc 7 then (bif Nat.blt pc 5 then (bif Nat.beq pc 4 then (.iload_n 1, 5, (1, 0, 0), 0, 0, []) else TN) else (bif Nat.beq pc 5 then (.istore 4, 7, (4, 0, 0), 0, 0, []) else TN)) else (bif Nat.blt pc 8 then (bif Nat.beq pc 7 then (.iconst 0, 8, (0, 0, 0), 0, 0, []) else TN) else (bif Nat.blt pc 10 then (bif Nat.beq pc 8 then (.istore 5, 10, (5, 0, 0), 0, 0, []) else TN) else (bif Nat.beq pc 10 then (.iload 5, 12, (5, 0, 0), 0, 0, []) else TN))))) else (bif Nat.blt pc 18 then (bif Nat.blt pc 16 then (bif Nat.blt pc 13 then (bif Nat.beq pc 12 then (.iconst 4, 13, (0, 0, 0), 4, 0, []) else TN) else (bif Nat.beq pc 13 then (.if_icmp .ge 41, 16, (54, 0, 0), 0, 0, []) else TN)) else (bif Nat.blt pc 17 then (bif Nat.beq pc 16 then (.iload_n 2, 17, (2, 0, 0), 0, 0, []) else TN) else (bif Nat.beq pc 17 then (.iload_n 3, 18, (3, 0, 0), 0, 0, []) else TN))) else (bif Nat.blt pc 21 then (bif Nat.blt pc 20 then (bif Nat.beq pc 18 then (.bipush 10, 20, (0, 0, 0), 10, 0, []) else TN) else (bif Nat.beq pc 20 then (.irem, 21, (0, 0, 0), 0, 0, []) else TN)) else (bif Nat.blt pc 23 then (bif Nat.beq pc 21 then (.iload 4, 23, (4, 0, 0), 0, 0, []) else TN) else (bif Nat.blt pc 25 then (bif Nat.beq pc 23 then (.bipush 10, 25, (0, 0, 0), 10, 0, []) else TN) else (bif Nat.beq pc 25 then (.irem, 26, (0, 0, 0), 0, 0, []) else TN)))))) else (bif Nat.blt pc 40 then (bif Nat.blt pc 34 then (bif Nat.blt pc 30 then (bif Nat.blt pc 29 then (bif Nat.beq pc 26 then (.if_icmp .eq 7, 29, (33, 0, 0), 0, 0, []) else TN) else (bif Nat.beq pc 29 then (.iconst 1, 30, (0, 0, 0), 1, 0, []) else TN)) else (bif Nat.blt pc 33 then (bif Nat.beq pc 30 then (.goto 4, 33, (34, 0, 0), 0, 0, []) else TN) else (bif Nat.beq pc 33 then (.iconst 0, 34, (0, 0, 0), 0, 0, []) else TN))) else (bif Nat.blt pc 36 then (bif Nat.blt pc 35 then (bif Nat.beq pc 34 then (.iadd, 35, (0, 0, 0), 0, 0, []) else TN) else (bif Nat.beq pc 35 then (.istore_n 2, 36, (2, 0, 0), 0, 0, []) else TN)) else (bif Nat.blt pc 37 then (bif Nat.beq pc 36 then (.iload_n 3, 37, (3, 0, 0), 0, 0, []) else TN) else (bif Nat.blt pc 39 then (bif Nat.beq pc 37 then (.bipush 10, 39, (0, 0, 0), 10, 0, []) else TN) else (bif Nat.beq pc 39 then (.idiv, 40, (0, 0, 0), 0, 0, []) else TN))))) else (bif Nat.blt pc 46 then (bif Nat.blt pc 43 then (bif Nat.blt pc 41 then (bif Nat.beq pc 40 then (.istore_n 3, 41, (3, 0, 0), 0, 0, []) else TN) else (bif Nat.beq pc 41 then (.iload 4, 43, (4, 0, 0), 0, 0, []) else TN)) else (bif Nat.blt pc 45 then (bif Nat.beq pc 43 then (.bipush 10, 45, (0, 0, 0), 10, 0, []) else TN) else (bif Nat.beq pc 45 then (.idiv, 46, (0, 0, 0), 0, 0, []) else TN))) else (bif Nat.blt pc 51 then (bif Nat.blt pc 48 then (bif Nat.beq pc 46 then (.istore 4, 48, (4, 0, 0), 0, 0, []) else TN) else (bif Nat.beq pc 48 then (.iinc 5 1, 51, (5, 0, 0), 1, 0, []) else TN)) else (bif Nat.blt pc 54 then (bif Nat.beq pc 51 then (.goto (-41), 54, (10, 0, 0), 0, 0, []) else TN) else (bif Nat.blt pc 55 then (bif Nat.beq pc 54 then (.iload_n 2, 55, (2, 0, 0), 0, 0, []) else TN) else (bif Nat.beq pc 55 then (.ireturn, 56, (0, 0, 0), 0, 0, []) else TN))))))
def tb_X12_figuresApart (pc : Nat) : TI := bif Nat.ble 56 pc then TN else tt_X12_figuresApart pc
theorem ok_X12_figuresApart : tOK 12 (decide ("figuresApart" = "<init>")) cX12_figuresApart tb_X12_figuresApart := tOK_of 56 tn_of (by decide +kernel)
def f_X12_figuresApart_34 (c10 : Lay → Sto → Int32 → Int32 → Int32 → Int32 → Int32 → Option Int32) (L : Lay) (σ : Sto) (a1 : Int32) (a3 : Int32) (a4 : Int32) (a5 : Int32) (s0 : Int32) (s1 : Int32) : Option Int32 := (dv a3 10).bind fun q1 => (dv a4 10).bind fun q2 => c10 L σ a1 (s1 + s0) q1 q2 (a5 + 1)
def A_X12_figuresApart_34 (c : Lay → Sto → Int32 → Int32 → Int32 → Int32 → Int32 → Int32 → Option Int32) (lc : List (Option AV)) (st : List AV) (L : Lay) (σ : Sto) : Option Int32 := match lc, st with
  | [_, some (.inl a1), _, some (.inl a3), some (.inl a4), some (.inl a5)], [.inl s0, .inl s1] => c L σ a1 a3 a4 a5 s0 s1
  | _, _ => none
def f_X12_figuresApart_10 : Nat → Lay → Sto → Int32 → Int32 → Int32 → Int32 → Int32 → Option Int32
  | 0 => fun _ _ _ _ _ _ _ => none
  | k + 1 => fun L σ a1 a2 a3 a4 a5 => (if 4 ≤ a5 then some a2 else (rm a3 10).bind fun q3 => (rm a4 10).bind fun q4 => (if q3 = q4 then (f_X12_figuresApart_34 (f_X12_figuresApart_10 k)) L σ a1 a3 a4 a5 0 a2 else (f_X12_figuresApart_34 (f_X12_figuresApart_10 k)) L σ a1 a3 a4 a5 1 a2))
def A_X12_figuresApart_10 (c : Lay → Sto → Int32 → Int32 → Int32 → Int32 → Int32 → Option Int32) (lc : List (Option AV)) (st : List AV) (L : Lay) (σ : Sto) : Option Int32 := match lc, st with
  | [_, some (.inl a1), some (.inl a2), some (.inl a3), some (.inl a4), some (.inl a5)], [] => c L σ a1 a2 a3 a4 a5
  | _, _ => none
def f_X12_figuresApart (L : Lay) (σ : Sto) (a0 : Int32) (a1 : Int32) : Option Int32 := (f_X12_figuresApart_10 FU) L σ a1 0 a0 a1 0
def ad_X12_figuresApart : ADT := fun O L σ as k => match as with
  | [.inl a0, .inl a1] => (f_X12_figuresApart L σ a0 a1).bind fun r => k (some (vI r)) L σ
  | _ => none
abbrev cl_X12_figuresApart {O : Type} : CLT O := cl0
theorem hc_X12_figuresApart (G : GT) (l : Launch) {d : Nat} (hd : 1 ≤ d) {O : Type} : HCL G l (true, true) d (cl_X12_figuresApart (O := O)) := hcl0
theorem rt_X12_figuresApart : retOK (0, 0) (some .int) := ⟨fun _ => rfl, fun h => absurd h (by decide), fun h => absurd h (by decide)⟩
set_option maxRecDepth 20000 in
theorem b_X12_figuresApart_34 {G : GT} {l : Launch} {d : Nat} {L0 : Lay} {σ0 : Sto} (hd : 1 ≤ d) {c10 : Lay → Sto → Int32 → Int32 → Int32 → Int32 → Int32 → Option Int32} (h10 : HF G l 12 "figuresApart" cX12_figuresApart 6 (some .int) d L0 σ0 (true, true) (dcPI L0 σ0) 10 (A_X12_figuresApart_10 c10)) : HF G l 12 "figuresApart" cX12_figuresApart 6 (some .int) d L0 σ0 (true, true) (dcPI L0 σ0) 34 (A_X12_figuresApart_34 (f_X12_figuresApart_34 c10)) := by
  intro lc st L σ o h hI
  unfold A_X12_figuresApart_34 at h
  split at h
  · have hA0 := h
    exact exs (sp := [10]) (K := (kc 10 (A_X12_figuresApart_10 c10) k0)) ok_X12_figuresApart rt_X12_figuresApart (by omega) (hc_X12_figuresApart G l hd) (hrPI rfl rfl) (hkc h10 hk0) 39 hA0 hI
  · cases h
set_option maxRecDepth 20000 in
theorem b_X12_figuresApart_10 {G : GT} {l : Launch} {d : Nat} {L0 : Lay} {σ0 : Sto} (hd : 1 ≤ d) : ∀ k : Nat, HF G l 12 "figuresApart" cX12_figuresApart 6 (some .int) d L0 σ0 (true, true) (dcPI L0 σ0) 10 (A_X12_figuresApart_10 (f_X12_figuresApart_10 k))
  | 0 => by
    intro lc st L σ o h hI
    unfold A_X12_figuresApart_10 at h
    split at h
    · cases h
    · cases h
  | k + 1 => by
    have ih := b_X12_figuresApart_10 (G := G) (l := l) (d := d) (L0 := L0) (σ0 := σ0) hd k
    intro lc st L σ o h hI
    unfold A_X12_figuresApart_10 at h
    split at h
    · have hA0 := h
      exact exs (sp := [34]) (K := (kc 34 (A_X12_figuresApart_34 (f_X12_figuresApart_34 (f_X12_figuresApart_10 k))) k0)) ok_X12_figuresApart rt_X12_figuresApart (by omega) (hc_X12_figuresApart G l hd) (hrPI rfl rfl) (hkc (b_X12_figuresApart_34 hd ih) hk0) 39 hA0 hI
    · cases h
set_option maxRecDepth 20000 in
theorem ca_X12_figuresApart (G : GT) (l : Launch) {d : Nat} (hd : 1 ≤ d) : CA G l 140 (true, true) d ad_X12_figuresApart := by
  intro O L σ as k o h hW hok
  unfold ad_X12_figuresApart at h
  split at h
  · have hA0 := h
    obtain ⟨r, hr, hk⟩ := Option.bind_eq_some_iff.mp hA0
    exact ca_of (q := (dcPI L σ) r) (by decide) rfl (Nat.le_of_ble_eq_true rfl) hk (fun _ => rfl) (fun _ => rfl) (exs (sp := [10]) (K := (kc 10 (A_X12_figuresApart_10 (f_X12_figuresApart_10 FU)) k0)) (L0 := L) (σ0 := σ) ok_X12_figuresApart rt_X12_figuresApart (by omega) (hc_X12_figuresApart G l hd) (hrPI rfl rfl) (hkc (b_X12_figuresApart_10 hd FU) hk0) 39 hr (inv0 hW hok))
  · cases h
def tt_X12_harm (pc : Nat) : TI := bif Nat.blt pc 24 then (bif Nat.blt pc 11 then (bif Nat.blt pc 4 then (bif Nat.blt pc 1 then (bif Nat.beq pc 0 then (.iload_n 1, 1, (1, 0, 0), 0, 0, []) else TN) else (bif Nat.blt pc 2 then (bif Nat.beq pc 1 then (.iconst 0, 2, (0, 0, 0), 0, 0, []) else TN) else (bif Nat.beq pc 2 then (.bipush 11, 4, (0, 0, 0), 11, 0, []) else TN))) else (bif Nat.blt pc 7 then (bif Nat.beq pc 4 then (.invokestatic 146, 7, (147, 3, 0), 0, 0, []) else TN) else (bif Nat.blt pc 10 then (bif Nat.beq pc 7 then (.ifCond .eq 14, 10, (21, 0, 0), 0, 0, []) else TN) else (bif Nat.beq pc 10 then (.iload_n 2, 11, (2, 0, 0), 0, 0, []) else TN)))) else (bif Nat.blt pc 18 then (bif Nat.blt pc 12 then (bif Nat.beq pc 11 then (.iconst 0, 12, (0, 0, 0), 0, 0, []) else TN) else (bif Nat.blt pc 15 then (bif Nat.beq pc 12 then (.sipush 999, 15, (0, 0, 0), 999, 0, []) else TN) else (bif Nat.beq pc 15 then (.invokestatic 146, 18, (147, 3, 0), 0, 0, []) else TN))) else (bif Nat.blt pc 21 then (bif Nat.beq pc 18 then (.ifCond .ne 6, 21, (24, 0, 0), 0, 0, []) else TN) else (bif Nat.blt pc 23 then (bif Nat.beq pc 21 then (.ldc 156, 23, (0, 0, 0), -1000000001, 0, []) else TN) else (bif Nat.beq pc 23 then (.ireturn, 24, (0, 0, 0), 0, 0, []) else TN))))) else (bif Nat.blt pc 32 then (bif Nat.blt pc 29 then (bif Nat.blt pc 25 then (bif Nat.beq pc 24 then (.aload_n 0, 25, (0, 0, 0), 0, 0, []) else TN) else (bif Nat.blt pc 28 then (bif Nat.beq pc 25 then (.getfield 85, 28, (12, 35, 0), 0, 0, []) else TN) else (bif Nat.beq pc 28 then (.iload_n 1, 29, (1, 0, 0), 0, 0, []) else TN))) else (bif Nat.blt pc 30 then (bif Nat.beq pc 29 then (.iaload, 30, (0, 0, 0), 0, 0, []) else TN) else (bif Nat.blt pc 31 then (bif Nat.beq pc 30 then (.istore_n 3, 31, (3, 0, 0), 0, 0, []) else TN) else (bif Nat.beq pc 31 then (.aload_n 0, 32, (0, 0, 0), 0, 0, []) else TN)))) else (bif Nat.blt pc 37 then (bif Nat.blt pc 35 then (bif Nat.beq pc 32 then (.getfield 85, 35, (12, 35, 0), 0, 0, []) else TN) else (bif Nat.blt pc 36 then (bif Nat.beq pc 35 then (.iload_n 1, 36, (1, 0, 0), 0, 0, []) else TN) else (bif Nat.beq pc 36 then (.iload_n 2, 37, (2, 0, 0), 0, 0, []) else TN))) else (bif Nat.blt pc 38 then (bif Nat.beq pc 37 then (.iastore, 38, (0, 0, 0), 0, 0, []) else TN) else (bif Nat.blt pc 39 then (bif Nat.beq pc 38 then (.iload_n 3, 39, (3, 0, 0), 0, 0, []) else TN) else (bif Nat.beq pc 39 then (.ireturn, 40, (0, 0, 0), 0, 0, []) else TN)))))
def tb_X12_harm (pc : Nat) : TI := bif Nat.ble 40 pc then TN else tt_X12_harm pc
theorem ok_X12_harm : tOK 12 (decide ("harm" = "<init>")) cX12_harm tb_X12_harm := tOK_of 40 tn_of (by decide +kernel)
def f_X12_harm (L : Lay) (σ : Sto) (a0 : Nat) (a1 : Int32) (a2 : Int32) : Option (Int32 × Sto) := (f_X12_in L σ a1 0 11).bind fun r1 => (if r1 = 0 then some ((-1000000001), σ) else (f_X12_in L σ a2 0 999).bind fun r2 => (if r2 = 0 then some ((-1000000001), σ) else (σ.2.1 a0 35).bind fun x3 => (rI L σ x3 a1).bind fun v4 => (σ.2.1 a0 35).bind fun x5 => (wI L σ x5 a1 a2).bind fun σ6 => some (v4, σ6)))
def ad_X12_harm : ADT := fun O L σ as k => match as with
  | [.inr (.inr (.inl (ta0, some a0))), .inl a1, .inl a2] => bif Nat.beq ta0 12 && true then (f_X12_harm L σ a0 a1 a2).bind fun r => k (some (vI r.1)) L r.2 else none
  | _ => none
abbrev cl_X12_harm {O : Type} : CLT O := (clc 147 ad_X12_in cl0)
theorem hc_X12_harm (G : GT) (l : Launch) {d : Nat} (hd : 2 ≤ d) {O : Type} : HCL G l (true, false) d (cl_X12_harm (O := O)) := (hclc (ca_X12_in G l (d := 1) (Nat.le_refl _)) (fun _ => rfl) (fun e => by cases e) (by omega) hcl0)
theorem rt_X12_harm : retOK (0, 0) (some .int) := ⟨fun _ => rfl, fun h => absurd h (by decide), fun h => absurd h (by decide)⟩
set_option maxRecDepth 20000 in
theorem ca_X12_harm (G : GT) (l : Launch) {d : Nat} (hd : 2 ≤ d) : CA G l 143 (true, false) d ad_X12_harm := by
  intro O L σ as k o h hW hok
  unfold ad_X12_harm at h
  split at h
  · obtain ⟨hq0, hA0⟩ := bif_s h
    obtain ⟨e0, hq1⟩ := beq_and hq0
    subst e0
    obtain ⟨r, hr, hk⟩ := Option.bind_eq_some_iff.mp hA0
    exact ca_of (q := (dcI L) r) (by decide) rfl (Nat.le_of_ble_eq_true rfl) hk (fun _ => rfl) (fun e => by cases e) (exs (sp := []) (K := k0) (L0 := L) (σ0 := σ) ok_X12_harm rt_X12_harm (by omega) (hc_X12_harm G l hd) (hrI rfl) hk0 27 hr (inv0 hW hok))
  · cases h
def tt_X12_hasEntitled (pc : Nat) : TI := bif Nat.blt pc 22 then (bif Nat.blt pc 8 then (bif Nat.blt pc 3 then (bif Nat.blt pc 1 then (bif Nat.beq pc 0 then (.iconst 0, 1, (0, 0, 0), 0, 0, []) else TN) else (bif Nat.blt pc 2 then (bif Nat.beq pc 1 then (.istore_n 3, 2, (3, 0, 0), 0, 0, []) else TN) else (bif Nat.beq pc 2 then (.iconst 0, 3, (0, 0, 0), 0, 0, []) else TN))) else (bif Nat.blt pc 5 then (bif Nat.beq pc 3 then (.istore 4, 5, (4, 0, 0), 0, 0, []) else TN) else (bif Nat.blt pc 7 then (bif Nat.beq pc 5 then (.iload 4, 7, (4, 0, 0), 0, 0, []) else TN) else (bif Nat.beq pc 7 then (.aload_n 0, 8, (0, 0, 0), 0, 0, []) else TN)))) else (bif Nat.blt pc 15 then (bif Nat.blt pc 11 then (bif Nat.beq pc 8 then (.getfield 150, 11, (12, 4, 0), 0, 0, []) else TN) else (bif Nat.blt pc 14 then (bif Nat.beq pc 11 then (.if_icmp .ge 35, 14, (46, 0, 0), 0, 0, []) else TN) else (bif Nat.beq pc 14 then (.iload_n 3, 15, (3, 0, 0), 0, 0, []) else TN))) else (bif Nat.blt pc 19 then (bif Nat.blt pc 18 then (bif Nat.beq pc 15 then (.ifCond .ne 19, 18, (34, 0, 0), 0, 0, []) else TN) else (bif Nat.beq pc 18 then (.aload_n 0, 19, (0, 0, 0), 0, 0, []) else TN)) else (bif Nat.blt pc 21 then (bif Nat.beq pc 19 then (.iload 4, 21, (4, 0, 0), 0, 0, []) else TN) else (bif Nat.beq pc 21 then (.aload_n 0, 22, (0, 0, 0), 0, 0, []) else TN))))) else (bif Nat.blt pc 35 then (bif Nat.blt pc 27 then (bif Nat.blt pc 25 then (bif Nat.beq pc 22 then (.getfield 46, 25, (12, 18, 0), 0, 0, []) else TN) else (bif Nat.blt pc 26 then (bif Nat.beq pc 25 then (.iload_n 1, 26, (1, 0, 0), 0, 0, []) else TN) else (bif Nat.beq pc 26 then (.iaload, 27, (0, 0, 0), 0, 0, []) else TN))) else (bif Nat.blt pc 31 then (bif Nat.blt pc 30 then (bif Nat.beq pc 27 then (.invokevirtual 178, 30, (187, 2, 12), 0, 0, []) else TN) else (bif Nat.beq pc 30 then (.iload_n 2, 31, (2, 0, 0), 0, 0, []) else TN)) else (bif Nat.blt pc 34 then (bif Nat.beq pc 31 then (.if_icmp .ne 7, 34, (38, 0, 0), 0, 0, []) else TN) else (bif Nat.beq pc 34 then (.iconst 1, 35, (0, 0, 0), 1, 0, []) else TN)))) else (bif Nat.blt pc 40 then (bif Nat.blt pc 38 then (bif Nat.beq pc 35 then (.goto 4, 38, (39, 0, 0), 0, 0, []) else TN) else (bif Nat.blt pc 39 then (bif Nat.beq pc 38 then (.iconst 0, 39, (0, 0, 0), 0, 0, []) else TN) else (bif Nat.beq pc 39 then (.istore_n 3, 40, (3, 0, 0), 0, 0, []) else TN))) else (bif Nat.blt pc 46 then (bif Nat.blt pc 43 then (bif Nat.beq pc 40 then (.iinc 4 1, 43, (4, 0, 0), 1, 0, []) else TN) else (bif Nat.beq pc 43 then (.goto (-38), 46, (5, 0, 0), 0, 0, []) else TN)) else (bif Nat.blt pc 47 then (bif Nat.beq pc 46 then (.iload_n 3, 47, (3, 0, 0), 0, 0, []) else TN) else (bif Nat.beq pc 47 then (.ireturn, 48, (0, 0, 0), 0, 0, []) else TN)))))
def tb_X12_hasEntitled (pc : Nat) : TI := bif Nat.ble 48 pc then TN else tt_X12_hasEntitled pc
theorem ok_X12_hasEntitled : tOK 12 (decide ("hasEntitled" = "<init>")) cX12_hasEntitled tb_X12_hasEntitled := tOK_of 48 tn_of (by decide +kernel)
def f_X12_hasEntitled_39 (c5 : Lay → Sto → Nat → Int32 → Int32 → Int32 → Int32 → Option Int32) (L : Lay) (σ : Sto) (a0 : Nat) (a1 : Int32) (a2 : Int32) (a4 : Int32) (s0 : Int32) : Option Int32 := c5 L σ a0 a1 a2 s0 (a4 + 1)
def A_X12_hasEntitled_39 (c : Lay → Sto → Nat → Int32 → Int32 → Int32 → Int32 → Option Int32) (lc : List (Option AV)) (st : List AV) (L : Lay) (σ : Sto) : Option Int32 := match lc, st with
  | [some (.inr (.inr (.inl (ta0, some a0)))), some (.inl a1), some (.inl a2), _, some (.inl a4)], [.inl s0] => bif Nat.beq ta0 12 && true then c L σ a0 a1 a2 a4 s0 else none
  | _, _ => none
def f_X12_hasEntitled_34 (c5 : Lay → Sto → Nat → Int32 → Int32 → Int32 → Int32 → Option Int32) (L : Lay) (σ : Sto) (a0 : Nat) (a1 : Int32) (a2 : Int32) (a4 : Int32) : Option Int32 := (f_X12_hasEntitled_39 c5) L σ a0 a1 a2 a4 1
def A_X12_hasEntitled_34 (c : Lay → Sto → Nat → Int32 → Int32 → Int32 → Option Int32) (lc : List (Option AV)) (st : List AV) (L : Lay) (σ : Sto) : Option Int32 := match lc, st with
  | [some (.inr (.inr (.inl (ta0, some a0)))), some (.inl a1), some (.inl a2), _, some (.inl a4)], [] => bif Nat.beq ta0 12 && true then c L σ a0 a1 a2 a4 else none
  | _, _ => none
def f_X12_hasEntitled_5 : Nat → Lay → Sto → Nat → Int32 → Int32 → Int32 → Int32 → Option Int32
  | 0 => fun _ _ _ _ _ _ _ => none
  | k + 1 => fun L σ a0 a1 a2 a3 a4 => (if (σ.1 a0 4) ≤ a4 then (ckN 1 a3).bind fun _ => some a3 else (if a3 = 0 then (σ.2.1 a0 18).bind fun x1 => (rI L σ x1 a1).bind fun v2 => (f_X12_ofOn L σ a0 a4 v2).bind fun r3 => (if r3 = a2 then (f_X12_hasEntitled_34 (f_X12_hasEntitled_5 k)) L σ a0 a1 a2 a4 else (f_X12_hasEntitled_39 (f_X12_hasEntitled_5 k)) L σ a0 a1 a2 a4 0) else (f_X12_hasEntitled_34 (f_X12_hasEntitled_5 k)) L σ a0 a1 a2 a4))
def A_X12_hasEntitled_5 (c : Lay → Sto → Nat → Int32 → Int32 → Int32 → Int32 → Option Int32) (lc : List (Option AV)) (st : List AV) (L : Lay) (σ : Sto) : Option Int32 := match lc, st with
  | [some (.inr (.inr (.inl (ta0, some a0)))), some (.inl a1), some (.inl a2), some (.inl a3), some (.inl a4)], [] => bif Nat.beq ta0 12 && true then c L σ a0 a1 a2 a3 a4 else none
  | _, _ => none
def f_X12_hasEntitled (L : Lay) (σ : Sto) (a0 : Nat) (a1 : Int32) (a2 : Int32) : Option Int32 := (f_X12_hasEntitled_5 FU) L σ a0 a1 a2 0 0
def ad_X12_hasEntitled : ADT := fun O L σ as k => match as with
  | [.inr (.inr (.inl (ta0, some a0))), .inl a1, .inl a2] => bif Nat.beq ta0 12 && true then (f_X12_hasEntitled L σ a0 a1 a2).bind fun r => k (some (vI r)) L σ else none
  | _ => none
abbrev cl_X12_hasEntitled {O : Type} : CLT O := (clc 187 ad_X12_ofOn cl0)
theorem hc_X12_hasEntitled (G : GT) (l : Launch) {d : Nat} (hd : 2 ≤ d) {O : Type} : HCL G l (true, true) d (cl_X12_hasEntitled (O := O)) := (hclc (ca_X12_ofOn G l (d := 1) (Nat.le_refl _)) (fun _ => rfl) (fun _ => rfl) (by omega) hcl0)
theorem rt_X12_hasEntitled : retOK (1, 0) (some .boolean) := ⟨fun _ => rfl, fun h => absurd h (by decide), fun h => absurd h (by decide)⟩
set_option maxRecDepth 20000 in
theorem b_X12_hasEntitled_39 {G : GT} {l : Launch} {d : Nat} {L0 : Lay} {σ0 : Sto} (hd : 2 ≤ d) {c5 : Lay → Sto → Nat → Int32 → Int32 → Int32 → Int32 → Option Int32} (h5 : HF G l 12 "hasEntitled" cX12_hasEntitled 5 (some .boolean) d L0 σ0 (true, true) (dcPI L0 σ0) 5 (A_X12_hasEntitled_5 c5)) : HF G l 12 "hasEntitled" cX12_hasEntitled 5 (some .boolean) d L0 σ0 (true, true) (dcPI L0 σ0) 39 (A_X12_hasEntitled_39 (f_X12_hasEntitled_39 c5)) := by
  intro lc st L σ o h hI
  unfold A_X12_hasEntitled_39 at h
  split at h
  · obtain ⟨hq0, hA1⟩ := bif_s h
    obtain ⟨e0, hq1⟩ := beq_and hq0
    subst e0
    exact exs (sp := [5]) (K := (kc 5 (A_X12_hasEntitled_5 c5) k0)) ok_X12_hasEntitled rt_X12_hasEntitled (by omega) (hc_X12_hasEntitled G l hd) (hrPI rfl rfl) (hkc h5 hk0) 30 hA1 hI
  · cases h
set_option maxRecDepth 20000 in
theorem b_X12_hasEntitled_34 {G : GT} {l : Launch} {d : Nat} {L0 : Lay} {σ0 : Sto} (hd : 2 ≤ d) {c5 : Lay → Sto → Nat → Int32 → Int32 → Int32 → Int32 → Option Int32} (h5 : HF G l 12 "hasEntitled" cX12_hasEntitled 5 (some .boolean) d L0 σ0 (true, true) (dcPI L0 σ0) 5 (A_X12_hasEntitled_5 c5)) : HF G l 12 "hasEntitled" cX12_hasEntitled 5 (some .boolean) d L0 σ0 (true, true) (dcPI L0 σ0) 34 (A_X12_hasEntitled_34 (f_X12_hasEntitled_34 c5)) := by
  intro lc st L σ o h hI
  unfold A_X12_hasEntitled_34 at h
  split at h
  · obtain ⟨hq0, hA1⟩ := bif_s h
    obtain ⟨e0, hq1⟩ := beq_and hq0
    subst e0
    exact exs (sp := [39]) (K := (kc 39 (A_X12_hasEntitled_39 (f_X12_hasEntitled_39 c5)) k0)) ok_X12_hasEntitled rt_X12_hasEntitled (by omega) (hc_X12_hasEntitled G l hd) (hrPI rfl rfl) (hkc (b_X12_hasEntitled_39 hd h5) hk0) 30 hA1 hI
  · cases h
set_option maxRecDepth 20000 in
theorem b_X12_hasEntitled_5 {G : GT} {l : Launch} {d : Nat} {L0 : Lay} {σ0 : Sto} (hd : 2 ≤ d) : ∀ k : Nat, HF G l 12 "hasEntitled" cX12_hasEntitled 5 (some .boolean) d L0 σ0 (true, true) (dcPI L0 σ0) 5 (A_X12_hasEntitled_5 (f_X12_hasEntitled_5 k))
  | 0 => by
    intro lc st L σ o h hI
    unfold A_X12_hasEntitled_5 at h
    split at h
    · obtain ⟨_, hA1⟩ := bif_s h
      cases hA1
    · cases h
  | k + 1 => by
    have ih := b_X12_hasEntitled_5 (G := G) (l := l) (d := d) (L0 := L0) (σ0 := σ0) hd k
    intro lc st L σ o h hI
    unfold A_X12_hasEntitled_5 at h
    split at h
    · obtain ⟨hq0, hA1⟩ := bif_s h
      obtain ⟨e0, hq1⟩ := beq_and hq0
      subst e0
      exact exs (sp := [34, 39]) (K := (kc 34 (A_X12_hasEntitled_34 (f_X12_hasEntitled_34 (f_X12_hasEntitled_5 k))) (kc 39 (A_X12_hasEntitled_39 (f_X12_hasEntitled_39 (f_X12_hasEntitled_5 k))) k0))) ok_X12_hasEntitled rt_X12_hasEntitled (by omega) (hc_X12_hasEntitled G l hd) (hrPI rfl rfl) (hkc (b_X12_hasEntitled_34 hd ih) (hkc (b_X12_hasEntitled_39 hd ih) hk0)) 30 hA1 hI
    · cases h
set_option maxRecDepth 20000 in
theorem ca_X12_hasEntitled (G : GT) (l : Launch) {d : Nat} (hd : 2 ≤ d) : CA G l 145 (true, true) d ad_X12_hasEntitled := by
  intro O L σ as k o h hW hok
  unfold ad_X12_hasEntitled at h
  split at h
  · obtain ⟨hq0, hA0⟩ := bif_s h
    obtain ⟨e0, hq1⟩ := beq_and hq0
    subst e0
    obtain ⟨r, hr, hk⟩ := Option.bind_eq_some_iff.mp hA0
    exact ca_of (q := (dcPI L σ) r) (by decide) rfl (Nat.le_of_ble_eq_true rfl) hk (fun _ => rfl) (fun _ => rfl) (exs (sp := [5]) (K := (kc 5 (A_X12_hasEntitled_5 (f_X12_hasEntitled_5 FU)) k0)) (L0 := L) (σ0 := σ) ok_X12_hasEntitled rt_X12_hasEntitled (by omega) (hc_X12_hasEntitled G l hd) (hrPI rfl rfl) (hkc (b_X12_hasEntitled_5 hd FU) hk0) 30 hr (inv0 hW hok))
  · cases h
def tt_X12_standsOn (pc : Nat) : TI := bif Nat.blt pc 22 then (bif Nat.blt pc 12 then (bif Nat.blt pc 7 then (bif Nat.blt pc 1 then (bif Nat.beq pc 0 then (.aload_n 0, 1, (0, 0, 0), 0, 0, []) else TN) else (bif Nat.blt pc 4 then (bif Nat.beq pc 1 then (.getfield 338, 4, (12, 27, 0), 0, 0, []) else TN) else (bif Nat.beq pc 4 then (.ifCond .eq 37, 7, (41, 0, 0), 0, 0, []) else TN))) else (bif Nat.blt pc 8 then (bif Nat.beq pc 7 then (.aload_n 0, 8, (0, 0, 0), 0, 0, []) else TN) else (bif Nat.blt pc 11 then (bif Nat.beq pc 8 then (.getfield 49, 11, (12, 19, 0), 0, 0, []) else TN) else (bif Nat.beq pc 11 then (.iload_n 1, 12, (1, 0, 0), 0, 0, []) else TN)))) else (bif Nat.blt pc 17 then (bif Nat.blt pc 13 then (bif Nat.beq pc 12 then (.iaload, 13, (0, 0, 0), 0, 0, []) else TN) else (bif Nat.blt pc 14 then (bif Nat.beq pc 13 then (.iconst (-1), 14, (0, 0, 0), -1, 0, []) else TN) else (bif Nat.beq pc 14 then (.if_icmp .eq 27, 17, (41, 0, 0), 0, 0, []) else TN))) else (bif Nat.blt pc 18 then (bif Nat.beq pc 17 then (.aload_n 0, 18, (0, 0, 0), 0, 0, []) else TN) else (bif Nat.blt pc 21 then (bif Nat.beq pc 18 then (.getfield 49, 21, (12, 19, 0), 0, 0, []) else TN) else (bif Nat.beq pc 21 then (.iload_n 1, 22, (1, 0, 0), 0, 0, []) else TN))))) else (bif Nat.blt pc 30 then (bif Nat.blt pc 27 then (bif Nat.blt pc 23 then (bif Nat.beq pc 22 then (.iaload, 23, (0, 0, 0), 0, 0, []) else TN) else (bif Nat.blt pc 24 then (bif Nat.beq pc 23 then (.iload_n 2, 24, (2, 0, 0), 0, 0, []) else TN) else (bif Nat.beq pc 24 then (.if_icmp .gt 17, 27, (41, 0, 0), 0, 0, []) else TN))) else (bif Nat.blt pc 28 then (bif Nat.beq pc 27 then (.aload_n 0, 28, (0, 0, 0), 0, 0, []) else TN) else (bif Nat.blt pc 29 then (bif Nat.beq pc 28 then (.iload_n 1, 29, (1, 0, 0), 0, 0, []) else TN) else (bif Nat.beq pc 29 then (.iconst 0, 30, (0, 0, 0), 0, 0, []) else TN)))) else (bif Nat.blt pc 37 then (bif Nat.blt pc 31 then (bif Nat.beq pc 30 then (.iload_n 2, 31, (2, 0, 0), 0, 0, []) else TN) else (bif Nat.blt pc 34 then (bif Nat.beq pc 31 then (.invokevirtual 344, 34, (202, 3, 12), 0, 0, []) else TN) else (bif Nat.beq pc 34 then (.ifCond .eq 7, 37, (41, 0, 0), 0, 0, []) else TN))) else (bif Nat.blt pc 41 then (bif Nat.blt pc 38 then (bif Nat.beq pc 37 then (.iconst 1, 38, (0, 0, 0), 1, 0, []) else TN) else (bif Nat.beq pc 38 then (.goto 4, 41, (42, 0, 0), 0, 0, []) else TN)) else (bif Nat.blt pc 42 then (bif Nat.beq pc 41 then (.iconst 0, 42, (0, 0, 0), 0, 0, []) else TN) else (bif Nat.beq pc 42 then (.ireturn, 43, (0, 0, 0), 0, 0, []) else TN)))))
def tb_X12_standsOn (pc : Nat) : TI := bif Nat.ble 43 pc then TN else tt_X12_standsOn pc
theorem ok_X12_standsOn : tOK 12 (decide ("standsOn" = "<init>")) cX12_standsOn tb_X12_standsOn := tOK_of 43 tn_of (by decide +kernel)
def f_X12_standsOn (L : Lay) (σ : Sto) (a0 : Nat) (a1 : Int32) (a2 : Int32) : Option (Int32 × Sto) := (if (σ.1 a0 27) = 0 then (ckN 1 0).bind fun _ => some (0, σ) else (σ.2.1 a0 19).bind fun x1 => (rI L σ x1 a1).bind fun v2 => (if v2 = (-1) then (ckN 1 0).bind fun _ => some (0, σ) else (σ.2.1 a0 19).bind fun x3 => (rI L σ x3 a1).bind fun v4 => (if a2 < v4 then (ckN 1 0).bind fun _ => some (0, σ) else (f_X12_saysOn L σ a0 a1 0 a2).bind fun r5 => (if r5.1 = 0 then (ckN 1 0).bind fun _ => some (0, r5.2) else (ckN 1 1).bind fun _ => some (1, r5.2)))))
def ad_X12_standsOn : ADT := fun O L σ as k => match as with
  | [.inr (.inr (.inl (ta0, some a0))), .inl a1, .inl a2] => bif Nat.beq ta0 12 && true then (f_X12_standsOn L σ a0 a1 a2).bind fun r => k (some (vI r.1)) L r.2 else none
  | _ => none
abbrev cl_X12_standsOn {O : Type} : CLT O := (clc 202 ad_X12_saysOn cl0)
theorem hc_X12_standsOn (G : GT) (l : Launch) {d : Nat} (hd : 109 ≤ d) {O : Type} : HCL G l (true, false) d (cl_X12_standsOn (O := O)) := (hclc (ca_X12_saysOn G l (d := 108) (Nat.le_refl _)) (fun _ => rfl) (fun e => by cases e) (by omega) hcl0)
theorem rt_X12_standsOn : retOK (1, 0) (some .boolean) := ⟨fun _ => rfl, fun h => absurd h (by decide), fun h => absurd h (by decide)⟩
set_option maxRecDepth 20000 in
theorem ca_X12_standsOn (G : GT) (l : Launch) {d : Nat} (hd : 109 ≤ d) : CA G l 207 (true, false) d ad_X12_standsOn := by
  intro O L σ as k o h hW hok
  unfold ad_X12_standsOn at h
  split at h
  · obtain ⟨hq0, hA0⟩ := bif_s h
    obtain ⟨e0, hq1⟩ := beq_and hq0
    subst e0
    obtain ⟨r, hr, hk⟩ := Option.bind_eq_some_iff.mp hA0
    exact ca_of (q := (dcI L) r) (by decide) rfl (Nat.le_of_ble_eq_true rfl) hk (fun _ => rfl) (fun e => by cases e) (exs (sp := []) (K := k0) (L0 := L) (σ0 := σ) ok_X12_standsOn rt_X12_standsOn (by omega) (hc_X12_standsOn G l hd) (hrI rfl) hk0 28 hr (inv0 hW hok))
  · cases h
def tt_X12_livesOn (pc : Nat) : TI := bif Nat.blt pc 31 then (bif Nat.blt pc 15 then (bif Nat.blt pc 6 then (bif Nat.blt pc 4 then (bif Nat.blt pc 1 then (bif Nat.beq pc 0 then (.aload_n 0, 1, (0, 0, 0), 0, 0, []) else TN) else (bif Nat.beq pc 1 then (.getfield 49, 4, (12, 19, 0), 0, 0, []) else TN)) else (bif Nat.blt pc 5 then (bif Nat.beq pc 4 then (.iload_n 1, 5, (1, 0, 0), 0, 0, []) else TN) else (bif Nat.beq pc 5 then (.iaload, 6, (0, 0, 0), 0, 0, []) else TN))) else (bif Nat.blt pc 10 then (bif Nat.blt pc 7 then (bif Nat.beq pc 6 then (.iconst (-1), 7, (0, 0, 0), -1, 0, []) else TN) else (bif Nat.beq pc 7 then (.if_icmp .eq 54, 10, (61, 0, 0), 0, 0, []) else TN)) else (bif Nat.blt pc 11 then (bif Nat.beq pc 10 then (.iload_n 2, 11, (2, 0, 0), 0, 0, []) else TN) else (bif Nat.blt pc 12 then (bif Nat.beq pc 11 then (.aload_n 0, 12, (0, 0, 0), 0, 0, []) else TN) else (bif Nat.beq pc 12 then (.getfield 49, 15, (12, 19, 0), 0, 0, []) else TN))))) else (bif Nat.blt pc 22 then (bif Nat.blt pc 17 then (bif Nat.blt pc 16 then (bif Nat.beq pc 15 then (.iload_n 1, 16, (1, 0, 0), 0, 0, []) else TN) else (bif Nat.beq pc 16 then (.iaload, 17, (0, 0, 0), 0, 0, []) else TN)) else (bif Nat.blt pc 20 then (bif Nat.beq pc 17 then (.if_icmp .lt 44, 20, (61, 0, 0), 0, 0, []) else TN) else (bif Nat.blt pc 21 then (bif Nat.beq pc 20 then (.aload_n 0, 21, (0, 0, 0), 0, 0, []) else TN) else (bif Nat.beq pc 21 then (.iload_n 1, 22, (1, 0, 0), 0, 0, []) else TN)))) else (bif Nat.blt pc 26 then (bif Nat.blt pc 23 then (bif Nat.beq pc 22 then (.aload_n 0, 23, (0, 0, 0), 0, 0, []) else TN) else (bif Nat.beq pc 23 then (.getfield 49, 26, (12, 19, 0), 0, 0, []) else TN)) else (bif Nat.blt pc 27 then (bif Nat.beq pc 26 then (.iload_n 1, 27, (1, 0, 0), 0, 0, []) else TN) else (bif Nat.blt pc 28 then (bif Nat.beq pc 27 then (.iaload, 28, (0, 0, 0), 0, 0, []) else TN) else (bif Nat.beq pc 28 then (.invokevirtual 348, 31, (207, 2, 12), 0, 0, []) else TN)))))) else (bif Nat.blt pc 45 then (bif Nat.blt pc 40 then (bif Nat.blt pc 35 then (bif Nat.blt pc 34 then (bif Nat.beq pc 31 then (.ifCond .eq 30, 34, (61, 0, 0), 0, 0, []) else TN) else (bif Nat.beq pc 34 then (.iload_n 2, 35, (2, 0, 0), 0, 0, []) else TN)) else (bif Nat.blt pc 36 then (bif Nat.beq pc 35 then (.aload_n 0, 36, (0, 0, 0), 0, 0, []) else TN) else (bif Nat.blt pc 39 then (bif Nat.beq pc 36 then (.getfield 49, 39, (12, 19, 0), 0, 0, []) else TN) else (bif Nat.beq pc 39 then (.iload_n 1, 40, (1, 0, 0), 0, 0, []) else TN)))) else (bif Nat.blt pc 42 then (bif Nat.blt pc 41 then (bif Nat.beq pc 40 then (.iaload, 41, (0, 0, 0), 0, 0, []) else TN) else (bif Nat.beq pc 41 then (.isub, 42, (0, 0, 0), 0, 0, []) else TN)) else (bif Nat.blt pc 43 then (bif Nat.beq pc 42 then (.aload_n 0, 43, (0, 0, 0), 0, 0, []) else TN) else (bif Nat.blt pc 44 then (bif Nat.beq pc 43 then (.iload_n 1, 44, (1, 0, 0), 0, 0, []) else TN) else (bif Nat.beq pc 44 then (.iconst 2, 45, (0, 0, 0), 2, 0, []) else TN))))) else (bif Nat.blt pc 54 then (bif Nat.blt pc 49 then (bif Nat.blt pc 46 then (bif Nat.beq pc 45 then (.aload_n 0, 46, (0, 0, 0), 0, 0, []) else TN) else (bif Nat.beq pc 46 then (.getfield 49, 49, (12, 19, 0), 0, 0, []) else TN)) else (bif Nat.blt pc 50 then (bif Nat.beq pc 49 then (.iload_n 1, 50, (1, 0, 0), 0, 0, []) else TN) else (bif Nat.blt pc 51 then (bif Nat.beq pc 50 then (.iaload, 51, (0, 0, 0), 0, 0, []) else TN) else (bif Nat.beq pc 51 then (.invokevirtual 344, 54, (202, 3, 12), 0, 0, []) else TN)))) else (bif Nat.blt pc 58 then (bif Nat.blt pc 57 then (bif Nat.beq pc 54 then (.if_icmp .gt 7, 57, (61, 0, 0), 0, 0, []) else TN) else (bif Nat.beq pc 57 then (.iconst 1, 58, (0, 0, 0), 1, 0, []) else TN)) else (bif Nat.blt pc 61 then (bif Nat.beq pc 58 then (.goto 4, 61, (62, 0, 0), 0, 0, []) else TN) else (bif Nat.blt pc 62 then (bif Nat.beq pc 61 then (.iconst 0, 62, (0, 0, 0), 0, 0, []) else TN) else (bif Nat.beq pc 62 then (.ireturn, 63, (0, 0, 0), 0, 0, []) else TN))))))
def tb_X12_livesOn (pc : Nat) : TI := bif Nat.ble 63 pc then TN else tt_X12_livesOn pc
theorem ok_X12_livesOn : tOK 12 (decide ("livesOn" = "<init>")) cX12_livesOn tb_X12_livesOn := tOK_of 63 tn_of (by decide +kernel)
def f_X12_livesOn (L : Lay) (σ : Sto) (a0 : Nat) (a1 : Int32) (a2 : Int32) : Option (Int32 × Sto) := (σ.2.1 a0 19).bind fun x1 => (rI L σ x1 a1).bind fun v2 => (if v2 = (-1) then (ckN 1 0).bind fun _ => some (0, σ) else (σ.2.1 a0 19).bind fun x3 => (rI L σ x3 a1).bind fun v4 => (if a2 < v4 then (ckN 1 0).bind fun _ => some (0, σ) else (σ.2.1 a0 19).bind fun x5 => (rI L σ x5 a1).bind fun v6 => (f_X12_standsOn L σ a0 a1 v6).bind fun r7 => (if r7.1 = 0 then (ckN 1 0).bind fun _ => some (0, r7.2) else (r7.2.2.1 a0 19).bind fun x8 => (rI L r7.2 x8 a1).bind fun v9 => (r7.2.2.1 a0 19).bind fun x10 => (rI L r7.2 x10 a1).bind fun v11 => (f_X12_saysOn L r7.2 a0 a1 2 v11).bind fun r12 => (if r12.1 < (a2 - v9) then (ckN 1 0).bind fun _ => some (0, r12.2) else (ckN 1 1).bind fun _ => some (1, r12.2)))))
def ad_X12_livesOn : ADT := fun O L σ as k => match as with
  | [.inr (.inr (.inl (ta0, some a0))), .inl a1, .inl a2] => bif Nat.beq ta0 12 && true then (f_X12_livesOn L σ a0 a1 a2).bind fun r => k (some (vI r.1)) L r.2 else none
  | _ => none
abbrev cl_X12_livesOn {O : Type} : CLT O := (clc 207 ad_X12_standsOn (clc 202 ad_X12_saysOn cl0))
theorem hc_X12_livesOn (G : GT) (l : Launch) {d : Nat} (hd : 110 ≤ d) {O : Type} : HCL G l (true, false) d (cl_X12_livesOn (O := O)) := (hclc (ca_X12_standsOn G l (d := 109) (Nat.le_refl _)) (fun _ => rfl) (fun e => by cases e) (by omega) (hclc (ca_X12_saysOn G l (d := 108) (Nat.le_refl _)) (fun _ => rfl) (fun e => by cases e) (by omega) hcl0))
theorem rt_X12_livesOn : retOK (1, 0) (some .boolean) := ⟨fun _ => rfl, fun h => absurd h (by decide), fun h => absurd h (by decide)⟩
set_option maxRecDepth 20000 in
theorem ca_X12_livesOn (G : GT) (l : Launch) {d : Nat} (hd : 110 ≤ d) : CA G l 175 (true, false) d ad_X12_livesOn := by
  intro O L σ as k o h hW hok
  unfold ad_X12_livesOn at h
  split at h
  · obtain ⟨hq0, hA0⟩ := bif_s h
    obtain ⟨e0, hq1⟩ := beq_and hq0
    subst e0
    obtain ⟨r, hr, hk⟩ := Option.bind_eq_some_iff.mp hA0
    exact ca_of (q := (dcI L) r) (by decide) rfl (Nat.le_of_ble_eq_true rfl) hk (fun _ => rfl) (fun e => by cases e) (exs (sp := []) (K := k0) (L0 := L) (σ0 := σ) ok_X12_livesOn rt_X12_livesOn (by omega) (hc_X12_livesOn G l hd) (hrI rfl) hk0 42 hr (inv0 hW hok))
  · cases h
def tt_X12_holds (pc : Nat) : TI := bif Nat.blt pc 55 then (bif Nat.blt pc 26 then (bif Nat.blt pc 14 then (bif Nat.blt pc 6 then (bif Nat.blt pc 2 then (bif Nat.blt pc 1 then (bif Nat.beq pc 0 then (.iload_n 1, 1, (1, 0, 0), 0, 0, []) else TN) else (bif Nat.beq pc 1 then (.iconst 0, 2, (0, 0, 0), 0, 0, []) else TN)) else (bif Nat.blt pc 3 then (bif Nat.beq pc 2 then (.aload_n 0, 3, (0, 0, 0), 0, 0, []) else TN) else (bif Nat.beq pc 3 then (.getfield 357, 6, (12, 29, 0), 0, 0, []) else TN))) else (bif Nat.blt pc 8 then (bif Nat.blt pc 7 then (bif Nat.beq pc 6 then (.iconst 1, 7, (0, 0, 0), 1, 0, []) else TN) else (bif Nat.beq pc 7 then (.isub, 8, (0, 0, 0), 0, 0, []) else TN)) else (bif Nat.blt pc 11 then (bif Nat.beq pc 8 then (.invokestatic 146, 11, (147, 3, 0), 0, 0, []) else TN) else (bif Nat.beq pc 11 then (.ifCond .ne 6, 14, (17, 0, 0), 0, 0, []) else TN)))) else (bif Nat.blt pc 21 then (bif Nat.blt pc 17 then (bif Nat.blt pc 16 then (bif Nat.beq pc 14 then (.ldc 156, 16, (0, 0, 0), -1000000001, 0, []) else TN) else (bif Nat.beq pc 16 then (.ireturn, 17, (0, 0, 0), 0, 0, []) else TN)) else (bif Nat.blt pc 18 then (bif Nat.beq pc 17 then (.aload_n 0, 18, (0, 0, 0), 0, 0, []) else TN) else (bif Nat.beq pc 18 then (.getfield 70, 21, (12, 30, 0), 0, 0, []) else TN))) else (bif Nat.blt pc 23 then (bif Nat.blt pc 22 then (bif Nat.beq pc 21 then (.iload_n 1, 22, (1, 0, 0), 0, 0, []) else TN) else (bif Nat.beq pc 22 then (.iaload, 23, (0, 0, 0), 0, 0, []) else TN)) else (bif Nat.blt pc 24 then (bif Nat.beq pc 23 then (.istore_n 2, 24, (2, 0, 0), 0, 0, []) else TN) else (bif Nat.blt pc 25 then (bif Nat.beq pc 24 then (.aload_n 0, 25, (0, 0, 0), 0, 0, []) else TN) else (bif Nat.beq pc 25 then (.iload_n 2, 26, (2, 0, 0), 0, 0, []) else TN)))))) else (bif Nat.blt pc 40 then (bif Nat.blt pc 32 then (bif Nat.blt pc 30 then (bif Nat.blt pc 27 then (bif Nat.beq pc 26 then (.aload_n 0, 27, (0, 0, 0), 0, 0, []) else TN) else (bif Nat.beq pc 27 then (.getfield 76, 30, (12, 32, 0), 0, 0, []) else TN)) else (bif Nat.blt pc 31 then (bif Nat.beq pc 30 then (.iload_n 1, 31, (1, 0, 0), 0, 0, []) else TN) else (bif Nat.beq pc 31 then (.iaload, 32, (0, 0, 0), 0, 0, []) else TN))) else (bif Nat.blt pc 38 then (bif Nat.blt pc 35 then (bif Nat.beq pc 32 then (.invokevirtual 351, 35, (175, 2, 12), 0, 0, []) else TN) else (bif Nat.beq pc 35 then (.ifCond .ne 5, 38, (40, 0, 0), 0, 0, []) else TN)) else (bif Nat.blt pc 39 then (bif Nat.beq pc 38 then (.iconst 0, 39, (0, 0, 0), 0, 0, []) else TN) else (bif Nat.beq pc 39 then (.ireturn, 40, (0, 0, 0), 0, 0, []) else TN)))) else (bif Nat.blt pc 46 then (bif Nat.blt pc 42 then (bif Nat.blt pc 41 then (bif Nat.beq pc 40 then (.aload_n 0, 41, (0, 0, 0), 0, 0, []) else TN) else (bif Nat.beq pc 41 then (.iload_n 2, 42, (2, 0, 0), 0, 0, []) else TN)) else (bif Nat.blt pc 43 then (bif Nat.beq pc 42 then (.aload_n 0, 43, (0, 0, 0), 0, 0, []) else TN) else (bif Nat.beq pc 43 then (.getfield 73, 46, (12, 31, 0), 0, 0, []) else TN))) else (bif Nat.blt pc 48 then (bif Nat.blt pc 47 then (bif Nat.beq pc 46 then (.iload_n 1, 47, (1, 0, 0), 0, 0, []) else TN) else (bif Nat.beq pc 47 then (.iaload, 48, (0, 0, 0), 0, 0, []) else TN)) else (bif Nat.blt pc 51 then (bif Nat.beq pc 48 then (.invokevirtual 220, 51, (169, 2, 12), 0, 0, []) else TN) else (bif Nat.blt pc 52 then (bif Nat.beq pc 51 then (.aload_n 0, 52, (0, 0, 0), 0, 0, []) else TN) else (bif Nat.beq pc 52 then (.getfield 118, 55, (12, 46, 0), 0, 0, []) else TN))))))) else (bif Nat.blt pc 82 then (bif Nat.blt pc 68 then (bif Nat.blt pc 62 then (bif Nat.blt pc 58 then (bif Nat.blt pc 57 then (bif Nat.beq pc 55 then (.bipush 10, 57, (0, 0, 0), 10, 0, []) else TN) else (bif Nat.beq pc 57 then (.aload_n 0, 58, (0, 0, 0), 0, 0, []) else TN)) else (bif Nat.blt pc 61 then (bif Nat.beq pc 58 then (.getfield 76, 61, (12, 32, 0), 0, 0, []) else TN) else (bif Nat.beq pc 61 then (.iload_n 1, 62, (1, 0, 0), 0, 0, []) else TN))) else (bif Nat.blt pc 64 then (bif Nat.blt pc 63 then (bif Nat.beq pc 62 then (.iaload, 63, (0, 0, 0), 0, 0, []) else TN) else (bif Nat.beq pc 63 then (.aload_n 0, 64, (0, 0, 0), 0, 0, []) else TN)) else (bif Nat.blt pc 67 then (bif Nat.beq pc 64 then (.getfield 73, 67, (12, 31, 0), 0, 0, []) else TN) else (bif Nat.beq pc 67 then (.iload_n 1, 68, (1, 0, 0), 0, 0, []) else TN)))) else (bif Nat.blt pc 72 then (bif Nat.blt pc 70 then (bif Nat.blt pc 69 then (bif Nat.beq pc 68 then (.iaload, 69, (0, 0, 0), 0, 0, []) else TN) else (bif Nat.beq pc 69 then (.isub, 70, (0, 0, 0), 0, 0, []) else TN)) else (bif Nat.blt pc 71 then (bif Nat.beq pc 70 then (.iastore, 71, (0, 0, 0), 0, 0, []) else TN) else (bif Nat.beq pc 71 then (.aload_n 0, 72, (0, 0, 0), 0, 0, []) else TN))) else (bif Nat.blt pc 77 then (bif Nat.blt pc 75 then (bif Nat.beq pc 72 then (.getfield 118, 75, (12, 46, 0), 0, 0, []) else TN) else (bif Nat.beq pc 75 then (.bipush 11, 77, (0, 0, 0), 11, 0, []) else TN)) else (bif Nat.blt pc 78 then (bif Nat.beq pc 77 then (.aload_n 0, 78, (0, 0, 0), 0, 0, []) else TN) else (bif Nat.blt pc 81 then (bif Nat.beq pc 78 then (.getfield 79, 81, (12, 33, 0), 0, 0, []) else TN) else (bif Nat.beq pc 81 then (.iload_n 1, 82, (1, 0, 0), 0, 0, []) else TN)))))) else (bif Nat.blt pc 96 then (bif Nat.blt pc 88 then (bif Nat.blt pc 84 then (bif Nat.blt pc 83 then (bif Nat.beq pc 82 then (.iaload, 83, (0, 0, 0), 0, 0, []) else TN) else (bif Nat.beq pc 83 then (.iastore, 84, (0, 0, 0), 0, 0, []) else TN)) else (bif Nat.blt pc 85 then (bif Nat.beq pc 84 then (.aload_n 0, 85, (0, 0, 0), 0, 0, []) else TN) else (bif Nat.beq pc 85 then (.getfield 118, 88, (12, 46, 0), 0, 0, []) else TN))) else (bif Nat.blt pc 91 then (bif Nat.blt pc 90 then (bif Nat.beq pc 88 then (.bipush 12, 90, (0, 0, 0), 12, 0, []) else TN) else (bif Nat.beq pc 90 then (.aload_n 0, 91, (0, 0, 0), 0, 0, []) else TN)) else (bif Nat.blt pc 94 then (bif Nat.beq pc 91 then (.getfield 82, 94, (12, 34, 0), 0, 0, []) else TN) else (bif Nat.blt pc 95 then (bif Nat.beq pc 94 then (.iload_n 1, 95, (1, 0, 0), 0, 0, []) else TN) else (bif Nat.beq pc 95 then (.iaload, 96, (0, 0, 0), 0, 0, []) else TN))))) else (bif Nat.blt pc 102 then (bif Nat.blt pc 98 then (bif Nat.blt pc 97 then (bif Nat.beq pc 96 then (.iastore, 97, (0, 0, 0), 0, 0, []) else TN) else (bif Nat.beq pc 97 then (.aload_n 0, 98, (0, 0, 0), 0, 0, []) else TN)) else (bif Nat.blt pc 99 then (bif Nat.beq pc 98 then (.iconst 1, 99, (0, 0, 0), 1, 0, []) else TN) else (bif Nat.beq pc 99 then (.invokevirtual 341, 102, (142, 1, 12), 0, 0, []) else TN))) else (bif Nat.blt pc 106 then (bif Nat.blt pc 105 then (bif Nat.beq pc 102 then (.ifCond .eq 7, 105, (109, 0, 0), 0, 0, []) else TN) else (bif Nat.beq pc 105 then (.iconst 1, 106, (0, 0, 0), 1, 0, []) else TN)) else (bif Nat.blt pc 109 then (bif Nat.beq pc 106 then (.goto 4, 109, (110, 0, 0), 0, 0, []) else TN) else (bif Nat.blt pc 110 then (bif Nat.beq pc 109 then (.iconst 0, 110, (0, 0, 0), 0, 0, []) else TN) else (bif Nat.beq pc 110 then (.ireturn, 111, (0, 0, 0), 0, 0, []) else TN)))))))
def tb_X12_holds (pc : Nat) : TI := bif Nat.ble 111 pc then TN else tt_X12_holds pc
theorem ok_X12_holds : tOK 12 (decide ("holds" = "<init>")) cX12_holds tb_X12_holds := tOK_of 111 tn_of (by decide +kernel)
def f_X12_holds (L : Lay) (σ : Sto) (a0 : Nat) (a1 : Int32) : Option (Int32 × Sto) := (f_X12_in L σ a1 0 ((σ.1 a0 29) - 1)).bind fun r1 => (if r1 = 0 then some ((-1000000001), σ) else (σ.2.1 a0 30).bind fun x2 => (rI L σ x2 a1).bind fun v3 => (σ.2.1 a0 32).bind fun x4 => (rI L σ x4 a1).bind fun v5 => (f_X12_livesOn L σ a0 v3 v5).bind fun r6 => (if r6.1 = 0 then some (0, r6.2) else (r6.2.2.1 a0 31).bind fun x7 => (rI L r6.2 x7 a1).bind fun v8 => (f_X12_knows L r6.2 a0 v3 v8).bind fun σ9 => (σ9.2.1 a0 32).bind fun x10 => (rI L σ9 x10 a1).bind fun v11 => (σ9.2.1 a0 31).bind fun x12 => (rI L σ9 x12 a1).bind fun v13 => (σ9.2.1 a0 46).bind fun x14 => (wI L σ9 x14 10 (v11 - v13)).bind fun σ15 => (σ15.2.1 a0 33).bind fun x16 => (rI L σ15 x16 a1).bind fun v17 => (σ15.2.1 a0 46).bind fun x18 => (wI L σ15 x18 11 v17).bind fun σ19 => (σ19.2.1 a0 34).bind fun x20 => (rI L σ19 x20 a1).bind fun v21 => (σ19.2.1 a0 46).bind fun x22 => (wI L σ19 x22 12 v21).bind fun σ23 => (f_X12_gives L σ23 a0 1).bind fun r24 => (if r24.1 = 0 then some (0, r24.2) else some (1, r24.2))))
def ad_X12_holds : ADT := fun O L σ as k => match as with
  | [.inr (.inr (.inl (ta0, some a0))), .inl a1] => bif Nat.beq ta0 12 && true then (f_X12_holds L σ a0 a1).bind fun r => k (some (vI r.1)) L r.2 else none
  | _ => none
abbrev cl_X12_holds {O : Type} : CLT O := (clc 147 ad_X12_in (clc 175 ad_X12_livesOn (clc 169 ad_X12_knows (clc 142 ad_X12_gives cl0))))
theorem hc_X12_holds (G : GT) (l : Launch) {d : Nat} (hd : 111 ≤ d) {O : Type} : HCL G l (true, false) d (cl_X12_holds (O := O)) := (hclc (ca_X12_in G l (d := 1) (Nat.le_refl _)) (fun _ => rfl) (fun e => by cases e) (by omega) (hclc (ca_X12_livesOn G l (d := 110) (Nat.le_refl _)) (fun _ => rfl) (fun e => by cases e) (by omega) (hclc (ca_X12_knows G l (d := 4) (Nat.le_refl _)) (fun _ => rfl) (fun e => by cases e) (by omega) (hclc (ca_X12_gives G l (d := 107) (Nat.le_refl _)) (fun _ => rfl) (fun e => by cases e) (by omega) hcl0))))
theorem rt_X12_holds : retOK (0, 0) (some .int) := ⟨fun _ => rfl, fun h => absurd h (by decide), fun h => absurd h (by decide)⟩
set_option maxRecDepth 20000 in
theorem ca_X12_holds (G : GT) (l : Launch) {d : Nat} (hd : 111 ≤ d) : CA G l 146 (true, false) d ad_X12_holds := by
  intro O L σ as k o h hW hok
  unfold ad_X12_holds at h
  split at h
  · obtain ⟨hq0, hA0⟩ := bif_s h
    obtain ⟨e0, hq1⟩ := beq_and hq0
    subst e0
    obtain ⟨r, hr, hk⟩ := Option.bind_eq_some_iff.mp hA0
    exact ca_of (q := (dcI L) r) (by decide) rfl (Nat.le_of_ble_eq_true rfl) hk (fun _ => rfl) (fun e => by cases e) (exs (sp := []) (K := k0) (L0 := L) (σ0 := σ) ok_X12_holds rt_X12_holds (by omega) (hc_X12_holds G l hd) (hrI rfl) hk0 72 hr (inv0 hW hok))
  · cases h
def tt_X12_init (pc : Nat) : TI := bif Nat.blt pc 231 then (bif Nat.blt pc 119 then (bif Nat.blt pc 57 then (bif Nat.blt pc 28 then (bif Nat.blt pc 13 then (bif Nat.blt pc 5 then (bif Nat.blt pc 1 then (bif Nat.beq pc 0 then (.aload_n 0, 1, (0, 0, 0), 0, 0, []) else TN) else (bif Nat.blt pc 4 then (bif Nat.beq pc 1 then (.invokespecial 1, 4, (0, 0, 0), 0, 0, []) else TN) else (bif Nat.beq pc 4 then (.aload_n 0, 5, (0, 0, 0), 0, 0, []) else TN))) else (bif Nat.blt pc 9 then (bif Nat.blt pc 7 then (bif Nat.beq pc 5 then (.bipush 6, 7, (0, 0, 0), 6, 0, []) else TN) else (bif Nat.beq pc 7 then (.newarray .int, 9, (20, 6, 0), 0, 0, []) else TN)) else (bif Nat.blt pc 12 then (bif Nat.beq pc 9 then (.putfield 7, 12, (12, 3, 0), 0, 0, []) else TN) else (bif Nat.beq pc 12 then (.aload_n 0, 13, (0, 0, 0), 0, 0, []) else TN)))) else (bif Nat.blt pc 20 then (bif Nat.blt pc 15 then (bif Nat.beq pc 13 then (.bipush 40, 15, (0, 0, 0), 40, 0, []) else TN) else (bif Nat.blt pc 17 then (bif Nat.beq pc 15 then (.newarray .int, 17, (20, 40, 0), 0, 0, []) else TN) else (bif Nat.beq pc 17 then (.putfield 13, 20, (12, 5, 0), 0, 0, []) else TN))) else (bif Nat.blt pc 23 then (bif Nat.blt pc 21 then (bif Nat.beq pc 20 then (.aload_n 0, 21, (0, 0, 0), 0, 0, []) else TN) else (bif Nat.beq pc 21 then (.bipush 40, 23, (0, 0, 0), 40, 0, []) else TN)) else (bif Nat.blt pc 25 then (bif Nat.beq pc 23 then (.newarray .int, 25, (20, 40, 0), 0, 0, []) else TN) else (bif Nat.beq pc 25 then (.putfield 16, 28, (12, 6, 0), 0, 0, []) else TN))))) else (bif Nat.blt pc 41 then (bif Nat.blt pc 33 then (bif Nat.blt pc 29 then (bif Nat.beq pc 28 then (.aload_n 0, 29, (0, 0, 0), 0, 0, []) else TN) else (bif Nat.blt pc 31 then (bif Nat.beq pc 29 then (.bipush 40, 31, (0, 0, 0), 40, 0, []) else TN) else (bif Nat.beq pc 31 then (.newarray .int, 33, (20, 40, 0), 0, 0, []) else TN))) else (bif Nat.blt pc 37 then (bif Nat.blt pc 36 then (bif Nat.beq pc 33 then (.putfield 19, 36, (12, 7, 0), 0, 0, []) else TN) else (bif Nat.beq pc 36 then (.aload_n 0, 37, (0, 0, 0), 0, 0, []) else TN)) else (bif Nat.blt pc 39 then (bif Nat.beq pc 37 then (.bipush 40, 39, (0, 0, 0), 40, 0, []) else TN) else (bif Nat.beq pc 39 then (.newarray .int, 41, (20, 40, 0), 0, 0, []) else TN)))) else (bif Nat.blt pc 49 then (bif Nat.blt pc 45 then (bif Nat.blt pc 44 then (bif Nat.beq pc 41 then (.putfield 22, 44, (12, 8, 0), 0, 0, []) else TN) else (bif Nat.beq pc 44 then (.aload_n 0, 45, (0, 0, 0), 0, 0, []) else TN)) else (bif Nat.blt pc 47 then (bif Nat.beq pc 45 then (.bipush 40, 47, (0, 0, 0), 40, 0, []) else TN) else (bif Nat.beq pc 47 then (.newarray .int, 49, (20, 40, 0), 0, 0, []) else TN))) else (bif Nat.blt pc 53 then (bif Nat.blt pc 52 then (bif Nat.beq pc 49 then (.putfield 25, 52, (12, 9, 0), 0, 0, []) else TN) else (bif Nat.beq pc 52 then (.aload_n 0, 53, (0, 0, 0), 0, 0, []) else TN)) else (bif Nat.blt pc 55 then (bif Nat.beq pc 53 then (.bipush 40, 55, (0, 0, 0), 40, 0, []) else TN) else (bif Nat.beq pc 55 then (.newarray .int, 57, (20, 40, 0), 0, 0, []) else TN)))))) else (bif Nat.blt pc 89 then (bif Nat.blt pc 73 then (bif Nat.blt pc 64 then (bif Nat.blt pc 60 then (bif Nat.beq pc 57 then (.putfield 28, 60, (12, 10, 0), 0, 0, []) else TN) else (bif Nat.blt pc 61 then (bif Nat.beq pc 60 then (.aload_n 0, 61, (0, 0, 0), 0, 0, []) else TN) else (bif Nat.beq pc 61 then (.sipush 280, 64, (0, 0, 0), 280, 0, []) else TN))) else (bif Nat.blt pc 69 then (bif Nat.blt pc 66 then (bif Nat.beq pc 64 then (.newarray .int, 66, (20, 280, 0), 0, 0, []) else TN) else (bif Nat.beq pc 66 then (.putfield 31, 69, (12, 11, 0), 0, 0, []) else TN)) else (bif Nat.blt pc 70 then (bif Nat.beq pc 69 then (.aload_n 0, 70, (0, 0, 0), 0, 0, []) else TN) else (bif Nat.beq pc 70 then (.sipush 280, 73, (0, 0, 0), 280, 0, []) else TN)))) else (bif Nat.blt pc 81 then (bif Nat.blt pc 78 then (bif Nat.blt pc 75 then (bif Nat.beq pc 73 then (.newarray .int, 75, (20, 280, 0), 0, 0, []) else TN) else (bif Nat.beq pc 75 then (.putfield 34, 78, (12, 12, 0), 0, 0, []) else TN)) else (bif Nat.blt pc 79 then (bif Nat.beq pc 78 then (.aload_n 0, 79, (0, 0, 0), 0, 0, []) else TN) else (bif Nat.beq pc 79 then (.bipush 40, 81, (0, 0, 0), 40, 0, []) else TN))) else (bif Nat.blt pc 86 then (bif Nat.blt pc 83 then (bif Nat.beq pc 81 then (.newarray .int, 83, (20, 40, 0), 0, 0, []) else TN) else (bif Nat.beq pc 83 then (.putfield 37, 86, (12, 14, 0), 0, 0, []) else TN)) else (bif Nat.blt pc 87 then (bif Nat.beq pc 86 then (.aload_n 0, 87, (0, 0, 0), 0, 0, []) else TN) else (bif Nat.beq pc 87 then (.bipush 40, 89, (0, 0, 0), 40, 0, []) else TN))))) else (bif Nat.blt pc 103 then (bif Nat.blt pc 95 then (bif Nat.blt pc 91 then (bif Nat.beq pc 89 then (.newarray .int, 91, (20, 40, 0), 0, 0, []) else TN) else (bif Nat.blt pc 94 then (bif Nat.beq pc 91 then (.putfield 40, 94, (12, 15, 0), 0, 0, []) else TN) else (bif Nat.beq pc 94 then (.aload_n 0, 95, (0, 0, 0), 0, 0, []) else TN))) else (bif Nat.blt pc 99 then (bif Nat.blt pc 97 then (bif Nat.beq pc 95 then (.bipush 12, 97, (0, 0, 0), 12, 0, []) else TN) else (bif Nat.beq pc 97 then (.newarray .int, 99, (20, 12, 0), 0, 0, []) else TN)) else (bif Nat.blt pc 102 then (bif Nat.beq pc 99 then (.putfield 43, 102, (12, 17, 0), 0, 0, []) else TN) else (bif Nat.beq pc 102 then (.aload_n 0, 103, (0, 0, 0), 0, 0, []) else TN)))) else (bif Nat.blt pc 111 then (bif Nat.blt pc 107 then (bif Nat.blt pc 105 then (bif Nat.beq pc 103 then (.bipush 12, 105, (0, 0, 0), 12, 0, []) else TN) else (bif Nat.beq pc 105 then (.newarray .int, 107, (20, 12, 0), 0, 0, []) else TN)) else (bif Nat.blt pc 110 then (bif Nat.beq pc 107 then (.putfield 46, 110, (12, 18, 0), 0, 0, []) else TN) else (bif Nat.beq pc 110 then (.aload_n 0, 111, (0, 0, 0), 0, 0, []) else TN))) else (bif Nat.blt pc 115 then (bif Nat.blt pc 113 then (bif Nat.beq pc 111 then (.bipush 12, 113, (0, 0, 0), 12, 0, []) else TN) else (bif Nat.beq pc 113 then (.newarray .int, 115, (20, 12, 0), 0, 0, []) else TN)) else (bif Nat.blt pc 118 then (bif Nat.beq pc 115 then (.putfield 49, 118, (12, 19, 0), 0, 0, []) else TN) else (bif Nat.beq pc 118 then (.aload_n 0, 119, (0, 0, 0), 0, 0, []) else TN))))))) else (bif Nat.blt pc 181 then (bif Nat.blt pc 153 then (bif Nat.blt pc 136 then (bif Nat.blt pc 127 then (bif Nat.blt pc 122 then (bif Nat.beq pc 119 then (.sipush 480, 122, (0, 0, 0), 480, 0, []) else TN) else (bif Nat.blt pc 124 then (bif Nat.beq pc 122 then (.newarray .int, 124, (20, 480, 0), 0, 0, []) else TN) else (bif Nat.beq pc 124 then (.putfield 52, 127, (12, 20, 0), 0, 0, []) else TN))) else (bif Nat.blt pc 131 then (bif Nat.blt pc 128 then (bif Nat.beq pc 127 then (.aload_n 0, 128, (0, 0, 0), 0, 0, []) else TN) else (bif Nat.beq pc 128 then (.sipush 480, 131, (0, 0, 0), 480, 0, []) else TN)) else (bif Nat.blt pc 133 then (bif Nat.beq pc 131 then (.newarray .int, 133, (20, 480, 0), 0, 0, []) else TN) else (bif Nat.beq pc 133 then (.putfield 55, 136, (12, 21, 0), 0, 0, []) else TN)))) else (bif Nat.blt pc 145 then (bif Nat.blt pc 140 then (bif Nat.blt pc 137 then (bif Nat.beq pc 136 then (.aload_n 0, 137, (0, 0, 0), 0, 0, []) else TN) else (bif Nat.beq pc 137 then (.sipush 480, 140, (0, 0, 0), 480, 0, []) else TN)) else (bif Nat.blt pc 142 then (bif Nat.beq pc 140 then (.newarray .int, 142, (20, 480, 0), 0, 0, []) else TN) else (bif Nat.beq pc 142 then (.putfield 58, 145, (12, 22, 0), 0, 0, []) else TN))) else (bif Nat.blt pc 148 then (bif Nat.blt pc 146 then (bif Nat.beq pc 145 then (.aload_n 0, 146, (0, 0, 0), 0, 0, []) else TN) else (bif Nat.beq pc 146 then (.bipush 108, 148, (0, 0, 0), 108, 0, []) else TN)) else (bif Nat.blt pc 150 then (bif Nat.beq pc 148 then (.newarray .int, 150, (20, 108, 0), 0, 0, []) else TN) else (bif Nat.beq pc 150 then (.putfield 61, 153, (12, 23, 0), 0, 0, []) else TN))))) else (bif Nat.blt pc 165 then (bif Nat.blt pc 158 then (bif Nat.blt pc 154 then (bif Nat.beq pc 153 then (.aload_n 0, 154, (0, 0, 0), 0, 0, []) else TN) else (bif Nat.blt pc 156 then (bif Nat.beq pc 154 then (.bipush 108, 156, (0, 0, 0), 108, 0, []) else TN) else (bif Nat.beq pc 156 then (.newarray .int, 158, (20, 108, 0), 0, 0, []) else TN))) else (bif Nat.blt pc 162 then (bif Nat.blt pc 161 then (bif Nat.beq pc 158 then (.putfield 64, 161, (12, 24, 0), 0, 0, []) else TN) else (bif Nat.beq pc 161 then (.aload_n 0, 162, (0, 0, 0), 0, 0, []) else TN)) else (bif Nat.blt pc 163 then (bif Nat.beq pc 162 then (.iconst 3, 163, (0, 0, 0), 3, 0, []) else TN) else (bif Nat.beq pc 163 then (.newarray .int, 165, (20, 3, 0), 0, 0, []) else TN)))) else (bif Nat.blt pc 173 then (bif Nat.blt pc 169 then (bif Nat.blt pc 168 then (bif Nat.beq pc 165 then (.putfield 67, 168, (12, 28, 0), 0, 0, []) else TN) else (bif Nat.beq pc 168 then (.aload_n 0, 169, (0, 0, 0), 0, 0, []) else TN)) else (bif Nat.blt pc 171 then (bif Nat.beq pc 169 then (.bipush 12, 171, (0, 0, 0), 12, 0, []) else TN) else (bif Nat.beq pc 171 then (.newarray .int, 173, (20, 12, 0), 0, 0, []) else TN))) else (bif Nat.blt pc 177 then (bif Nat.blt pc 176 then (bif Nat.beq pc 173 then (.putfield 70, 176, (12, 30, 0), 0, 0, []) else TN) else (bif Nat.beq pc 176 then (.aload_n 0, 177, (0, 0, 0), 0, 0, []) else TN)) else (bif Nat.blt pc 179 then (bif Nat.beq pc 177 then (.bipush 12, 179, (0, 0, 0), 12, 0, []) else TN) else (bif Nat.beq pc 179 then (.newarray .int, 181, (20, 12, 0), 0, 0, []) else TN)))))) else (bif Nat.blt pc 211 then (bif Nat.blt pc 195 then (bif Nat.blt pc 187 then (bif Nat.blt pc 184 then (bif Nat.beq pc 181 then (.putfield 73, 184, (12, 31, 0), 0, 0, []) else TN) else (bif Nat.blt pc 185 then (bif Nat.beq pc 184 then (.aload_n 0, 185, (0, 0, 0), 0, 0, []) else TN) else (bif Nat.beq pc 185 then (.bipush 12, 187, (0, 0, 0), 12, 0, []) else TN))) else (bif Nat.blt pc 192 then (bif Nat.blt pc 189 then (bif Nat.beq pc 187 then (.newarray .int, 189, (20, 12, 0), 0, 0, []) else TN) else (bif Nat.beq pc 189 then (.putfield 76, 192, (12, 32, 0), 0, 0, []) else TN)) else (bif Nat.blt pc 193 then (bif Nat.beq pc 192 then (.aload_n 0, 193, (0, 0, 0), 0, 0, []) else TN) else (bif Nat.beq pc 193 then (.bipush 12, 195, (0, 0, 0), 12, 0, []) else TN)))) else (bif Nat.blt pc 203 then (bif Nat.blt pc 200 then (bif Nat.blt pc 197 then (bif Nat.beq pc 195 then (.newarray .int, 197, (20, 12, 0), 0, 0, []) else TN) else (bif Nat.beq pc 197 then (.putfield 79, 200, (12, 33, 0), 0, 0, []) else TN)) else (bif Nat.blt pc 201 then (bif Nat.beq pc 200 then (.aload_n 0, 201, (0, 0, 0), 0, 0, []) else TN) else (bif Nat.beq pc 201 then (.bipush 12, 203, (0, 0, 0), 12, 0, []) else TN))) else (bif Nat.blt pc 208 then (bif Nat.blt pc 205 then (bif Nat.beq pc 203 then (.newarray .int, 205, (20, 12, 0), 0, 0, []) else TN) else (bif Nat.beq pc 205 then (.putfield 82, 208, (12, 34, 0), 0, 0, []) else TN)) else (bif Nat.blt pc 209 then (bif Nat.beq pc 208 then (.aload_n 0, 209, (0, 0, 0), 0, 0, []) else TN) else (bif Nat.beq pc 209 then (.bipush 12, 211, (0, 0, 0), 12, 0, []) else TN))))) else (bif Nat.blt pc 222 then (bif Nat.blt pc 217 then (bif Nat.blt pc 213 then (bif Nat.beq pc 211 then (.newarray .int, 213, (20, 12, 0), 0, 0, []) else TN) else (bif Nat.blt pc 216 then (bif Nat.beq pc 213 then (.putfield 85, 216, (12, 35, 0), 0, 0, []) else TN) else (bif Nat.beq pc 216 then (.aload_n 0, 217, (0, 0, 0), 0, 0, []) else TN))) else (bif Nat.blt pc 220 then (bif Nat.blt pc 218 then (bif Nat.beq pc 217 then (.iconst 5, 218, (0, 0, 0), 5, 0, []) else TN) else (bif Nat.beq pc 218 then (.newarray .int, 220, (20, 5, 0), 0, 0, []) else TN)) else (bif Nat.blt pc 221 then (bif Nat.beq pc 220 then (.dup, 221, (0, 0, 0), 0, 0, []) else TN) else (bif Nat.beq pc 221 then (.iconst 0, 222, (0, 0, 0), 0, 0, []) else TN)))) else (bif Nat.blt pc 226 then (bif Nat.blt pc 224 then (bif Nat.blt pc 223 then (bif Nat.beq pc 222 then (.iconst 0, 223, (0, 0, 0), 0, 0, []) else TN) else (bif Nat.beq pc 223 then (.iastore, 224, (0, 0, 0), 0, 0, []) else TN)) else (bif Nat.blt pc 225 then (bif Nat.beq pc 224 then (.dup, 225, (0, 0, 0), 0, 0, []) else TN) else (bif Nat.beq pc 225 then (.iconst 1, 226, (0, 0, 0), 1, 0, []) else TN))) else (bif Nat.blt pc 229 then (bif Nat.blt pc 228 then (bif Nat.beq pc 226 then (.bipush 50, 228, (0, 0, 0), 50, 0, []) else TN) else (bif Nat.beq pc 228 then (.iastore, 229, (0, 0, 0), 0, 0, []) else TN)) else (bif Nat.blt pc 230 then (bif Nat.beq pc 229 then (.dup, 230, (0, 0, 0), 0, 0, []) else TN) else (bif Nat.beq pc 230 then (.iconst 2, 231, (0, 0, 0), 2, 0, []) else TN)))))))) else (bif Nat.blt pc 305 then (bif Nat.blt pc 264 then (bif Nat.blt pc 249 then (bif Nat.blt pc 238 then (bif Nat.blt pc 234 then (bif Nat.blt pc 232 then (bif Nat.beq pc 231 then (.iconst 0, 232, (0, 0, 0), 0, 0, []) else TN) else (bif Nat.blt pc 233 then (bif Nat.beq pc 232 then (.iastore, 233, (0, 0, 0), 0, 0, []) else TN) else (bif Nat.beq pc 233 then (.dup, 234, (0, 0, 0), 0, 0, []) else TN))) else (bif Nat.blt pc 236 then (bif Nat.blt pc 235 then (bif Nat.beq pc 234 then (.iconst 3, 235, (0, 0, 0), 3, 0, []) else TN) else (bif Nat.beq pc 235 then (.iconst 3, 236, (0, 0, 0), 3, 0, []) else TN)) else (bif Nat.blt pc 237 then (bif Nat.beq pc 236 then (.iastore, 237, (0, 0, 0), 0, 0, []) else TN) else (bif Nat.beq pc 237 then (.dup, 238, (0, 0, 0), 0, 0, []) else TN)))) else (bif Nat.blt pc 244 then (bif Nat.blt pc 240 then (bif Nat.blt pc 239 then (bif Nat.beq pc 238 then (.iconst 4, 239, (0, 0, 0), 4, 0, []) else TN) else (bif Nat.beq pc 239 then (.iconst 3, 240, (0, 0, 0), 3, 0, []) else TN)) else (bif Nat.blt pc 241 then (bif Nat.beq pc 240 then (.iastore, 241, (0, 0, 0), 0, 0, []) else TN) else (bif Nat.beq pc 241 then (.putfield 88, 244, (12, 36, 0), 0, 0, []) else TN))) else (bif Nat.blt pc 246 then (bif Nat.blt pc 245 then (bif Nat.beq pc 244 then (.aload_n 0, 245, (0, 0, 0), 0, 0, []) else TN) else (bif Nat.beq pc 245 then (.iconst 5, 246, (0, 0, 0), 5, 0, []) else TN)) else (bif Nat.blt pc 248 then (bif Nat.beq pc 246 then (.newarray .int, 248, (20, 5, 0), 0, 0, []) else TN) else (bif Nat.beq pc 248 then (.dup, 249, (0, 0, 0), 0, 0, []) else TN))))) else (bif Nat.blt pc 256 then (bif Nat.blt pc 252 then (bif Nat.blt pc 250 then (bif Nat.beq pc 249 then (.iconst 0, 250, (0, 0, 0), 0, 0, []) else TN) else (bif Nat.blt pc 251 then (bif Nat.beq pc 250 then (.iconst 0, 251, (0, 0, 0), 0, 0, []) else TN) else (bif Nat.beq pc 251 then (.iastore, 252, (0, 0, 0), 0, 0, []) else TN))) else (bif Nat.blt pc 254 then (bif Nat.blt pc 253 then (bif Nat.beq pc 252 then (.dup, 253, (0, 0, 0), 0, 0, []) else TN) else (bif Nat.beq pc 253 then (.iconst 1, 254, (0, 0, 0), 1, 0, []) else TN)) else (bif Nat.blt pc 255 then (bif Nat.beq pc 254 then (.iconst 0, 255, (0, 0, 0), 0, 0, []) else TN) else (bif Nat.beq pc 255 then (.iastore, 256, (0, 0, 0), 0, 0, []) else TN)))) else (bif Nat.blt pc 260 then (bif Nat.blt pc 258 then (bif Nat.blt pc 257 then (bif Nat.beq pc 256 then (.dup, 257, (0, 0, 0), 0, 0, []) else TN) else (bif Nat.beq pc 257 then (.iconst 2, 258, (0, 0, 0), 2, 0, []) else TN)) else (bif Nat.blt pc 259 then (bif Nat.beq pc 258 then (.iconst 0, 259, (0, 0, 0), 0, 0, []) else TN) else (bif Nat.beq pc 259 then (.iastore, 260, (0, 0, 0), 0, 0, []) else TN))) else (bif Nat.blt pc 262 then (bif Nat.blt pc 261 then (bif Nat.beq pc 260 then (.dup, 261, (0, 0, 0), 0, 0, []) else TN) else (bif Nat.beq pc 261 then (.iconst 3, 262, (0, 0, 0), 3, 0, []) else TN)) else (bif Nat.blt pc 263 then (bif Nat.beq pc 262 then (.iconst 1, 263, (0, 0, 0), 1, 0, []) else TN) else (bif Nat.beq pc 263 then (.iastore, 264, (0, 0, 0), 0, 0, []) else TN)))))) else (bif Nat.blt pc 284 then (bif Nat.blt pc 273 then (bif Nat.blt pc 267 then (bif Nat.blt pc 265 then (bif Nat.beq pc 264 then (.dup, 265, (0, 0, 0), 0, 0, []) else TN) else (bif Nat.blt pc 266 then (bif Nat.beq pc 265 then (.iconst 4, 266, (0, 0, 0), 4, 0, []) else TN) else (bif Nat.beq pc 266 then (.iconst 1, 267, (0, 0, 0), 1, 0, []) else TN))) else (bif Nat.blt pc 271 then (bif Nat.blt pc 268 then (bif Nat.beq pc 267 then (.iastore, 268, (0, 0, 0), 0, 0, []) else TN) else (bif Nat.beq pc 268 then (.putfield 91, 271, (12, 37, 0), 0, 0, []) else TN)) else (bif Nat.blt pc 272 then (bif Nat.beq pc 271 then (.aload_n 0, 272, (0, 0, 0), 0, 0, []) else TN) else (bif Nat.beq pc 272 then (.iconst 5, 273, (0, 0, 0), 5, 0, []) else TN)))) else (bif Nat.blt pc 279 then (bif Nat.blt pc 276 then (bif Nat.blt pc 275 then (bif Nat.beq pc 273 then (.newarray .int, 275, (20, 5, 0), 0, 0, []) else TN) else (bif Nat.beq pc 275 then (.dup, 276, (0, 0, 0), 0, 0, []) else TN)) else (bif Nat.blt pc 277 then (bif Nat.beq pc 276 then (.iconst 0, 277, (0, 0, 0), 0, 0, []) else TN) else (bif Nat.beq pc 277 then (.ldc 94, 279, (0, 0, 0), 1000000, 0, []) else TN))) else (bif Nat.blt pc 281 then (bif Nat.blt pc 280 then (bif Nat.beq pc 279 then (.iastore, 280, (0, 0, 0), 0, 0, []) else TN) else (bif Nat.beq pc 280 then (.dup, 281, (0, 0, 0), 0, 0, []) else TN)) else (bif Nat.blt pc 282 then (bif Nat.beq pc 281 then (.iconst 1, 282, (0, 0, 0), 1, 0, []) else TN) else (bif Nat.beq pc 282 then (.bipush 100, 284, (0, 0, 0), 100, 0, []) else TN))))) else (bif Nat.blt pc 293 then (bif Nat.blt pc 287 then (bif Nat.blt pc 285 then (bif Nat.beq pc 284 then (.iastore, 285, (0, 0, 0), 0, 0, []) else TN) else (bif Nat.blt pc 286 then (bif Nat.beq pc 285 then (.dup, 286, (0, 0, 0), 0, 0, []) else TN) else (bif Nat.beq pc 286 then (.iconst 2, 287, (0, 0, 0), 2, 0, []) else TN))) else (bif Nat.blt pc 291 then (bif Nat.blt pc 290 then (bif Nat.beq pc 287 then (.sipush 9999, 290, (0, 0, 0), 9999, 0, []) else TN) else (bif Nat.beq pc 290 then (.iastore, 291, (0, 0, 0), 0, 0, []) else TN)) else (bif Nat.blt pc 292 then (bif Nat.beq pc 291 then (.dup, 292, (0, 0, 0), 0, 0, []) else TN) else (bif Nat.beq pc 292 then (.iconst 3, 293, (0, 0, 0), 3, 0, []) else TN)))) else (bif Nat.blt pc 298 then (bif Nat.blt pc 296 then (bif Nat.blt pc 295 then (bif Nat.beq pc 293 then (.bipush 12, 295, (0, 0, 0), 12, 0, []) else TN) else (bif Nat.beq pc 295 then (.iastore, 296, (0, 0, 0), 0, 0, []) else TN)) else (bif Nat.blt pc 297 then (bif Nat.beq pc 296 then (.dup, 297, (0, 0, 0), 0, 0, []) else TN) else (bif Nat.beq pc 297 then (.iconst 4, 298, (0, 0, 0), 4, 0, []) else TN))) else (bif Nat.blt pc 301 then (bif Nat.blt pc 300 then (bif Nat.beq pc 298 then (.bipush 20, 300, (0, 0, 0), 20, 0, []) else TN) else (bif Nat.beq pc 300 then (.iastore, 301, (0, 0, 0), 0, 0, []) else TN)) else (bif Nat.blt pc 304 then (bif Nat.beq pc 301 then (.putfield 95, 304, (12, 38, 0), 0, 0, []) else TN) else (bif Nat.beq pc 304 then (.aload_n 0, 305, (0, 0, 0), 0, 0, []) else TN))))))) else (bif Nat.blt pc 356 then (bif Nat.blt pc 327 then (bif Nat.blt pc 317 then (bif Nat.blt pc 312 then (bif Nat.blt pc 307 then (bif Nat.beq pc 305 then (.bipush 30, 307, (0, 0, 0), 30, 0, []) else TN) else (bif Nat.blt pc 309 then (bif Nat.beq pc 307 then (.newarray .int, 309, (20, 30, 0), 0, 0, []) else TN) else (bif Nat.beq pc 309 then (.putfield 98, 312, (12, 40, 0), 0, 0, []) else TN))) else (bif Nat.blt pc 314 then (bif Nat.blt pc 313 then (bif Nat.beq pc 312 then (.aload_n 0, 313, (0, 0, 0), 0, 0, []) else TN) else (bif Nat.beq pc 313 then (.iconst 2, 314, (0, 0, 0), 2, 0, []) else TN)) else (bif Nat.blt pc 316 then (bif Nat.beq pc 314 then (.newarray .int, 316, (20, 2, 0), 0, 0, []) else TN) else (bif Nat.beq pc 316 then (.dup, 317, (0, 0, 0), 0, 0, []) else TN)))) else (bif Nat.blt pc 321 then (bif Nat.blt pc 319 then (bif Nat.blt pc 318 then (bif Nat.beq pc 317 then (.iconst 0, 318, (0, 0, 0), 0, 0, []) else TN) else (bif Nat.beq pc 318 then (.iconst (-1), 319, (0, 0, 0), -1, 0, []) else TN)) else (bif Nat.blt pc 320 then (bif Nat.beq pc 319 then (.iastore, 320, (0, 0, 0), 0, 0, []) else TN) else (bif Nat.beq pc 320 then (.dup, 321, (0, 0, 0), 0, 0, []) else TN))) else (bif Nat.blt pc 323 then (bif Nat.blt pc 322 then (bif Nat.beq pc 321 then (.iconst 1, 322, (0, 0, 0), 1, 0, []) else TN) else (bif Nat.beq pc 322 then (.iconst (-1), 323, (0, 0, 0), -1, 0, []) else TN)) else (bif Nat.blt pc 324 then (bif Nat.beq pc 323 then (.iastore, 324, (0, 0, 0), 0, 0, []) else TN) else (bif Nat.beq pc 324 then (.putfield 101, 327, (12, 41, 0), 0, 0, []) else TN))))) else (bif Nat.blt pc 340 then (bif Nat.blt pc 332 then (bif Nat.blt pc 328 then (bif Nat.beq pc 327 then (.aload_n 0, 328, (0, 0, 0), 0, 0, []) else TN) else (bif Nat.blt pc 330 then (bif Nat.beq pc 328 then (.bipush 80, 330, (0, 0, 0), 80, 0, []) else TN) else (bif Nat.beq pc 330 then (.newarray .short, 332, (21, 80, 0), 0, 0, []) else TN))) else (bif Nat.blt pc 336 then (bif Nat.blt pc 335 then (bif Nat.beq pc 332 then (.putfield 104, 335, (12, 42, 0), 0, 0, []) else TN) else (bif Nat.beq pc 335 then (.aload_n 0, 336, (0, 0, 0), 0, 0, []) else TN)) else (bif Nat.blt pc 338 then (bif Nat.beq pc 336 then (.bipush 40, 338, (0, 0, 0), 40, 0, []) else TN) else (bif Nat.beq pc 338 then (.newarray .int, 340, (20, 40, 0), 0, 0, []) else TN)))) else (bif Nat.blt pc 348 then (bif Nat.blt pc 344 then (bif Nat.blt pc 343 then (bif Nat.beq pc 340 then (.putfield 108, 343, (12, 43, 0), 0, 0, []) else TN) else (bif Nat.beq pc 343 then (.aload_n 0, 344, (0, 0, 0), 0, 0, []) else TN)) else (bif Nat.blt pc 346 then (bif Nat.beq pc 344 then (.bipush 40, 346, (0, 0, 0), 40, 0, []) else TN) else (bif Nat.beq pc 346 then (.newarray .boolean, 348, (22, 40, 0), 0, 0, []) else TN))) else (bif Nat.blt pc 352 then (bif Nat.blt pc 351 then (bif Nat.beq pc 348 then (.putfield 111, 351, (12, 44, 0), 0, 0, []) else TN) else (bif Nat.beq pc 351 then (.aload_n 0, 352, (0, 0, 0), 0, 0, []) else TN)) else (bif Nat.blt pc 354 then (bif Nat.beq pc 352 then (.bipush 40, 354, (0, 0, 0), 40, 0, []) else TN) else (bif Nat.beq pc 354 then (.newarray .boolean, 356, (22, 40, 0), 0, 0, []) else TN)))))) else (bif Nat.blt pc 386 then (bif Nat.blt pc 370 then (bif Nat.blt pc 362 then (bif Nat.blt pc 359 then (bif Nat.beq pc 356 then (.putfield 115, 359, (12, 45, 0), 0, 0, []) else TN) else (bif Nat.blt pc 360 then (bif Nat.beq pc 359 then (.aload_n 0, 360, (0, 0, 0), 0, 0, []) else TN) else (bif Nat.beq pc 360 then (.bipush 13, 362, (0, 0, 0), 13, 0, []) else TN))) else (bif Nat.blt pc 367 then (bif Nat.blt pc 364 then (bif Nat.beq pc 362 then (.newarray .int, 364, (20, 13, 0), 0, 0, []) else TN) else (bif Nat.beq pc 364 then (.putfield 118, 367, (12, 46, 0), 0, 0, []) else TN)) else (bif Nat.blt pc 368 then (bif Nat.beq pc 367 then (.aload_n 0, 368, (0, 0, 0), 0, 0, []) else TN) else (bif Nat.beq pc 368 then (.bipush 6, 370, (0, 0, 0), 6, 0, []) else TN)))) else (bif Nat.blt pc 378 then (bif Nat.blt pc 375 then (bif Nat.blt pc 372 then (bif Nat.beq pc 370 then (.newarray .int, 372, (20, 6, 0), 0, 0, []) else TN) else (bif Nat.beq pc 372 then (.putfield 121, 375, (12, 48, 0), 0, 0, []) else TN)) else (bif Nat.blt pc 376 then (bif Nat.beq pc 375 then (.aload_n 0, 376, (0, 0, 0), 0, 0, []) else TN) else (bif Nat.beq pc 376 then (.bipush 6, 378, (0, 0, 0), 6, 0, []) else TN))) else (bif Nat.blt pc 383 then (bif Nat.blt pc 380 then (bif Nat.beq pc 378 then (.newarray .int, 380, (20, 6, 0), 0, 0, []) else TN) else (bif Nat.beq pc 380 then (.putfield 124, 383, (12, 49, 0), 0, 0, []) else TN)) else (bif Nat.blt pc 384 then (bif Nat.beq pc 383 then (.aload_n 0, 384, (0, 0, 0), 0, 0, []) else TN) else (bif Nat.beq pc 384 then (.bipush 6, 386, (0, 0, 0), 6, 0, []) else TN))))) else (bif Nat.blt pc 400 then (bif Nat.blt pc 392 then (bif Nat.blt pc 388 then (bif Nat.beq pc 386 then (.newarray .int, 388, (20, 6, 0), 0, 0, []) else TN) else (bif Nat.blt pc 391 then (bif Nat.beq pc 388 then (.putfield 127, 391, (12, 50, 0), 0, 0, []) else TN) else (bif Nat.beq pc 391 then (.aload_n 0, 392, (0, 0, 0), 0, 0, []) else TN))) else (bif Nat.blt pc 396 then (bif Nat.blt pc 394 then (bif Nat.beq pc 392 then (.bipush 6, 394, (0, 0, 0), 6, 0, []) else TN) else (bif Nat.beq pc 394 then (.newarray .int, 396, (20, 6, 0), 0, 0, []) else TN)) else (bif Nat.blt pc 399 then (bif Nat.beq pc 396 then (.putfield 130, 399, (12, 51, 0), 0, 0, []) else TN) else (bif Nat.beq pc 399 then (.aload_n 0, 400, (0, 0, 0), 0, 0, []) else TN)))) else (bif Nat.blt pc 407 then (bif Nat.blt pc 403 then (bif Nat.blt pc 401 then (bif Nat.beq pc 400 then (.iconst 3, 401, (0, 0, 0), 3, 0, []) else TN) else (bif Nat.beq pc 401 then (.newarray .int, 403, (20, 3, 0), 0, 0, []) else TN)) else (bif Nat.blt pc 406 then (bif Nat.beq pc 403 then (.putfield 133, 406, (12, 61, 0), 0, 0, []) else TN) else (bif Nat.beq pc 406 then (.aload_n 0, 407, (0, 0, 0), 0, 0, []) else TN))) else (bif Nat.blt pc 411 then (bif Nat.blt pc 409 then (bif Nat.beq pc 407 then (.bipush 40, 409, (0, 0, 0), 40, 0, []) else TN) else (bif Nat.beq pc 409 then (.newarray .short, 411, (21, 40, 0), 0, 0, []) else TN)) else (bif Nat.blt pc 414 then (bif Nat.beq pc 411 then (.putfield 136, 414, (12, 62, 0), 0, 0, []) else TN) else (bif Nat.beq pc 414 then (.return_, 415, (0, 0, 0), 0, 0, []) else TN))))))))
def tb_X12_init (pc : Nat) : TI := bif Nat.ble 415 pc then TN else tt_X12_init pc
theorem ok_X12_init : tOK 12 (decide ("<init>" = "<init>")) cX12_init tb_X12_init := tOK_of 415 tn_of (by decide +kernel)
def f_X12_init_406 (L : Lay) (σ : Sto) (a0 : Nat) : Option (Lay × Sto) := (if (40 : Int32) = nI 40 then (al L σ 21 40 40).bind fun q1 => (putR q1.2.2 a0 62 (some q1.1)).bind fun σ2 => some (q1.2.1, σ2) else none)
def A_X12_init_406 (c : Lay → Sto → Nat → Option (Lay × Sto)) (lc : List (Option AV)) (st : List AV) (L : Lay) (σ : Sto) : Option (Lay × Sto) := match lc, st with
  | [some (.inr (.inr (.inl (ta0, some a0))))], [] => bif Nat.beq ta0 12 && true then c L σ a0 else none
  | _, _ => none
def f_X12_init_399 (L : Lay) (σ : Sto) (a0 : Nat) : Option (Lay × Sto) := (if (3 : Int32) = nI 3 then (al L σ 20 3 3).bind fun q3 => (putR q3.2.2 a0 61 (some q3.1)).bind fun σ4 => (f_X12_init_406) q3.2.1 σ4 a0 else none)
def A_X12_init_399 (c : Lay → Sto → Nat → Option (Lay × Sto)) (lc : List (Option AV)) (st : List AV) (L : Lay) (σ : Sto) : Option (Lay × Sto) := match lc, st with
  | [some (.inr (.inr (.inl (ta0, some a0))))], [] => bif Nat.beq ta0 12 && true then c L σ a0 else none
  | _, _ => none
def f_X12_init_391 (L : Lay) (σ : Sto) (a0 : Nat) : Option (Lay × Sto) := (if (6 : Int32) = nI 6 then (al L σ 20 6 6).bind fun q5 => (putR q5.2.2 a0 51 (some q5.1)).bind fun σ6 => (f_X12_init_399) q5.2.1 σ6 a0 else none)
def A_X12_init_391 (c : Lay → Sto → Nat → Option (Lay × Sto)) (lc : List (Option AV)) (st : List AV) (L : Lay) (σ : Sto) : Option (Lay × Sto) := match lc, st with
  | [some (.inr (.inr (.inl (ta0, some a0))))], [] => bif Nat.beq ta0 12 && true then c L σ a0 else none
  | _, _ => none
def f_X12_init_383 (L : Lay) (σ : Sto) (a0 : Nat) : Option (Lay × Sto) := (if (6 : Int32) = nI 6 then (al L σ 20 6 6).bind fun q7 => (putR q7.2.2 a0 50 (some q7.1)).bind fun σ8 => (f_X12_init_391) q7.2.1 σ8 a0 else none)
def A_X12_init_383 (c : Lay → Sto → Nat → Option (Lay × Sto)) (lc : List (Option AV)) (st : List AV) (L : Lay) (σ : Sto) : Option (Lay × Sto) := match lc, st with
  | [some (.inr (.inr (.inl (ta0, some a0))))], [] => bif Nat.beq ta0 12 && true then c L σ a0 else none
  | _, _ => none
def f_X12_init_375 (L : Lay) (σ : Sto) (a0 : Nat) : Option (Lay × Sto) := (if (6 : Int32) = nI 6 then (al L σ 20 6 6).bind fun q9 => (putR q9.2.2 a0 49 (some q9.1)).bind fun σ10 => (f_X12_init_383) q9.2.1 σ10 a0 else none)
def A_X12_init_375 (c : Lay → Sto → Nat → Option (Lay × Sto)) (lc : List (Option AV)) (st : List AV) (L : Lay) (σ : Sto) : Option (Lay × Sto) := match lc, st with
  | [some (.inr (.inr (.inl (ta0, some a0))))], [] => bif Nat.beq ta0 12 && true then c L σ a0 else none
  | _, _ => none
def f_X12_init_367 (L : Lay) (σ : Sto) (a0 : Nat) : Option (Lay × Sto) := (if (6 : Int32) = nI 6 then (al L σ 20 6 6).bind fun q11 => (putR q11.2.2 a0 48 (some q11.1)).bind fun σ12 => (f_X12_init_375) q11.2.1 σ12 a0 else none)
def A_X12_init_367 (c : Lay → Sto → Nat → Option (Lay × Sto)) (lc : List (Option AV)) (st : List AV) (L : Lay) (σ : Sto) : Option (Lay × Sto) := match lc, st with
  | [some (.inr (.inr (.inl (ta0, some a0))))], [] => bif Nat.beq ta0 12 && true then c L σ a0 else none
  | _, _ => none
def f_X12_init_359 (L : Lay) (σ : Sto) (a0 : Nat) : Option (Lay × Sto) := (if (13 : Int32) = nI 13 then (al L σ 20 13 13).bind fun q13 => (putR q13.2.2 a0 46 (some q13.1)).bind fun σ14 => (f_X12_init_367) q13.2.1 σ14 a0 else none)
def A_X12_init_359 (c : Lay → Sto → Nat → Option (Lay × Sto)) (lc : List (Option AV)) (st : List AV) (L : Lay) (σ : Sto) : Option (Lay × Sto) := match lc, st with
  | [some (.inr (.inr (.inl (ta0, some a0))))], [] => bif Nat.beq ta0 12 && true then c L σ a0 else none
  | _, _ => none
def f_X12_init_351 (L : Lay) (σ : Sto) (a0 : Nat) : Option (Lay × Sto) := (if (40 : Int32) = nI 40 then (al L σ 22 40 40).bind fun q15 => (putR q15.2.2 a0 45 (some q15.1)).bind fun σ16 => (f_X12_init_359) q15.2.1 σ16 a0 else none)
def A_X12_init_351 (c : Lay → Sto → Nat → Option (Lay × Sto)) (lc : List (Option AV)) (st : List AV) (L : Lay) (σ : Sto) : Option (Lay × Sto) := match lc, st with
  | [some (.inr (.inr (.inl (ta0, some a0))))], [] => bif Nat.beq ta0 12 && true then c L σ a0 else none
  | _, _ => none
def f_X12_init_343 (L : Lay) (σ : Sto) (a0 : Nat) : Option (Lay × Sto) := (if (40 : Int32) = nI 40 then (al L σ 22 40 40).bind fun q17 => (putR q17.2.2 a0 44 (some q17.1)).bind fun σ18 => (f_X12_init_351) q17.2.1 σ18 a0 else none)
def A_X12_init_343 (c : Lay → Sto → Nat → Option (Lay × Sto)) (lc : List (Option AV)) (st : List AV) (L : Lay) (σ : Sto) : Option (Lay × Sto) := match lc, st with
  | [some (.inr (.inr (.inl (ta0, some a0))))], [] => bif Nat.beq ta0 12 && true then c L σ a0 else none
  | _, _ => none
def f_X12_init_335 (L : Lay) (σ : Sto) (a0 : Nat) : Option (Lay × Sto) := (if (40 : Int32) = nI 40 then (al L σ 20 40 40).bind fun q19 => (putR q19.2.2 a0 43 (some q19.1)).bind fun σ20 => (f_X12_init_343) q19.2.1 σ20 a0 else none)
def A_X12_init_335 (c : Lay → Sto → Nat → Option (Lay × Sto)) (lc : List (Option AV)) (st : List AV) (L : Lay) (σ : Sto) : Option (Lay × Sto) := match lc, st with
  | [some (.inr (.inr (.inl (ta0, some a0))))], [] => bif Nat.beq ta0 12 && true then c L σ a0 else none
  | _, _ => none
def f_X12_init_327 (L : Lay) (σ : Sto) (a0 : Nat) : Option (Lay × Sto) := (if (80 : Int32) = nI 80 then (al L σ 21 80 80).bind fun q21 => (putR q21.2.2 a0 42 (some q21.1)).bind fun σ22 => (f_X12_init_335) q21.2.1 σ22 a0 else none)
def A_X12_init_327 (c : Lay → Sto → Nat → Option (Lay × Sto)) (lc : List (Option AV)) (st : List AV) (L : Lay) (σ : Sto) : Option (Lay × Sto) := match lc, st with
  | [some (.inr (.inr (.inl (ta0, some a0))))], [] => bif Nat.beq ta0 12 && true then c L σ a0 else none
  | _, _ => none
def f_X12_init_312 (L : Lay) (σ : Sto) (a0 : Nat) : Option (Lay × Sto) := (if (2 : Int32) = nI 2 then (al L σ 20 2 2).bind fun q23 => (wI q23.2.1 q23.2.2 q23.1 0 (-1)).bind fun σ24 => (wI q23.2.1 σ24 q23.1 1 (-1)).bind fun σ25 => (putR σ25 a0 41 (some q23.1)).bind fun σ26 => (f_X12_init_327) q23.2.1 σ26 a0 else none)
def A_X12_init_312 (c : Lay → Sto → Nat → Option (Lay × Sto)) (lc : List (Option AV)) (st : List AV) (L : Lay) (σ : Sto) : Option (Lay × Sto) := match lc, st with
  | [some (.inr (.inr (.inl (ta0, some a0))))], [] => bif Nat.beq ta0 12 && true then c L σ a0 else none
  | _, _ => none
def f_X12_init_304 (L : Lay) (σ : Sto) (a0 : Nat) : Option (Lay × Sto) := (if (30 : Int32) = nI 30 then (al L σ 20 30 30).bind fun q27 => (putR q27.2.2 a0 40 (some q27.1)).bind fun σ28 => (f_X12_init_312) q27.2.1 σ28 a0 else none)
def A_X12_init_304 (c : Lay → Sto → Nat → Option (Lay × Sto)) (lc : List (Option AV)) (st : List AV) (L : Lay) (σ : Sto) : Option (Lay × Sto) := match lc, st with
  | [some (.inr (.inr (.inl (ta0, some a0))))], [] => bif Nat.beq ta0 12 && true then c L σ a0 else none
  | _, _ => none
def f_X12_init_271 (L : Lay) (σ : Sto) (a0 : Nat) : Option (Lay × Sto) := (if (5 : Int32) = nI 5 then (al L σ 20 5 5).bind fun q29 => (wI q29.2.1 q29.2.2 q29.1 0 1000000).bind fun σ30 => (wI q29.2.1 σ30 q29.1 1 100).bind fun σ31 => (wI q29.2.1 σ31 q29.1 2 9999).bind fun σ32 => (wI q29.2.1 σ32 q29.1 3 12).bind fun σ33 => (wI q29.2.1 σ33 q29.1 4 20).bind fun σ34 => (putR σ34 a0 38 (some q29.1)).bind fun σ35 => (f_X12_init_304) q29.2.1 σ35 a0 else none)
def A_X12_init_271 (c : Lay → Sto → Nat → Option (Lay × Sto)) (lc : List (Option AV)) (st : List AV) (L : Lay) (σ : Sto) : Option (Lay × Sto) := match lc, st with
  | [some (.inr (.inr (.inl (ta0, some a0))))], [] => bif Nat.beq ta0 12 && true then c L σ a0 else none
  | _, _ => none
def f_X12_init_244 (L : Lay) (σ : Sto) (a0 : Nat) : Option (Lay × Sto) := (if (5 : Int32) = nI 5 then (al L σ 20 5 5).bind fun q36 => (wI q36.2.1 q36.2.2 q36.1 0 0).bind fun σ37 => (wI q36.2.1 σ37 q36.1 1 0).bind fun σ38 => (wI q36.2.1 σ38 q36.1 2 0).bind fun σ39 => (wI q36.2.1 σ39 q36.1 3 1).bind fun σ40 => (wI q36.2.1 σ40 q36.1 4 1).bind fun σ41 => (putR σ41 a0 37 (some q36.1)).bind fun σ42 => (f_X12_init_271) q36.2.1 σ42 a0 else none)
def A_X12_init_244 (c : Lay → Sto → Nat → Option (Lay × Sto)) (lc : List (Option AV)) (st : List AV) (L : Lay) (σ : Sto) : Option (Lay × Sto) := match lc, st with
  | [some (.inr (.inr (.inl (ta0, some a0))))], [] => bif Nat.beq ta0 12 && true then c L σ a0 else none
  | _, _ => none
def f_X12_init_216 (L : Lay) (σ : Sto) (a0 : Nat) : Option (Lay × Sto) := (if (5 : Int32) = nI 5 then (al L σ 20 5 5).bind fun q43 => (wI q43.2.1 q43.2.2 q43.1 0 0).bind fun σ44 => (wI q43.2.1 σ44 q43.1 1 50).bind fun σ45 => (wI q43.2.1 σ45 q43.1 2 0).bind fun σ46 => (wI q43.2.1 σ46 q43.1 3 3).bind fun σ47 => (wI q43.2.1 σ47 q43.1 4 3).bind fun σ48 => (putR σ48 a0 36 (some q43.1)).bind fun σ49 => (f_X12_init_244) q43.2.1 σ49 a0 else none)
def A_X12_init_216 (c : Lay → Sto → Nat → Option (Lay × Sto)) (lc : List (Option AV)) (st : List AV) (L : Lay) (σ : Sto) : Option (Lay × Sto) := match lc, st with
  | [some (.inr (.inr (.inl (ta0, some a0))))], [] => bif Nat.beq ta0 12 && true then c L σ a0 else none
  | _, _ => none
def f_X12_init_208 (L : Lay) (σ : Sto) (a0 : Nat) : Option (Lay × Sto) := (if (12 : Int32) = nI 12 then (al L σ 20 12 12).bind fun q50 => (putR q50.2.2 a0 35 (some q50.1)).bind fun σ51 => (f_X12_init_216) q50.2.1 σ51 a0 else none)
def A_X12_init_208 (c : Lay → Sto → Nat → Option (Lay × Sto)) (lc : List (Option AV)) (st : List AV) (L : Lay) (σ : Sto) : Option (Lay × Sto) := match lc, st with
  | [some (.inr (.inr (.inl (ta0, some a0))))], [] => bif Nat.beq ta0 12 && true then c L σ a0 else none
  | _, _ => none
def f_X12_init_200 (L : Lay) (σ : Sto) (a0 : Nat) : Option (Lay × Sto) := (if (12 : Int32) = nI 12 then (al L σ 20 12 12).bind fun q52 => (putR q52.2.2 a0 34 (some q52.1)).bind fun σ53 => (f_X12_init_208) q52.2.1 σ53 a0 else none)
def A_X12_init_200 (c : Lay → Sto → Nat → Option (Lay × Sto)) (lc : List (Option AV)) (st : List AV) (L : Lay) (σ : Sto) : Option (Lay × Sto) := match lc, st with
  | [some (.inr (.inr (.inl (ta0, some a0))))], [] => bif Nat.beq ta0 12 && true then c L σ a0 else none
  | _, _ => none
def f_X12_init_192 (L : Lay) (σ : Sto) (a0 : Nat) : Option (Lay × Sto) := (if (12 : Int32) = nI 12 then (al L σ 20 12 12).bind fun q54 => (putR q54.2.2 a0 33 (some q54.1)).bind fun σ55 => (f_X12_init_200) q54.2.1 σ55 a0 else none)
def A_X12_init_192 (c : Lay → Sto → Nat → Option (Lay × Sto)) (lc : List (Option AV)) (st : List AV) (L : Lay) (σ : Sto) : Option (Lay × Sto) := match lc, st with
  | [some (.inr (.inr (.inl (ta0, some a0))))], [] => bif Nat.beq ta0 12 && true then c L σ a0 else none
  | _, _ => none
def f_X12_init_184 (L : Lay) (σ : Sto) (a0 : Nat) : Option (Lay × Sto) := (if (12 : Int32) = nI 12 then (al L σ 20 12 12).bind fun q56 => (putR q56.2.2 a0 32 (some q56.1)).bind fun σ57 => (f_X12_init_192) q56.2.1 σ57 a0 else none)
def A_X12_init_184 (c : Lay → Sto → Nat → Option (Lay × Sto)) (lc : List (Option AV)) (st : List AV) (L : Lay) (σ : Sto) : Option (Lay × Sto) := match lc, st with
  | [some (.inr (.inr (.inl (ta0, some a0))))], [] => bif Nat.beq ta0 12 && true then c L σ a0 else none
  | _, _ => none
def f_X12_init_176 (L : Lay) (σ : Sto) (a0 : Nat) : Option (Lay × Sto) := (if (12 : Int32) = nI 12 then (al L σ 20 12 12).bind fun q58 => (putR q58.2.2 a0 31 (some q58.1)).bind fun σ59 => (f_X12_init_184) q58.2.1 σ59 a0 else none)
def A_X12_init_176 (c : Lay → Sto → Nat → Option (Lay × Sto)) (lc : List (Option AV)) (st : List AV) (L : Lay) (σ : Sto) : Option (Lay × Sto) := match lc, st with
  | [some (.inr (.inr (.inl (ta0, some a0))))], [] => bif Nat.beq ta0 12 && true then c L σ a0 else none
  | _, _ => none
def f_X12_init_168 (L : Lay) (σ : Sto) (a0 : Nat) : Option (Lay × Sto) := (if (12 : Int32) = nI 12 then (al L σ 20 12 12).bind fun q60 => (putR q60.2.2 a0 30 (some q60.1)).bind fun σ61 => (f_X12_init_176) q60.2.1 σ61 a0 else none)
def A_X12_init_168 (c : Lay → Sto → Nat → Option (Lay × Sto)) (lc : List (Option AV)) (st : List AV) (L : Lay) (σ : Sto) : Option (Lay × Sto) := match lc, st with
  | [some (.inr (.inr (.inl (ta0, some a0))))], [] => bif Nat.beq ta0 12 && true then c L σ a0 else none
  | _, _ => none
def f_X12_init_161 (L : Lay) (σ : Sto) (a0 : Nat) : Option (Lay × Sto) := (if (3 : Int32) = nI 3 then (al L σ 20 3 3).bind fun q62 => (putR q62.2.2 a0 28 (some q62.1)).bind fun σ63 => (f_X12_init_168) q62.2.1 σ63 a0 else none)
def A_X12_init_161 (c : Lay → Sto → Nat → Option (Lay × Sto)) (lc : List (Option AV)) (st : List AV) (L : Lay) (σ : Sto) : Option (Lay × Sto) := match lc, st with
  | [some (.inr (.inr (.inl (ta0, some a0))))], [] => bif Nat.beq ta0 12 && true then c L σ a0 else none
  | _, _ => none
def f_X12_init_153 (L : Lay) (σ : Sto) (a0 : Nat) : Option (Lay × Sto) := (if (108 : Int32) = nI 108 then (al L σ 20 108 108).bind fun q64 => (putR q64.2.2 a0 24 (some q64.1)).bind fun σ65 => (f_X12_init_161) q64.2.1 σ65 a0 else none)
def A_X12_init_153 (c : Lay → Sto → Nat → Option (Lay × Sto)) (lc : List (Option AV)) (st : List AV) (L : Lay) (σ : Sto) : Option (Lay × Sto) := match lc, st with
  | [some (.inr (.inr (.inl (ta0, some a0))))], [] => bif Nat.beq ta0 12 && true then c L σ a0 else none
  | _, _ => none
def f_X12_init_145 (L : Lay) (σ : Sto) (a0 : Nat) : Option (Lay × Sto) := (if (108 : Int32) = nI 108 then (al L σ 20 108 108).bind fun q66 => (putR q66.2.2 a0 23 (some q66.1)).bind fun σ67 => (f_X12_init_153) q66.2.1 σ67 a0 else none)
def A_X12_init_145 (c : Lay → Sto → Nat → Option (Lay × Sto)) (lc : List (Option AV)) (st : List AV) (L : Lay) (σ : Sto) : Option (Lay × Sto) := match lc, st with
  | [some (.inr (.inr (.inl (ta0, some a0))))], [] => bif Nat.beq ta0 12 && true then c L σ a0 else none
  | _, _ => none
def f_X12_init_136 (L : Lay) (σ : Sto) (a0 : Nat) : Option (Lay × Sto) := (if (480 : Int32) = nI 480 then (al L σ 20 480 480).bind fun q68 => (putR q68.2.2 a0 22 (some q68.1)).bind fun σ69 => (f_X12_init_145) q68.2.1 σ69 a0 else none)
def A_X12_init_136 (c : Lay → Sto → Nat → Option (Lay × Sto)) (lc : List (Option AV)) (st : List AV) (L : Lay) (σ : Sto) : Option (Lay × Sto) := match lc, st with
  | [some (.inr (.inr (.inl (ta0, some a0))))], [] => bif Nat.beq ta0 12 && true then c L σ a0 else none
  | _, _ => none
def f_X12_init_127 (L : Lay) (σ : Sto) (a0 : Nat) : Option (Lay × Sto) := (if (480 : Int32) = nI 480 then (al L σ 20 480 480).bind fun q70 => (putR q70.2.2 a0 21 (some q70.1)).bind fun σ71 => (f_X12_init_136) q70.2.1 σ71 a0 else none)
def A_X12_init_127 (c : Lay → Sto → Nat → Option (Lay × Sto)) (lc : List (Option AV)) (st : List AV) (L : Lay) (σ : Sto) : Option (Lay × Sto) := match lc, st with
  | [some (.inr (.inr (.inl (ta0, some a0))))], [] => bif Nat.beq ta0 12 && true then c L σ a0 else none
  | _, _ => none
def f_X12_init_118 (L : Lay) (σ : Sto) (a0 : Nat) : Option (Lay × Sto) := (if (480 : Int32) = nI 480 then (al L σ 20 480 480).bind fun q72 => (putR q72.2.2 a0 20 (some q72.1)).bind fun σ73 => (f_X12_init_127) q72.2.1 σ73 a0 else none)
def A_X12_init_118 (c : Lay → Sto → Nat → Option (Lay × Sto)) (lc : List (Option AV)) (st : List AV) (L : Lay) (σ : Sto) : Option (Lay × Sto) := match lc, st with
  | [some (.inr (.inr (.inl (ta0, some a0))))], [] => bif Nat.beq ta0 12 && true then c L σ a0 else none
  | _, _ => none
def f_X12_init_110 (L : Lay) (σ : Sto) (a0 : Nat) : Option (Lay × Sto) := (if (12 : Int32) = nI 12 then (al L σ 20 12 12).bind fun q74 => (putR q74.2.2 a0 19 (some q74.1)).bind fun σ75 => (f_X12_init_118) q74.2.1 σ75 a0 else none)
def A_X12_init_110 (c : Lay → Sto → Nat → Option (Lay × Sto)) (lc : List (Option AV)) (st : List AV) (L : Lay) (σ : Sto) : Option (Lay × Sto) := match lc, st with
  | [some (.inr (.inr (.inl (ta0, some a0))))], [] => bif Nat.beq ta0 12 && true then c L σ a0 else none
  | _, _ => none
def f_X12_init_102 (L : Lay) (σ : Sto) (a0 : Nat) : Option (Lay × Sto) := (if (12 : Int32) = nI 12 then (al L σ 20 12 12).bind fun q76 => (putR q76.2.2 a0 18 (some q76.1)).bind fun σ77 => (f_X12_init_110) q76.2.1 σ77 a0 else none)
def A_X12_init_102 (c : Lay → Sto → Nat → Option (Lay × Sto)) (lc : List (Option AV)) (st : List AV) (L : Lay) (σ : Sto) : Option (Lay × Sto) := match lc, st with
  | [some (.inr (.inr (.inl (ta0, some a0))))], [] => bif Nat.beq ta0 12 && true then c L σ a0 else none
  | _, _ => none
def f_X12_init_94 (L : Lay) (σ : Sto) (a0 : Nat) : Option (Lay × Sto) := (if (12 : Int32) = nI 12 then (al L σ 20 12 12).bind fun q78 => (putR q78.2.2 a0 17 (some q78.1)).bind fun σ79 => (f_X12_init_102) q78.2.1 σ79 a0 else none)
def A_X12_init_94 (c : Lay → Sto → Nat → Option (Lay × Sto)) (lc : List (Option AV)) (st : List AV) (L : Lay) (σ : Sto) : Option (Lay × Sto) := match lc, st with
  | [some (.inr (.inr (.inl (ta0, some a0))))], [] => bif Nat.beq ta0 12 && true then c L σ a0 else none
  | _, _ => none
def f_X12_init_86 (L : Lay) (σ : Sto) (a0 : Nat) : Option (Lay × Sto) := (if (40 : Int32) = nI 40 then (al L σ 20 40 40).bind fun q80 => (putR q80.2.2 a0 15 (some q80.1)).bind fun σ81 => (f_X12_init_94) q80.2.1 σ81 a0 else none)
def A_X12_init_86 (c : Lay → Sto → Nat → Option (Lay × Sto)) (lc : List (Option AV)) (st : List AV) (L : Lay) (σ : Sto) : Option (Lay × Sto) := match lc, st with
  | [some (.inr (.inr (.inl (ta0, some a0))))], [] => bif Nat.beq ta0 12 && true then c L σ a0 else none
  | _, _ => none
def f_X12_init_78 (L : Lay) (σ : Sto) (a0 : Nat) : Option (Lay × Sto) := (if (40 : Int32) = nI 40 then (al L σ 20 40 40).bind fun q82 => (putR q82.2.2 a0 14 (some q82.1)).bind fun σ83 => (f_X12_init_86) q82.2.1 σ83 a0 else none)
def A_X12_init_78 (c : Lay → Sto → Nat → Option (Lay × Sto)) (lc : List (Option AV)) (st : List AV) (L : Lay) (σ : Sto) : Option (Lay × Sto) := match lc, st with
  | [some (.inr (.inr (.inl (ta0, some a0))))], [] => bif Nat.beq ta0 12 && true then c L σ a0 else none
  | _, _ => none
def f_X12_init_69 (L : Lay) (σ : Sto) (a0 : Nat) : Option (Lay × Sto) := (if (280 : Int32) = nI 280 then (al L σ 20 280 280).bind fun q84 => (putR q84.2.2 a0 12 (some q84.1)).bind fun σ85 => (f_X12_init_78) q84.2.1 σ85 a0 else none)
def A_X12_init_69 (c : Lay → Sto → Nat → Option (Lay × Sto)) (lc : List (Option AV)) (st : List AV) (L : Lay) (σ : Sto) : Option (Lay × Sto) := match lc, st with
  | [some (.inr (.inr (.inl (ta0, some a0))))], [] => bif Nat.beq ta0 12 && true then c L σ a0 else none
  | _, _ => none
def f_X12_init_60 (L : Lay) (σ : Sto) (a0 : Nat) : Option (Lay × Sto) := (if (280 : Int32) = nI 280 then (al L σ 20 280 280).bind fun q86 => (putR q86.2.2 a0 11 (some q86.1)).bind fun σ87 => (f_X12_init_69) q86.2.1 σ87 a0 else none)
def A_X12_init_60 (c : Lay → Sto → Nat → Option (Lay × Sto)) (lc : List (Option AV)) (st : List AV) (L : Lay) (σ : Sto) : Option (Lay × Sto) := match lc, st with
  | [some (.inr (.inr (.inl (ta0, some a0))))], [] => bif Nat.beq ta0 12 && true then c L σ a0 else none
  | _, _ => none
def f_X12_init_52 (L : Lay) (σ : Sto) (a0 : Nat) : Option (Lay × Sto) := (if (40 : Int32) = nI 40 then (al L σ 20 40 40).bind fun q88 => (putR q88.2.2 a0 10 (some q88.1)).bind fun σ89 => (f_X12_init_60) q88.2.1 σ89 a0 else none)
def A_X12_init_52 (c : Lay → Sto → Nat → Option (Lay × Sto)) (lc : List (Option AV)) (st : List AV) (L : Lay) (σ : Sto) : Option (Lay × Sto) := match lc, st with
  | [some (.inr (.inr (.inl (ta0, some a0))))], [] => bif Nat.beq ta0 12 && true then c L σ a0 else none
  | _, _ => none
def f_X12_init_44 (L : Lay) (σ : Sto) (a0 : Nat) : Option (Lay × Sto) := (if (40 : Int32) = nI 40 then (al L σ 20 40 40).bind fun q90 => (putR q90.2.2 a0 9 (some q90.1)).bind fun σ91 => (f_X12_init_52) q90.2.1 σ91 a0 else none)
def A_X12_init_44 (c : Lay → Sto → Nat → Option (Lay × Sto)) (lc : List (Option AV)) (st : List AV) (L : Lay) (σ : Sto) : Option (Lay × Sto) := match lc, st with
  | [some (.inr (.inr (.inl (ta0, some a0))))], [] => bif Nat.beq ta0 12 && true then c L σ a0 else none
  | _, _ => none
def f_X12_init_36 (L : Lay) (σ : Sto) (a0 : Nat) : Option (Lay × Sto) := (if (40 : Int32) = nI 40 then (al L σ 20 40 40).bind fun q92 => (putR q92.2.2 a0 8 (some q92.1)).bind fun σ93 => (f_X12_init_44) q92.2.1 σ93 a0 else none)
def A_X12_init_36 (c : Lay → Sto → Nat → Option (Lay × Sto)) (lc : List (Option AV)) (st : List AV) (L : Lay) (σ : Sto) : Option (Lay × Sto) := match lc, st with
  | [some (.inr (.inr (.inl (ta0, some a0))))], [] => bif Nat.beq ta0 12 && true then c L σ a0 else none
  | _, _ => none
def f_X12_init_28 (L : Lay) (σ : Sto) (a0 : Nat) : Option (Lay × Sto) := (if (40 : Int32) = nI 40 then (al L σ 20 40 40).bind fun q94 => (putR q94.2.2 a0 7 (some q94.1)).bind fun σ95 => (f_X12_init_36) q94.2.1 σ95 a0 else none)
def A_X12_init_28 (c : Lay → Sto → Nat → Option (Lay × Sto)) (lc : List (Option AV)) (st : List AV) (L : Lay) (σ : Sto) : Option (Lay × Sto) := match lc, st with
  | [some (.inr (.inr (.inl (ta0, some a0))))], [] => bif Nat.beq ta0 12 && true then c L σ a0 else none
  | _, _ => none
def f_X12_init_20 (L : Lay) (σ : Sto) (a0 : Nat) : Option (Lay × Sto) := (if (40 : Int32) = nI 40 then (al L σ 20 40 40).bind fun q96 => (putR q96.2.2 a0 6 (some q96.1)).bind fun σ97 => (f_X12_init_28) q96.2.1 σ97 a0 else none)
def A_X12_init_20 (c : Lay → Sto → Nat → Option (Lay × Sto)) (lc : List (Option AV)) (st : List AV) (L : Lay) (σ : Sto) : Option (Lay × Sto) := match lc, st with
  | [some (.inr (.inr (.inl (ta0, some a0))))], [] => bif Nat.beq ta0 12 && true then c L σ a0 else none
  | _, _ => none
def f_X12_init_12 (L : Lay) (σ : Sto) (a0 : Nat) : Option (Lay × Sto) := (if (40 : Int32) = nI 40 then (al L σ 20 40 40).bind fun q98 => (putR q98.2.2 a0 5 (some q98.1)).bind fun σ99 => (f_X12_init_20) q98.2.1 σ99 a0 else none)
def A_X12_init_12 (c : Lay → Sto → Nat → Option (Lay × Sto)) (lc : List (Option AV)) (st : List AV) (L : Lay) (σ : Sto) : Option (Lay × Sto) := match lc, st with
  | [some (.inr (.inr (.inl (ta0, some a0))))], [] => bif Nat.beq ta0 12 && true then c L σ a0 else none
  | _, _ => none
def f_X12_init (L : Lay) (σ : Sto) (a0 : Nat) : Option (Lay × Sto) := (if (6 : Int32) = nI 6 then (al L σ 20 6 6).bind fun q100 => (putR q100.2.2 a0 3 (some q100.1)).bind fun σ101 => (f_X12_init_12) q100.2.1 σ101 a0 else none)
def ad_X12_init : ADT := fun O L σ as k => match as with
  | [.inr (.inr (.inl (ta0, some a0)))] => bif Nat.beq ta0 12 && true then (f_X12_init L σ a0).bind fun r => k none r.1 r.2 else none
  | _ => none
abbrev cl_X12_init {O : Type} : CLT O := cl0
theorem hc_X12_init (G : GT) (l : Launch) {d : Nat} (hd : 1 ≤ d) {O : Type} : HCL G l (false, false) d (cl_X12_init (O := O)) := hcl0
theorem rt_X12_init : retOK (6, 0) none := ⟨fun h => absurd h (by decide), fun h => absurd h (by decide), fun _ => rfl⟩
set_option maxRecDepth 20000 in
theorem b_X12_init_406 {G : GT} {l : Launch} {d : Nat} {L0 : Lay} {σ0 : Sto} (hd : 1 ≤ d) : HF G l 12 "<init>" cX12_init 1 none d L0 σ0 (false, false) dcAV 406 (A_X12_init_406 f_X12_init_406) := by
  intro lc st L σ o h hI
  unfold A_X12_init_406 at h
  split at h
  · obtain ⟨hq0, hA1⟩ := bif_s h
    obtain ⟨e0, hq1⟩ := beq_and hq0
    subst e0
    exact exs (sp := []) (K := k0) ok_X12_init rt_X12_init (by omega) (hc_X12_init G l hd) hrAV hk0 242 hA1 hI
  · cases h
set_option maxRecDepth 20000 in
theorem b_X12_init_399 {G : GT} {l : Launch} {d : Nat} {L0 : Lay} {σ0 : Sto} (hd : 1 ≤ d) : HF G l 12 "<init>" cX12_init 1 none d L0 σ0 (false, false) dcAV 399 (A_X12_init_399 f_X12_init_399) := by
  intro lc st L σ o h hI
  unfold A_X12_init_399 at h
  split at h
  · obtain ⟨hq0, hA1⟩ := bif_s h
    obtain ⟨e0, hq1⟩ := beq_and hq0
    subst e0
    exact exs (sp := [406]) (K := (kc 406 (A_X12_init_406 (f_X12_init_406)) k0)) ok_X12_init rt_X12_init (by omega) (hc_X12_init G l hd) hrAV (hkc (b_X12_init_406 hd) hk0) 242 hA1 hI
  · cases h
set_option maxRecDepth 20000 in
theorem b_X12_init_391 {G : GT} {l : Launch} {d : Nat} {L0 : Lay} {σ0 : Sto} (hd : 1 ≤ d) : HF G l 12 "<init>" cX12_init 1 none d L0 σ0 (false, false) dcAV 391 (A_X12_init_391 f_X12_init_391) := by
  intro lc st L σ o h hI
  unfold A_X12_init_391 at h
  split at h
  · obtain ⟨hq0, hA1⟩ := bif_s h
    obtain ⟨e0, hq1⟩ := beq_and hq0
    subst e0
    exact exs (sp := [399]) (K := (kc 399 (A_X12_init_399 (f_X12_init_399)) k0)) ok_X12_init rt_X12_init (by omega) (hc_X12_init G l hd) hrAV (hkc (b_X12_init_399 hd) hk0) 242 hA1 hI
  · cases h
set_option maxRecDepth 20000 in
theorem b_X12_init_383 {G : GT} {l : Launch} {d : Nat} {L0 : Lay} {σ0 : Sto} (hd : 1 ≤ d) : HF G l 12 "<init>" cX12_init 1 none d L0 σ0 (false, false) dcAV 383 (A_X12_init_383 f_X12_init_383) := by
  intro lc st L σ o h hI
  unfold A_X12_init_383 at h
  split at h
  · obtain ⟨hq0, hA1⟩ := bif_s h
    obtain ⟨e0, hq1⟩ := beq_and hq0
    subst e0
    exact exs (sp := [391]) (K := (kc 391 (A_X12_init_391 (f_X12_init_391)) k0)) ok_X12_init rt_X12_init (by omega) (hc_X12_init G l hd) hrAV (hkc (b_X12_init_391 hd) hk0) 242 hA1 hI
  · cases h
set_option maxRecDepth 20000 in
theorem b_X12_init_375 {G : GT} {l : Launch} {d : Nat} {L0 : Lay} {σ0 : Sto} (hd : 1 ≤ d) : HF G l 12 "<init>" cX12_init 1 none d L0 σ0 (false, false) dcAV 375 (A_X12_init_375 f_X12_init_375) := by
  intro lc st L σ o h hI
  unfold A_X12_init_375 at h
  split at h
  · obtain ⟨hq0, hA1⟩ := bif_s h
    obtain ⟨e0, hq1⟩ := beq_and hq0
    subst e0
    exact exs (sp := [383]) (K := (kc 383 (A_X12_init_383 (f_X12_init_383)) k0)) ok_X12_init rt_X12_init (by omega) (hc_X12_init G l hd) hrAV (hkc (b_X12_init_383 hd) hk0) 242 hA1 hI
  · cases h
set_option maxRecDepth 20000 in
theorem b_X12_init_367 {G : GT} {l : Launch} {d : Nat} {L0 : Lay} {σ0 : Sto} (hd : 1 ≤ d) : HF G l 12 "<init>" cX12_init 1 none d L0 σ0 (false, false) dcAV 367 (A_X12_init_367 f_X12_init_367) := by
  intro lc st L σ o h hI
  unfold A_X12_init_367 at h
  split at h
  · obtain ⟨hq0, hA1⟩ := bif_s h
    obtain ⟨e0, hq1⟩ := beq_and hq0
    subst e0
    exact exs (sp := [375]) (K := (kc 375 (A_X12_init_375 (f_X12_init_375)) k0)) ok_X12_init rt_X12_init (by omega) (hc_X12_init G l hd) hrAV (hkc (b_X12_init_375 hd) hk0) 242 hA1 hI
  · cases h
set_option maxRecDepth 20000 in
theorem b_X12_init_359 {G : GT} {l : Launch} {d : Nat} {L0 : Lay} {σ0 : Sto} (hd : 1 ≤ d) : HF G l 12 "<init>" cX12_init 1 none d L0 σ0 (false, false) dcAV 359 (A_X12_init_359 f_X12_init_359) := by
  intro lc st L σ o h hI
  unfold A_X12_init_359 at h
  split at h
  · obtain ⟨hq0, hA1⟩ := bif_s h
    obtain ⟨e0, hq1⟩ := beq_and hq0
    subst e0
    exact exs (sp := [367]) (K := (kc 367 (A_X12_init_367 (f_X12_init_367)) k0)) ok_X12_init rt_X12_init (by omega) (hc_X12_init G l hd) hrAV (hkc (b_X12_init_367 hd) hk0) 242 hA1 hI
  · cases h
set_option maxRecDepth 20000 in
theorem b_X12_init_351 {G : GT} {l : Launch} {d : Nat} {L0 : Lay} {σ0 : Sto} (hd : 1 ≤ d) : HF G l 12 "<init>" cX12_init 1 none d L0 σ0 (false, false) dcAV 351 (A_X12_init_351 f_X12_init_351) := by
  intro lc st L σ o h hI
  unfold A_X12_init_351 at h
  split at h
  · obtain ⟨hq0, hA1⟩ := bif_s h
    obtain ⟨e0, hq1⟩ := beq_and hq0
    subst e0
    exact exs (sp := [359]) (K := (kc 359 (A_X12_init_359 (f_X12_init_359)) k0)) ok_X12_init rt_X12_init (by omega) (hc_X12_init G l hd) hrAV (hkc (b_X12_init_359 hd) hk0) 242 hA1 hI
  · cases h
set_option maxRecDepth 20000 in
theorem b_X12_init_343 {G : GT} {l : Launch} {d : Nat} {L0 : Lay} {σ0 : Sto} (hd : 1 ≤ d) : HF G l 12 "<init>" cX12_init 1 none d L0 σ0 (false, false) dcAV 343 (A_X12_init_343 f_X12_init_343) := by
  intro lc st L σ o h hI
  unfold A_X12_init_343 at h
  split at h
  · obtain ⟨hq0, hA1⟩ := bif_s h
    obtain ⟨e0, hq1⟩ := beq_and hq0
    subst e0
    exact exs (sp := [351]) (K := (kc 351 (A_X12_init_351 (f_X12_init_351)) k0)) ok_X12_init rt_X12_init (by omega) (hc_X12_init G l hd) hrAV (hkc (b_X12_init_351 hd) hk0) 242 hA1 hI
  · cases h
set_option maxRecDepth 20000 in
theorem b_X12_init_335 {G : GT} {l : Launch} {d : Nat} {L0 : Lay} {σ0 : Sto} (hd : 1 ≤ d) : HF G l 12 "<init>" cX12_init 1 none d L0 σ0 (false, false) dcAV 335 (A_X12_init_335 f_X12_init_335) := by
  intro lc st L σ o h hI
  unfold A_X12_init_335 at h
  split at h
  · obtain ⟨hq0, hA1⟩ := bif_s h
    obtain ⟨e0, hq1⟩ := beq_and hq0
    subst e0
    exact exs (sp := [343]) (K := (kc 343 (A_X12_init_343 (f_X12_init_343)) k0)) ok_X12_init rt_X12_init (by omega) (hc_X12_init G l hd) hrAV (hkc (b_X12_init_343 hd) hk0) 242 hA1 hI
  · cases h
set_option maxRecDepth 20000 in
theorem b_X12_init_327 {G : GT} {l : Launch} {d : Nat} {L0 : Lay} {σ0 : Sto} (hd : 1 ≤ d) : HF G l 12 "<init>" cX12_init 1 none d L0 σ0 (false, false) dcAV 327 (A_X12_init_327 f_X12_init_327) := by
  intro lc st L σ o h hI
  unfold A_X12_init_327 at h
  split at h
  · obtain ⟨hq0, hA1⟩ := bif_s h
    obtain ⟨e0, hq1⟩ := beq_and hq0
    subst e0
    exact exs (sp := [335]) (K := (kc 335 (A_X12_init_335 (f_X12_init_335)) k0)) ok_X12_init rt_X12_init (by omega) (hc_X12_init G l hd) hrAV (hkc (b_X12_init_335 hd) hk0) 242 hA1 hI
  · cases h
set_option maxRecDepth 20000 in
theorem b_X12_init_312 {G : GT} {l : Launch} {d : Nat} {L0 : Lay} {σ0 : Sto} (hd : 1 ≤ d) : HF G l 12 "<init>" cX12_init 1 none d L0 σ0 (false, false) dcAV 312 (A_X12_init_312 f_X12_init_312) := by
  intro lc st L σ o h hI
  unfold A_X12_init_312 at h
  split at h
  · obtain ⟨hq0, hA1⟩ := bif_s h
    obtain ⟨e0, hq1⟩ := beq_and hq0
    subst e0
    exact exs (sp := [327]) (K := (kc 327 (A_X12_init_327 (f_X12_init_327)) k0)) ok_X12_init rt_X12_init (by omega) (hc_X12_init G l hd) hrAV (hkc (b_X12_init_327 hd) hk0) 242 hA1 hI
  · cases h
set_option maxRecDepth 20000 in
theorem b_X12_init_304 {G : GT} {l : Launch} {d : Nat} {L0 : Lay} {σ0 : Sto} (hd : 1 ≤ d) : HF G l 12 "<init>" cX12_init 1 none d L0 σ0 (false, false) dcAV 304 (A_X12_init_304 f_X12_init_304) := by
  intro lc st L σ o h hI
  unfold A_X12_init_304 at h
  split at h
  · obtain ⟨hq0, hA1⟩ := bif_s h
    obtain ⟨e0, hq1⟩ := beq_and hq0
    subst e0
    exact exs (sp := [312]) (K := (kc 312 (A_X12_init_312 (f_X12_init_312)) k0)) ok_X12_init rt_X12_init (by omega) (hc_X12_init G l hd) hrAV (hkc (b_X12_init_312 hd) hk0) 242 hA1 hI
  · cases h
set_option maxRecDepth 20000 in
theorem b_X12_init_271 {G : GT} {l : Launch} {d : Nat} {L0 : Lay} {σ0 : Sto} (hd : 1 ≤ d) : HF G l 12 "<init>" cX12_init 1 none d L0 σ0 (false, false) dcAV 271 (A_X12_init_271 f_X12_init_271) := by
  intro lc st L σ o h hI
  unfold A_X12_init_271 at h
  split at h
  · obtain ⟨hq0, hA1⟩ := bif_s h
    obtain ⟨e0, hq1⟩ := beq_and hq0
    subst e0
    exact exs (sp := [304]) (K := (kc 304 (A_X12_init_304 (f_X12_init_304)) k0)) ok_X12_init rt_X12_init (by omega) (hc_X12_init G l hd) hrAV (hkc (b_X12_init_304 hd) hk0) 242 hA1 hI
  · cases h
set_option maxRecDepth 20000 in
theorem b_X12_init_244 {G : GT} {l : Launch} {d : Nat} {L0 : Lay} {σ0 : Sto} (hd : 1 ≤ d) : HF G l 12 "<init>" cX12_init 1 none d L0 σ0 (false, false) dcAV 244 (A_X12_init_244 f_X12_init_244) := by
  intro lc st L σ o h hI
  unfold A_X12_init_244 at h
  split at h
  · obtain ⟨hq0, hA1⟩ := bif_s h
    obtain ⟨e0, hq1⟩ := beq_and hq0
    subst e0
    exact exs (sp := [271]) (K := (kc 271 (A_X12_init_271 (f_X12_init_271)) k0)) ok_X12_init rt_X12_init (by omega) (hc_X12_init G l hd) hrAV (hkc (b_X12_init_271 hd) hk0) 242 hA1 hI
  · cases h
set_option maxRecDepth 20000 in
theorem b_X12_init_216 {G : GT} {l : Launch} {d : Nat} {L0 : Lay} {σ0 : Sto} (hd : 1 ≤ d) : HF G l 12 "<init>" cX12_init 1 none d L0 σ0 (false, false) dcAV 216 (A_X12_init_216 f_X12_init_216) := by
  intro lc st L σ o h hI
  unfold A_X12_init_216 at h
  split at h
  · obtain ⟨hq0, hA1⟩ := bif_s h
    obtain ⟨e0, hq1⟩ := beq_and hq0
    subst e0
    exact exs (sp := [244]) (K := (kc 244 (A_X12_init_244 (f_X12_init_244)) k0)) ok_X12_init rt_X12_init (by omega) (hc_X12_init G l hd) hrAV (hkc (b_X12_init_244 hd) hk0) 242 hA1 hI
  · cases h
set_option maxRecDepth 20000 in
theorem b_X12_init_208 {G : GT} {l : Launch} {d : Nat} {L0 : Lay} {σ0 : Sto} (hd : 1 ≤ d) : HF G l 12 "<init>" cX12_init 1 none d L0 σ0 (false, false) dcAV 208 (A_X12_init_208 f_X12_init_208) := by
  intro lc st L σ o h hI
  unfold A_X12_init_208 at h
  split at h
  · obtain ⟨hq0, hA1⟩ := bif_s h
    obtain ⟨e0, hq1⟩ := beq_and hq0
    subst e0
    exact exs (sp := [216]) (K := (kc 216 (A_X12_init_216 (f_X12_init_216)) k0)) ok_X12_init rt_X12_init (by omega) (hc_X12_init G l hd) hrAV (hkc (b_X12_init_216 hd) hk0) 242 hA1 hI
  · cases h
set_option maxRecDepth 20000 in
theorem b_X12_init_200 {G : GT} {l : Launch} {d : Nat} {L0 : Lay} {σ0 : Sto} (hd : 1 ≤ d) : HF G l 12 "<init>" cX12_init 1 none d L0 σ0 (false, false) dcAV 200 (A_X12_init_200 f_X12_init_200) := by
  intro lc st L σ o h hI
  unfold A_X12_init_200 at h
  split at h
  · obtain ⟨hq0, hA1⟩ := bif_s h
    obtain ⟨e0, hq1⟩ := beq_and hq0
    subst e0
    exact exs (sp := [208]) (K := (kc 208 (A_X12_init_208 (f_X12_init_208)) k0)) ok_X12_init rt_X12_init (by omega) (hc_X12_init G l hd) hrAV (hkc (b_X12_init_208 hd) hk0) 242 hA1 hI
  · cases h
set_option maxRecDepth 20000 in
theorem b_X12_init_192 {G : GT} {l : Launch} {d : Nat} {L0 : Lay} {σ0 : Sto} (hd : 1 ≤ d) : HF G l 12 "<init>" cX12_init 1 none d L0 σ0 (false, false) dcAV 192 (A_X12_init_192 f_X12_init_192) := by
  intro lc st L σ o h hI
  unfold A_X12_init_192 at h
  split at h
  · obtain ⟨hq0, hA1⟩ := bif_s h
    obtain ⟨e0, hq1⟩ := beq_and hq0
    subst e0
    exact exs (sp := [200]) (K := (kc 200 (A_X12_init_200 (f_X12_init_200)) k0)) ok_X12_init rt_X12_init (by omega) (hc_X12_init G l hd) hrAV (hkc (b_X12_init_200 hd) hk0) 242 hA1 hI
  · cases h
set_option maxRecDepth 20000 in
theorem b_X12_init_184 {G : GT} {l : Launch} {d : Nat} {L0 : Lay} {σ0 : Sto} (hd : 1 ≤ d) : HF G l 12 "<init>" cX12_init 1 none d L0 σ0 (false, false) dcAV 184 (A_X12_init_184 f_X12_init_184) := by
  intro lc st L σ o h hI
  unfold A_X12_init_184 at h
  split at h
  · obtain ⟨hq0, hA1⟩ := bif_s h
    obtain ⟨e0, hq1⟩ := beq_and hq0
    subst e0
    exact exs (sp := [192]) (K := (kc 192 (A_X12_init_192 (f_X12_init_192)) k0)) ok_X12_init rt_X12_init (by omega) (hc_X12_init G l hd) hrAV (hkc (b_X12_init_192 hd) hk0) 242 hA1 hI
  · cases h
set_option maxRecDepth 20000 in
theorem b_X12_init_176 {G : GT} {l : Launch} {d : Nat} {L0 : Lay} {σ0 : Sto} (hd : 1 ≤ d) : HF G l 12 "<init>" cX12_init 1 none d L0 σ0 (false, false) dcAV 176 (A_X12_init_176 f_X12_init_176) := by
  intro lc st L σ o h hI
  unfold A_X12_init_176 at h
  split at h
  · obtain ⟨hq0, hA1⟩ := bif_s h
    obtain ⟨e0, hq1⟩ := beq_and hq0
    subst e0
    exact exs (sp := [184]) (K := (kc 184 (A_X12_init_184 (f_X12_init_184)) k0)) ok_X12_init rt_X12_init (by omega) (hc_X12_init G l hd) hrAV (hkc (b_X12_init_184 hd) hk0) 242 hA1 hI
  · cases h
set_option maxRecDepth 20000 in
theorem b_X12_init_168 {G : GT} {l : Launch} {d : Nat} {L0 : Lay} {σ0 : Sto} (hd : 1 ≤ d) : HF G l 12 "<init>" cX12_init 1 none d L0 σ0 (false, false) dcAV 168 (A_X12_init_168 f_X12_init_168) := by
  intro lc st L σ o h hI
  unfold A_X12_init_168 at h
  split at h
  · obtain ⟨hq0, hA1⟩ := bif_s h
    obtain ⟨e0, hq1⟩ := beq_and hq0
    subst e0
    exact exs (sp := [176]) (K := (kc 176 (A_X12_init_176 (f_X12_init_176)) k0)) ok_X12_init rt_X12_init (by omega) (hc_X12_init G l hd) hrAV (hkc (b_X12_init_176 hd) hk0) 242 hA1 hI
  · cases h
set_option maxRecDepth 20000 in
theorem b_X12_init_161 {G : GT} {l : Launch} {d : Nat} {L0 : Lay} {σ0 : Sto} (hd : 1 ≤ d) : HF G l 12 "<init>" cX12_init 1 none d L0 σ0 (false, false) dcAV 161 (A_X12_init_161 f_X12_init_161) := by
  intro lc st L σ o h hI
  unfold A_X12_init_161 at h
  split at h
  · obtain ⟨hq0, hA1⟩ := bif_s h
    obtain ⟨e0, hq1⟩ := beq_and hq0
    subst e0
    exact exs (sp := [168]) (K := (kc 168 (A_X12_init_168 (f_X12_init_168)) k0)) ok_X12_init rt_X12_init (by omega) (hc_X12_init G l hd) hrAV (hkc (b_X12_init_168 hd) hk0) 242 hA1 hI
  · cases h
set_option maxRecDepth 20000 in
theorem b_X12_init_153 {G : GT} {l : Launch} {d : Nat} {L0 : Lay} {σ0 : Sto} (hd : 1 ≤ d) : HF G l 12 "<init>" cX12_init 1 none d L0 σ0 (false, false) dcAV 153 (A_X12_init_153 f_X12_init_153) := by
  intro lc st L σ o h hI
  unfold A_X12_init_153 at h
  split at h
  · obtain ⟨hq0, hA1⟩ := bif_s h
    obtain ⟨e0, hq1⟩ := beq_and hq0
    subst e0
    exact exs (sp := [161]) (K := (kc 161 (A_X12_init_161 (f_X12_init_161)) k0)) ok_X12_init rt_X12_init (by omega) (hc_X12_init G l hd) hrAV (hkc (b_X12_init_161 hd) hk0) 242 hA1 hI
  · cases h
set_option maxRecDepth 20000 in
theorem b_X12_init_145 {G : GT} {l : Launch} {d : Nat} {L0 : Lay} {σ0 : Sto} (hd : 1 ≤ d) : HF G l 12 "<init>" cX12_init 1 none d L0 σ0 (false, false) dcAV 145 (A_X12_init_145 f_X12_init_145) := by
  intro lc st L σ o h hI
  unfold A_X12_init_145 at h
  split at h
  · obtain ⟨hq0, hA1⟩ := bif_s h
    obtain ⟨e0, hq1⟩ := beq_and hq0
    subst e0
    exact exs (sp := [153]) (K := (kc 153 (A_X12_init_153 (f_X12_init_153)) k0)) ok_X12_init rt_X12_init (by omega) (hc_X12_init G l hd) hrAV (hkc (b_X12_init_153 hd) hk0) 242 hA1 hI
  · cases h
set_option maxRecDepth 20000 in
theorem b_X12_init_136 {G : GT} {l : Launch} {d : Nat} {L0 : Lay} {σ0 : Sto} (hd : 1 ≤ d) : HF G l 12 "<init>" cX12_init 1 none d L0 σ0 (false, false) dcAV 136 (A_X12_init_136 f_X12_init_136) := by
  intro lc st L σ o h hI
  unfold A_X12_init_136 at h
  split at h
  · obtain ⟨hq0, hA1⟩ := bif_s h
    obtain ⟨e0, hq1⟩ := beq_and hq0
    subst e0
    exact exs (sp := [145]) (K := (kc 145 (A_X12_init_145 (f_X12_init_145)) k0)) ok_X12_init rt_X12_init (by omega) (hc_X12_init G l hd) hrAV (hkc (b_X12_init_145 hd) hk0) 242 hA1 hI
  · cases h
set_option maxRecDepth 20000 in
theorem b_X12_init_127 {G : GT} {l : Launch} {d : Nat} {L0 : Lay} {σ0 : Sto} (hd : 1 ≤ d) : HF G l 12 "<init>" cX12_init 1 none d L0 σ0 (false, false) dcAV 127 (A_X12_init_127 f_X12_init_127) := by
  intro lc st L σ o h hI
  unfold A_X12_init_127 at h
  split at h
  · obtain ⟨hq0, hA1⟩ := bif_s h
    obtain ⟨e0, hq1⟩ := beq_and hq0
    subst e0
    exact exs (sp := [136]) (K := (kc 136 (A_X12_init_136 (f_X12_init_136)) k0)) ok_X12_init rt_X12_init (by omega) (hc_X12_init G l hd) hrAV (hkc (b_X12_init_136 hd) hk0) 242 hA1 hI
  · cases h
set_option maxRecDepth 20000 in
theorem b_X12_init_118 {G : GT} {l : Launch} {d : Nat} {L0 : Lay} {σ0 : Sto} (hd : 1 ≤ d) : HF G l 12 "<init>" cX12_init 1 none d L0 σ0 (false, false) dcAV 118 (A_X12_init_118 f_X12_init_118) := by
  intro lc st L σ o h hI
  unfold A_X12_init_118 at h
  split at h
  · obtain ⟨hq0, hA1⟩ := bif_s h
    obtain ⟨e0, hq1⟩ := beq_and hq0
    subst e0
    exact exs (sp := [127]) (K := (kc 127 (A_X12_init_127 (f_X12_init_127)) k0)) ok_X12_init rt_X12_init (by omega) (hc_X12_init G l hd) hrAV (hkc (b_X12_init_127 hd) hk0) 242 hA1 hI
  · cases h
set_option maxRecDepth 20000 in
theorem b_X12_init_110 {G : GT} {l : Launch} {d : Nat} {L0 : Lay} {σ0 : Sto} (hd : 1 ≤ d) : HF G l 12 "<init>" cX12_init 1 none d L0 σ0 (false, false) dcAV 110 (A_X12_init_110 f_X12_init_110) := by
  intro lc st L σ o h hI
  unfold A_X12_init_110 at h
  split at h
  · obtain ⟨hq0, hA1⟩ := bif_s h
    obtain ⟨e0, hq1⟩ := beq_and hq0
    subst e0
    exact exs (sp := [118]) (K := (kc 118 (A_X12_init_118 (f_X12_init_118)) k0)) ok_X12_init rt_X12_init (by omega) (hc_X12_init G l hd) hrAV (hkc (b_X12_init_118 hd) hk0) 242 hA1 hI
  · cases h
set_option maxRecDepth 20000 in
theorem b_X12_init_102 {G : GT} {l : Launch} {d : Nat} {L0 : Lay} {σ0 : Sto} (hd : 1 ≤ d) : HF G l 12 "<init>" cX12_init 1 none d L0 σ0 (false, false) dcAV 102 (A_X12_init_102 f_X12_init_102) := by
  intro lc st L σ o h hI
  unfold A_X12_init_102 at h
  split at h
  · obtain ⟨hq0, hA1⟩ := bif_s h
    obtain ⟨e0, hq1⟩ := beq_and hq0
    subst e0
    exact exs (sp := [110]) (K := (kc 110 (A_X12_init_110 (f_X12_init_110)) k0)) ok_X12_init rt_X12_init (by omega) (hc_X12_init G l hd) hrAV (hkc (b_X12_init_110 hd) hk0) 242 hA1 hI
  · cases h
set_option maxRecDepth 20000 in
theorem b_X12_init_94 {G : GT} {l : Launch} {d : Nat} {L0 : Lay} {σ0 : Sto} (hd : 1 ≤ d) : HF G l 12 "<init>" cX12_init 1 none d L0 σ0 (false, false) dcAV 94 (A_X12_init_94 f_X12_init_94) := by
  intro lc st L σ o h hI
  unfold A_X12_init_94 at h
  split at h
  · obtain ⟨hq0, hA1⟩ := bif_s h
    obtain ⟨e0, hq1⟩ := beq_and hq0
    subst e0
    exact exs (sp := [102]) (K := (kc 102 (A_X12_init_102 (f_X12_init_102)) k0)) ok_X12_init rt_X12_init (by omega) (hc_X12_init G l hd) hrAV (hkc (b_X12_init_102 hd) hk0) 242 hA1 hI
  · cases h
set_option maxRecDepth 20000 in
theorem b_X12_init_86 {G : GT} {l : Launch} {d : Nat} {L0 : Lay} {σ0 : Sto} (hd : 1 ≤ d) : HF G l 12 "<init>" cX12_init 1 none d L0 σ0 (false, false) dcAV 86 (A_X12_init_86 f_X12_init_86) := by
  intro lc st L σ o h hI
  unfold A_X12_init_86 at h
  split at h
  · obtain ⟨hq0, hA1⟩ := bif_s h
    obtain ⟨e0, hq1⟩ := beq_and hq0
    subst e0
    exact exs (sp := [94]) (K := (kc 94 (A_X12_init_94 (f_X12_init_94)) k0)) ok_X12_init rt_X12_init (by omega) (hc_X12_init G l hd) hrAV (hkc (b_X12_init_94 hd) hk0) 242 hA1 hI
  · cases h
set_option maxRecDepth 20000 in
theorem b_X12_init_78 {G : GT} {l : Launch} {d : Nat} {L0 : Lay} {σ0 : Sto} (hd : 1 ≤ d) : HF G l 12 "<init>" cX12_init 1 none d L0 σ0 (false, false) dcAV 78 (A_X12_init_78 f_X12_init_78) := by
  intro lc st L σ o h hI
  unfold A_X12_init_78 at h
  split at h
  · obtain ⟨hq0, hA1⟩ := bif_s h
    obtain ⟨e0, hq1⟩ := beq_and hq0
    subst e0
    exact exs (sp := [86]) (K := (kc 86 (A_X12_init_86 (f_X12_init_86)) k0)) ok_X12_init rt_X12_init (by omega) (hc_X12_init G l hd) hrAV (hkc (b_X12_init_86 hd) hk0) 242 hA1 hI
  · cases h
set_option maxRecDepth 20000 in
theorem b_X12_init_69 {G : GT} {l : Launch} {d : Nat} {L0 : Lay} {σ0 : Sto} (hd : 1 ≤ d) : HF G l 12 "<init>" cX12_init 1 none d L0 σ0 (false, false) dcAV 69 (A_X12_init_69 f_X12_init_69) := by
  intro lc st L σ o h hI
  unfold A_X12_init_69 at h
  split at h
  · obtain ⟨hq0, hA1⟩ := bif_s h
    obtain ⟨e0, hq1⟩ := beq_and hq0
    subst e0
    exact exs (sp := [78]) (K := (kc 78 (A_X12_init_78 (f_X12_init_78)) k0)) ok_X12_init rt_X12_init (by omega) (hc_X12_init G l hd) hrAV (hkc (b_X12_init_78 hd) hk0) 242 hA1 hI
  · cases h
set_option maxRecDepth 20000 in
theorem b_X12_init_60 {G : GT} {l : Launch} {d : Nat} {L0 : Lay} {σ0 : Sto} (hd : 1 ≤ d) : HF G l 12 "<init>" cX12_init 1 none d L0 σ0 (false, false) dcAV 60 (A_X12_init_60 f_X12_init_60) := by
  intro lc st L σ o h hI
  unfold A_X12_init_60 at h
  split at h
  · obtain ⟨hq0, hA1⟩ := bif_s h
    obtain ⟨e0, hq1⟩ := beq_and hq0
    subst e0
    exact exs (sp := [69]) (K := (kc 69 (A_X12_init_69 (f_X12_init_69)) k0)) ok_X12_init rt_X12_init (by omega) (hc_X12_init G l hd) hrAV (hkc (b_X12_init_69 hd) hk0) 242 hA1 hI
  · cases h
set_option maxRecDepth 20000 in
theorem b_X12_init_52 {G : GT} {l : Launch} {d : Nat} {L0 : Lay} {σ0 : Sto} (hd : 1 ≤ d) : HF G l 12 "<init>" cX12_init 1 none d L0 σ0 (false, false) dcAV 52 (A_X12_init_52 f_X12_init_52) := by
  intro lc st L σ o h hI
  unfold A_X12_init_52 at h
  split at h
  · obtain ⟨hq0, hA1⟩ := bif_s h
    obtain ⟨e0, hq1⟩ := beq_and hq0
    subst e0
    exact exs (sp := [60]) (K := (kc 60 (A_X12_init_60 (f_X12_init_60)) k0)) ok_X12_init rt_X12_init (by omega) (hc_X12_init G l hd) hrAV (hkc (b_X12_init_60 hd) hk0) 242 hA1 hI
  · cases h
set_option maxRecDepth 20000 in
theorem b_X12_init_44 {G : GT} {l : Launch} {d : Nat} {L0 : Lay} {σ0 : Sto} (hd : 1 ≤ d) : HF G l 12 "<init>" cX12_init 1 none d L0 σ0 (false, false) dcAV 44 (A_X12_init_44 f_X12_init_44) := by
  intro lc st L σ o h hI
  unfold A_X12_init_44 at h
  split at h
  · obtain ⟨hq0, hA1⟩ := bif_s h
    obtain ⟨e0, hq1⟩ := beq_and hq0
    subst e0
    exact exs (sp := [52]) (K := (kc 52 (A_X12_init_52 (f_X12_init_52)) k0)) ok_X12_init rt_X12_init (by omega) (hc_X12_init G l hd) hrAV (hkc (b_X12_init_52 hd) hk0) 242 hA1 hI
  · cases h
set_option maxRecDepth 20000 in
theorem b_X12_init_36 {G : GT} {l : Launch} {d : Nat} {L0 : Lay} {σ0 : Sto} (hd : 1 ≤ d) : HF G l 12 "<init>" cX12_init 1 none d L0 σ0 (false, false) dcAV 36 (A_X12_init_36 f_X12_init_36) := by
  intro lc st L σ o h hI
  unfold A_X12_init_36 at h
  split at h
  · obtain ⟨hq0, hA1⟩ := bif_s h
    obtain ⟨e0, hq1⟩ := beq_and hq0
    subst e0
    exact exs (sp := [44]) (K := (kc 44 (A_X12_init_44 (f_X12_init_44)) k0)) ok_X12_init rt_X12_init (by omega) (hc_X12_init G l hd) hrAV (hkc (b_X12_init_44 hd) hk0) 242 hA1 hI
  · cases h
set_option maxRecDepth 20000 in
theorem b_X12_init_28 {G : GT} {l : Launch} {d : Nat} {L0 : Lay} {σ0 : Sto} (hd : 1 ≤ d) : HF G l 12 "<init>" cX12_init 1 none d L0 σ0 (false, false) dcAV 28 (A_X12_init_28 f_X12_init_28) := by
  intro lc st L σ o h hI
  unfold A_X12_init_28 at h
  split at h
  · obtain ⟨hq0, hA1⟩ := bif_s h
    obtain ⟨e0, hq1⟩ := beq_and hq0
    subst e0
    exact exs (sp := [36]) (K := (kc 36 (A_X12_init_36 (f_X12_init_36)) k0)) ok_X12_init rt_X12_init (by omega) (hc_X12_init G l hd) hrAV (hkc (b_X12_init_36 hd) hk0) 242 hA1 hI
  · cases h
set_option maxRecDepth 20000 in
theorem b_X12_init_20 {G : GT} {l : Launch} {d : Nat} {L0 : Lay} {σ0 : Sto} (hd : 1 ≤ d) : HF G l 12 "<init>" cX12_init 1 none d L0 σ0 (false, false) dcAV 20 (A_X12_init_20 f_X12_init_20) := by
  intro lc st L σ o h hI
  unfold A_X12_init_20 at h
  split at h
  · obtain ⟨hq0, hA1⟩ := bif_s h
    obtain ⟨e0, hq1⟩ := beq_and hq0
    subst e0
    exact exs (sp := [28]) (K := (kc 28 (A_X12_init_28 (f_X12_init_28)) k0)) ok_X12_init rt_X12_init (by omega) (hc_X12_init G l hd) hrAV (hkc (b_X12_init_28 hd) hk0) 242 hA1 hI
  · cases h
set_option maxRecDepth 20000 in
theorem b_X12_init_12 {G : GT} {l : Launch} {d : Nat} {L0 : Lay} {σ0 : Sto} (hd : 1 ≤ d) : HF G l 12 "<init>" cX12_init 1 none d L0 σ0 (false, false) dcAV 12 (A_X12_init_12 f_X12_init_12) := by
  intro lc st L σ o h hI
  unfold A_X12_init_12 at h
  split at h
  · obtain ⟨hq0, hA1⟩ := bif_s h
    obtain ⟨e0, hq1⟩ := beq_and hq0
    subst e0
    exact exs (sp := [20]) (K := (kc 20 (A_X12_init_20 (f_X12_init_20)) k0)) ok_X12_init rt_X12_init (by omega) (hc_X12_init G l hd) hrAV (hkc (b_X12_init_20 hd) hk0) 242 hA1 hI
  · cases h
set_option maxRecDepth 20000 in
theorem ca_X12_init (G : GT) (l : Launch) {d : Nat} (hd : 1 ≤ d) : CA G l 148 (false, false) d ad_X12_init := by
  intro O L σ as k o h hW hok
  unfold ad_X12_init at h
  split at h
  · obtain ⟨hq0, hA0⟩ := bif_s h
    obtain ⟨e0, hq1⟩ := beq_and hq0
    subst e0
    obtain ⟨r, hr, hk⟩ := Option.bind_eq_some_iff.mp hA0
    exact ca_of (q := dcAV r) (by decide) rfl (Nat.le_of_ble_eq_true rfl) hk (fun e => by cases e) (fun e => by cases e) (exs (sp := [12]) (K := (kc 12 (A_X12_init_12 (f_X12_init_12)) k0)) (L0 := L) (σ0 := σ) ok_X12_init rt_X12_init (by omega) (hc_X12_init G l hd) hrAV (hkc (b_X12_init_12 hd) hk0) 242 hr (inv0 hW hok))
  · cases h
