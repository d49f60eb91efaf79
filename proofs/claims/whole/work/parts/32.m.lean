def tt_X12_isMember (pc : Nat) : TI := bif Nat.blt pc 6 then (bif Nat.blt pc 2 then (bif Nat.blt pc 1 then (bif Nat.beq pc 0 then (.iload_n 1, 1, (1, 0, 0), 0, 0, []) else TN) else (bif Nat.beq pc 1 then (.iconst 0, 2, (0, 0, 0), 0, 0, []) else TN)) else (bif Nat.blt pc 3 then (bif Nat.beq pc 2 then (.aload_n 0, 3, (0, 0, 0), 0, 0, []) else TN) else (bif Nat.beq pc 3 then (.getfield 150, 6, (12, 4, 0), 0, 0, []) else TN))) else (bif Nat.blt pc 8 then (bif Nat.blt pc 7 then (bif Nat.beq pc 6 then (.iconst 1, 7, (0, 0, 0), 1, 0, []) else TN) else (bif Nat.beq pc 7 then (.isub, 8, (0, 0, 0), 0, 0, []) else TN)) else (bif Nat.blt pc 11 then (bif Nat.beq pc 8 then (.invokestatic 146, 11, (147, 3, 0), 0, 0, []) else TN) else (bif Nat.beq pc 11 then (.ireturn, 12, (0, 0, 0), 0, 0, []) else TN)))
def tb_X12_isMember (pc : Nat) : TI := bif Nat.ble 12 pc then TN else tt_X12_isMember pc
theorem ok_X12_isMember : tOK 12 (decide ("isMember" = "<init>")) cX12_isMember tb_X12_isMember := tOK_of 12 tn_of (by decide +kernel)
def f_X12_isMember (L : Lay) (σ : Sto) (a0 : Nat) (a1 : Int32) : Option Int32 := (f_X12_in L σ a1 0 ((σ.1 a0 4) - 1)).bind fun r1 => (ckN 1 r1).bind fun _ => some r1
def ad_X12_isMember : ADT := fun O L σ as k => match as with
  | [.inr (.inr (.inl (ta0, some a0))), .inl a1] => bif Nat.beq ta0 12 && true then (f_X12_isMember L σ a0 a1).bind fun r => k (some (vI r)) L σ else none
  | _ => none
abbrev cl_X12_isMember {O : Type} : CLT O := (clc 147 ad_X12_in cl0)
theorem hc_X12_isMember (G : GT) (l : Launch) {d : Nat} (hd : 2 ≤ d) {O : Type} : HCL G l (true, true) d (cl_X12_isMember (O := O)) := (hclc (ca_X12_in G l (d := 1) (Nat.le_refl _)) (fun _ => rfl) (fun _ => rfl) (by omega) hcl0)
theorem rt_X12_isMember : retOK (1, 0) (some .boolean) := ⟨fun _ => rfl, fun h => absurd h (by decide), fun h => absurd h (by decide)⟩
set_option maxRecDepth 20000 in
theorem ca_X12_isMember (G : GT) (l : Launch) {d : Nat} (hd : 2 ≤ d) : CA G l 157 (true, true) d ad_X12_isMember := by
  intro O L σ as k o h hW hok
  unfold ad_X12_isMember at h
  split at h
  · obtain ⟨hq0, hA0⟩ := bif_s h
    obtain ⟨e0, hq1⟩ := beq_and hq0
    subst e0
    obtain ⟨r, hr, hk⟩ := Option.bind_eq_some_iff.mp hA0
    exact ca_of (q := (dcPI L σ) r) (by decide) rfl (Nat.le_of_ble_eq_true rfl) hk (fun _ => rfl) (fun _ => rfl) (exs (sp := []) (K := k0) (L0 := L) (σ0 := σ) ok_X12_isMember rt_X12_isMember (by omega) (hc_X12_isMember G l hd) (hrPI rfl rfl) hk0 11 hr (inv0 hW hok))
  · cases h
def tt_X12_back (pc : Nat) : TI := bif Nat.blt pc 46 then (bif Nat.blt pc 25 then (bif Nat.blt pc 10 then (bif Nat.blt pc 5 then (bif Nat.blt pc 1 then (bif Nat.beq pc 0 then (.aload_n 0, 1, (0, 0, 0), 0, 0, []) else TN) else (bif Nat.blt pc 2 then (bif Nat.beq pc 1 then (.iload_n 1, 2, (1, 0, 0), 0, 0, []) else TN) else (bif Nat.beq pc 2 then (.invokevirtual 205, 5, (149, 1, 12), 0, 0, []) else TN))) else (bif Nat.blt pc 8 then (bif Nat.beq pc 5 then (.ifCond .eq 20, 8, (25, 0, 0), 0, 0, []) else TN) else (bif Nat.blt pc 9 then (bif Nat.beq pc 8 then (.aload_n 0, 9, (0, 0, 0), 0, 0, []) else TN) else (bif Nat.beq pc 9 then (.iload_n 2, 10, (2, 0, 0), 0, 0, []) else TN)))) else (bif Nat.blt pc 17 then (bif Nat.blt pc 13 then (bif Nat.beq pc 10 then (.invokevirtual 169, 13, (157, 1, 12), 0, 0, []) else TN) else (bif Nat.blt pc 16 then (bif Nat.beq pc 13 then (.ifCond .eq 12, 16, (25, 0, 0), 0, 0, []) else TN) else (bif Nat.beq pc 16 then (.iload_n 3, 17, (3, 0, 0), 0, 0, []) else TN))) else (bif Nat.blt pc 19 then (bif Nat.blt pc 18 then (bif Nat.beq pc 17 then (.iconst 0, 18, (0, 0, 0), 0, 0, []) else TN) else (bif Nat.beq pc 18 then (.iconst 3, 19, (0, 0, 0), 3, 0, []) else TN)) else (bif Nat.blt pc 22 then (bif Nat.beq pc 19 then (.invokestatic 146, 22, (147, 3, 0), 0, 0, []) else TN) else (bif Nat.beq pc 22 then (.ifCond .ne 6, 25, (28, 0, 0), 0, 0, []) else TN))))) else (bif Nat.blt pc 34 then (bif Nat.blt pc 30 then (bif Nat.blt pc 27 then (bif Nat.beq pc 25 then (.ldc 156, 27, (0, 0, 0), -1000000001, 0, []) else TN) else (bif Nat.blt pc 28 then (bif Nat.beq pc 27 then (.ireturn, 28, (0, 0, 0), 0, 0, []) else TN) else (bif Nat.beq pc 28 then (.bipush 40, 30, (0, 0, 0), 40, 0, []) else TN))) else (bif Nat.blt pc 32 then (bif Nat.blt pc 31 then (bif Nat.beq pc 30 then (.iload_n 1, 31, (1, 0, 0), 0, 0, []) else TN) else (bif Nat.beq pc 31 then (.imul, 32, (0, 0, 0), 0, 0, []) else TN)) else (bif Nat.blt pc 33 then (bif Nat.beq pc 32 then (.iload_n 2, 33, (2, 0, 0), 0, 0, []) else TN) else (bif Nat.beq pc 33 then (.iadd, 34, (0, 0, 0), 0, 0, []) else TN)))) else (bif Nat.blt pc 40 then (bif Nat.blt pc 36 then (bif Nat.beq pc 34 then (.istore 4, 36, (4, 0, 0), 0, 0, []) else TN) else (bif Nat.blt pc 37 then (bif Nat.beq pc 36 then (.aload_n 0, 37, (0, 0, 0), 0, 0, []) else TN) else (bif Nat.beq pc 37 then (.getfield 49, 40, (12, 19, 0), 0, 0, []) else TN))) else (bif Nat.blt pc 42 then (bif Nat.blt pc 41 then (bif Nat.beq pc 40 then (.iload_n 1, 41, (1, 0, 0), 0, 0, []) else TN) else (bif Nat.beq pc 41 then (.iaload, 42, (0, 0, 0), 0, 0, []) else TN)) else (bif Nat.blt pc 43 then (bif Nat.beq pc 42 then (.iconst (-1), 43, (0, 0, 0), -1, 0, []) else TN) else (bif Nat.beq pc 43 then (.if_icmp .ne 25, 46, (68, 0, 0), 0, 0, []) else TN)))))) else (bif Nat.blt pc 70 then (bif Nat.blt pc 57 then (bif Nat.blt pc 52 then (bif Nat.blt pc 47 then (bif Nat.beq pc 46 then (.aload_n 0, 47, (0, 0, 0), 0, 0, []) else TN) else (bif Nat.blt pc 50 then (bif Nat.beq pc 47 then (.getfield 52, 50, (12, 20, 0), 0, 0, []) else TN) else (bif Nat.beq pc 50 then (.iload 4, 52, (4, 0, 0), 0, 0, []) else TN))) else (bif Nat.blt pc 53 then (bif Nat.beq pc 52 then (.iaload, 53, (0, 0, 0), 0, 0, []) else TN) else (bif Nat.blt pc 54 then (bif Nat.beq pc 53 then (.iconst (-1), 54, (0, 0, 0), -1, 0, []) else TN) else (bif Nat.beq pc 54 then (.if_icmp .eq 14, 57, (68, 0, 0), 0, 0, []) else TN)))) else (bif Nat.blt pc 63 then (bif Nat.blt pc 58 then (bif Nat.beq pc 57 then (.aload_n 0, 58, (0, 0, 0), 0, 0, []) else TN) else (bif Nat.blt pc 61 then (bif Nat.beq pc 58 then (.getfield 55, 61, (12, 21, 0), 0, 0, []) else TN) else (bif Nat.beq pc 61 then (.iload 4, 63, (4, 0, 0), 0, 0, []) else TN))) else (bif Nat.blt pc 65 then (bif Nat.blt pc 64 then (bif Nat.beq pc 63 then (.iaload, 64, (0, 0, 0), 0, 0, []) else TN) else (bif Nat.beq pc 64 then (.iconst (-1), 65, (0, 0, 0), -1, 0, []) else TN)) else (bif Nat.blt pc 68 then (bif Nat.beq pc 65 then (.if_icmp .eq 6, 68, (71, 0, 0), 0, 0, []) else TN) else (bif Nat.beq pc 68 then (.ldc 176, 70, (0, 0, 0), -1000000002, 0, []) else TN))))) else (bif Nat.blt pc 80 then (bif Nat.blt pc 75 then (bif Nat.blt pc 71 then (bif Nat.beq pc 70 then (.ireturn, 71, (0, 0, 0), 0, 0, []) else TN) else (bif Nat.blt pc 72 then (bif Nat.beq pc 71 then (.aload_n 0, 72, (0, 0, 0), 0, 0, []) else TN) else (bif Nat.beq pc 72 then (.getfield 55, 75, (12, 21, 0), 0, 0, []) else TN))) else (bif Nat.blt pc 78 then (bif Nat.blt pc 77 then (bif Nat.beq pc 75 then (.iload 4, 77, (4, 0, 0), 0, 0, []) else TN) else (bif Nat.beq pc 77 then (.iload_n 3, 78, (3, 0, 0), 0, 0, []) else TN)) else (bif Nat.blt pc 79 then (bif Nat.beq pc 78 then (.iastore, 79, (0, 0, 0), 0, 0, []) else TN) else (bif Nat.beq pc 79 then (.aload_n 0, 80, (0, 0, 0), 0, 0, []) else TN)))) else (bif Nat.blt pc 86 then (bif Nat.blt pc 83 then (bif Nat.beq pc 80 then (.getfield 58, 83, (12, 22, 0), 0, 0, []) else TN) else (bif Nat.blt pc 85 then (bif Nat.beq pc 83 then (.iload 4, 85, (4, 0, 0), 0, 0, []) else TN) else (bif Nat.beq pc 85 then (.aload_n 0, 86, (0, 0, 0), 0, 0, []) else TN))) else (bif Nat.blt pc 90 then (bif Nat.blt pc 89 then (bif Nat.beq pc 86 then (.getfield 166, 89, (12, 1, 0), 0, 0, []) else TN) else (bif Nat.beq pc 89 then (.iastore, 90, (0, 0, 0), 0, 0, []) else TN)) else (bif Nat.blt pc 91 then (bif Nat.beq pc 90 then (.iconst 1, 91, (0, 0, 0), 1, 0, []) else TN) else (bif Nat.beq pc 91 then (.ireturn, 92, (0, 0, 0), 0, 0, []) else TN))))))
def tb_X12_back (pc : Nat) : TI := bif Nat.ble 92 pc then TN else tt_X12_back pc
theorem ok_X12_back : tOK 12 (decide ("back" = "<init>")) cX12_back tb_X12_back := tOK_of 92 tn_of (by decide +kernel)
def f_X12_back (L : Lay) (σ : Sto) (a0 : Nat) (a1 : Int32) (a2 : Int32) (a3 : Int32) : Option (Int32 × Sto) := (f_X12_isBallot L σ a0 a1).bind fun r1 => (if r1 = 0 then some ((-1000000001), σ) else (f_X12_isMember L σ a0 a2).bind fun r2 => (if r2 = 0 then some ((-1000000001), σ) else (f_X12_in L σ a3 0 3).bind fun r3 => (if r3 = 0 then some ((-1000000001), σ) else (σ.2.1 a0 19).bind fun x4 => (rI L σ x4 a1).bind fun v5 => (if v5 = (-1) then (σ.2.1 a0 20).bind fun x6 => (rI L σ x6 ((40 * a1) + a2)).bind fun v7 => (if v7 = (-1) then some ((-1000000002), σ) else (σ.2.1 a0 21).bind fun x8 => (rI L σ x8 ((40 * a1) + a2)).bind fun v9 => (if v9 = (-1) then (σ.2.1 a0 21).bind fun x10 => (wI L σ x10 ((40 * a1) + a2) a3).bind fun σ11 => (σ11.2.1 a0 22).bind fun x12 => (wI L σ11 x12 ((40 * a1) + a2) (σ11.1 a0 1)).bind fun σ13 => some (1, σ13) else some ((-1000000002), σ))) else some ((-1000000002), σ)))))
def ad_X12_back : ADT := fun O L σ as k => match as with
  | [.inr (.inr (.inl (ta0, some a0))), .inl a1, .inl a2, .inl a3] => bif Nat.beq ta0 12 && true then (f_X12_back L σ a0 a1 a2 a3).bind fun r => k (some (vI r.1)) L r.2 else none
  | _ => none
abbrev cl_X12_back {O : Type} : CLT O := (clc 149 ad_X12_isBallot (clc 157 ad_X12_isMember (clc 147 ad_X12_in cl0)))
theorem hc_X12_back (G : GT) (l : Launch) {d : Nat} (hd : 3 ≤ d) {O : Type} : HCL G l (true, false) d (cl_X12_back (O := O)) := (hclc (ca_X12_isBallot G l (d := 2) (Nat.le_refl _)) (fun _ => rfl) (fun e => by cases e) (by omega) (hclc (ca_X12_isMember G l (d := 2) (Nat.le_refl _)) (fun _ => rfl) (fun e => by cases e) (by omega) (hclc (ca_X12_in G l (d := 1) (Nat.le_refl _)) (fun _ => rfl) (fun e => by cases e) (by omega) hcl0)))
theorem rt_X12_back : retOK (0, 0) (some .int) := ⟨fun _ => rfl, fun h => absurd h (by decide), fun h => absurd h (by decide)⟩
set_option maxRecDepth 20000 in
theorem ca_X12_back (G : GT) (l : Launch) {d : Nat} (hd : 3 ≤ d) : CA G l 123 (true, false) d ad_X12_back := by
  intro O L σ as k o h hW hok
  unfold ad_X12_back at h
  split at h
  · obtain ⟨hq0, hA0⟩ := bif_s h
    obtain ⟨e0, hq1⟩ := beq_and hq0
    subst e0
    obtain ⟨r, hr, hk⟩ := Option.bind_eq_some_iff.mp hA0
    exact ca_of (q := (dcI L) r) (by decide) rfl (Nat.le_of_ble_eq_true rfl) hk (fun _ => rfl) (fun e => by cases e) (exs (sp := []) (K := k0) (L0 := L) (σ0 := σ) ok_X12_back rt_X12_back (by omega) (hc_X12_back G l hd) (hrI rfl) hk0 57 hr (inv0 hW hok))
  · cases h
def tt_X12_isIn (pc : Nat) : TI := bif Nat.blt pc 20 then (bif Nat.blt pc 8 then (bif Nat.blt pc 2 then (bif Nat.blt pc 1 then (bif Nat.beq pc 0 then (.aload_n 0, 1, (0, 0, 0), 0, 0, []) else TN) else (bif Nat.beq pc 1 then (.iload_n 2, 2, (2, 0, 0), 0, 0, []) else TN)) else (bif Nat.blt pc 3 then (bif Nat.beq pc 2 then (.iload_n 3, 3, (3, 0, 0), 0, 0, []) else TN) else (bif Nat.blt pc 6 then (bif Nat.beq pc 3 then (.invokevirtual 178, 6, (187, 2, 12), 0, 0, []) else TN) else (bif Nat.beq pc 6 then (.istore 4, 8, (4, 0, 0), 0, 0, []) else TN)))) else (bif Nat.blt pc 15 then (bif Nat.blt pc 10 then (bif Nat.beq pc 8 then (.iload 4, 10, (4, 0, 0), 0, 0, []) else TN) else (bif Nat.blt pc 12 then (bif Nat.beq pc 10 then (.ldc 177, 12, (0, 0, 0), -1000000005, 0, []) else TN) else (bif Nat.beq pc 12 then (.if_icmp .eq 22, 15, (34, 0, 0), 0, 0, []) else TN))) else (bif Nat.blt pc 16 then (bif Nat.beq pc 15 then (.aload_n 0, 16, (0, 0, 0), 0, 0, []) else TN) else (bif Nat.blt pc 19 then (bif Nat.beq pc 16 then (.getfield 43, 19, (12, 17, 0), 0, 0, []) else TN) else (bif Nat.beq pc 19 then (.iload_n 1, 20, (1, 0, 0), 0, 0, []) else TN))))) else (bif Nat.blt pc 26 then (bif Nat.blt pc 23 then (bif Nat.blt pc 21 then (bif Nat.beq pc 20 then (.iaload, 21, (0, 0, 0), 0, 0, []) else TN) else (bif Nat.beq pc 21 then (.iload 4, 23, (4, 0, 0), 0, 0, []) else TN)) else (bif Nat.blt pc 24 then (bif Nat.beq pc 23 then (.ishr, 24, (0, 0, 0), 0, 0, []) else TN) else (bif Nat.blt pc 25 then (bif Nat.beq pc 24 then (.iconst 1, 25, (0, 0, 0), 1, 0, []) else TN) else (bif Nat.beq pc 25 then (.iand, 26, (0, 0, 0), 0, 0, []) else TN)))) else (bif Nat.blt pc 31 then (bif Nat.blt pc 27 then (bif Nat.beq pc 26 then (.iconst 1, 27, (0, 0, 0), 1, 0, []) else TN) else (bif Nat.blt pc 30 then (bif Nat.beq pc 27 then (.if_icmp .ne 7, 30, (34, 0, 0), 0, 0, []) else TN) else (bif Nat.beq pc 30 then (.iconst 1, 31, (0, 0, 0), 1, 0, []) else TN))) else (bif Nat.blt pc 34 then (bif Nat.beq pc 31 then (.goto 4, 34, (35, 0, 0), 0, 0, []) else TN) else (bif Nat.blt pc 35 then (bif Nat.beq pc 34 then (.iconst 0, 35, (0, 0, 0), 0, 0, []) else TN) else (bif Nat.beq pc 35 then (.ireturn, 36, (0, 0, 0), 0, 0, []) else TN)))))
def tb_X12_isIn (pc : Nat) : TI := bif Nat.ble 36 pc then TN else tt_X12_isIn pc
theorem ok_X12_isIn : tOK 12 (decide ("isIn" = "<init>")) cX12_isIn tb_X12_isIn := tOK_of 36 tn_of (by decide +kernel)
def f_X12_isIn (L : Lay) (σ : Sto) (a0 : Nat) (a1 : Int32) (a2 : Int32) (a3 : Int32) : Option Int32 := (f_X12_ofOn L σ a0 a2 a3).bind fun r1 => (if r1 = (-1000000005) then (ckN 1 0).bind fun _ => some 0 else (σ.2.1 a0 17).bind fun x2 => (rI L σ x2 a1).bind fun v3 => (if ((v3 >>> (r1 &&& 31)) &&& 1) = 1 then (ckN 1 1).bind fun _ => some 1 else (ckN 1 0).bind fun _ => some 0))
def ad_X12_isIn : ADT := fun O L σ as k => match as with
  | [.inr (.inr (.inl (ta0, some a0))), .inl a1, .inl a2, .inl a3] => bif Nat.beq ta0 12 && true then (f_X12_isIn L σ a0 a1 a2 a3).bind fun r => k (some (vI r)) L σ else none
  | _ => none
abbrev cl_X12_isIn {O : Type} : CLT O := (clc 187 ad_X12_ofOn cl0)
theorem hc_X12_isIn (G : GT) (l : Launch) {d : Nat} (hd : 2 ≤ d) {O : Type} : HCL G l (true, true) d (cl_X12_isIn (O := O)) := (hclc (ca_X12_ofOn G l (d := 1) (Nat.le_refl _)) (fun _ => rfl) (fun _ => rfl) (by omega) hcl0)
theorem rt_X12_isIn : retOK (1, 0) (some .boolean) := ⟨fun _ => rfl, fun h => absurd h (by decide), fun h => absurd h (by decide)⟩
set_option maxRecDepth 20000 in
theorem ca_X12_isIn (G : GT) (l : Launch) {d : Nat} (hd : 2 ≤ d) : CA G l 153 (true, true) d ad_X12_isIn := by
  intro O L σ as k o h hW hok
  unfold ad_X12_isIn at h
  split at h
  · obtain ⟨hq0, hA0⟩ := bif_s h
    obtain ⟨e0, hq1⟩ := beq_and hq0
    subst e0
    obtain ⟨r, hr, hk⟩ := Option.bind_eq_some_iff.mp hA0
    exact ca_of (q := (dcPI L σ) r) (by decide) rfl (Nat.le_of_ble_eq_true rfl) hk (fun _ => rfl) (fun _ => rfl) (exs (sp := []) (K := k0) (L0 := L) (σ0 := σ) ok_X12_isIn rt_X12_isIn (by omega) (hc_X12_isIn G l hd) (hrPI rfl rfl) hk0 25 hr (inv0 hW hok))
  · cases h
def tt_X12_dayWage (pc : Nat) : TI := bif Nat.blt pc 10 then (bif Nat.blt pc 5 then (bif Nat.blt pc 1 then (bif Nat.beq pc 0 then (.aload_n 0, 1, (0, 0, 0), 0, 0, []) else TN) else (bif Nat.blt pc 4 then (bif Nat.beq pc 1 then (.getfield 16, 4, (12, 6, 0), 0, 0, []) else TN) else (bif Nat.beq pc 4 then (.iload_n 1, 5, (1, 0, 0), 0, 0, []) else TN))) else (bif Nat.blt pc 6 then (bif Nat.beq pc 5 then (.iaload, 6, (0, 0, 0), 0, 0, []) else TN) else (bif Nat.blt pc 7 then (bif Nat.beq pc 6 then (.aload_n 0, 7, (0, 0, 0), 0, 0, []) else TN) else (bif Nat.beq pc 7 then (.getfield 19, 10, (12, 7, 0), 0, 0, []) else TN)))) else (bif Nat.blt pc 13 then (bif Nat.blt pc 11 then (bif Nat.beq pc 10 then (.iload_n 1, 11, (1, 0, 0), 0, 0, []) else TN) else (bif Nat.blt pc 12 then (bif Nat.beq pc 11 then (.iaload, 12, (0, 0, 0), 0, 0, []) else TN) else (bif Nat.beq pc 12 then (.imul, 13, (0, 0, 0), 0, 0, []) else TN))) else (bif Nat.blt pc 14 then (bif Nat.beq pc 13 then (.iconst 5, 14, (0, 0, 0), 5, 0, []) else TN) else (bif Nat.blt pc 15 then (bif Nat.beq pc 14 then (.idiv, 15, (0, 0, 0), 0, 0, []) else TN) else (bif Nat.beq pc 15 then (.ireturn, 16, (0, 0, 0), 0, 0, []) else TN))))
def tb_X12_dayWage (pc : Nat) : TI := bif Nat.ble 16 pc then TN else tt_X12_dayWage pc
theorem ok_X12_dayWage : tOK 12 (decide ("dayWage" = "<init>")) cX12_dayWage tb_X12_dayWage := tOK_of 16 tn_of (by decide +kernel)
def f_X12_dayWage (L : Lay) (σ : Sto) (a0 : Nat) (a1 : Int32) : Option Int32 := (σ.2.1 a0 6).bind fun x1 => (rI L σ x1 a1).bind fun v2 => (σ.2.1 a0 7).bind fun x3 => (rI L σ x3 a1).bind fun v4 => (dv (v2 * v4) 5).bind fun q5 => some q5
def ad_X12_dayWage : ADT := fun O L σ as k => match as with
  | [.inr (.inr (.inl (ta0, some a0))), .inl a1] => bif Nat.beq ta0 12 && true then (f_X12_dayWage L σ a0 a1).bind fun r => k (some (vI r)) L σ else none
  | _ => none
abbrev cl_X12_dayWage {O : Type} : CLT O := cl0
theorem hc_X12_dayWage (G : GT) (l : Launch) {d : Nat} (hd : 1 ≤ d) {O : Type} : HCL G l (true, true) d (cl_X12_dayWage (O := O)) := hcl0
theorem rt_X12_dayWage : retOK (0, 0) (some .int) := ⟨fun _ => rfl, fun h => absurd h (by decide), fun h => absurd h (by decide)⟩
set_option maxRecDepth 20000 in
theorem ca_X12_dayWage (G : GT) (l : Launch) {d : Nat} (hd : 1 ≤ d) : CA G l 136 (true, true) d ad_X12_dayWage := by
  intro O L σ as k o h hW hok
  unfold ad_X12_dayWage at h
  split at h
  · obtain ⟨hq0, hA0⟩ := bif_s h
    obtain ⟨e0, hq1⟩ := beq_and hq0
    subst e0
    obtain ⟨r, hr, hk⟩ := Option.bind_eq_some_iff.mp hA0
    exact ca_of (q := (dcPI L σ) r) (by decide) rfl (Nat.le_of_ble_eq_true rfl) hk (fun _ => rfl) (fun _ => rfl) (exs (sp := []) (K := k0) (L0 := L) (σ0 := σ) ok_X12_dayWage rt_X12_dayWage (by omega) (hc_X12_dayWage G l hd) (hrPI rfl rfl) hk0 15 hr (inv0 hW hok))
  · cases h
def tt_X12_costOf (pc : Nat) : TI := bif Nat.blt pc 27 then (bif Nat.blt pc 12 then (bif Nat.blt pc 4 then (bif Nat.blt pc 2 then (bif Nat.blt pc 1 then (bif Nat.beq pc 0 then (.iconst 0, 1, (0, 0, 0), 0, 0, []) else TN) else (bif Nat.beq pc 1 then (.istore_n 2, 2, (2, 0, 0), 0, 0, []) else TN)) else (bif Nat.blt pc 3 then (bif Nat.beq pc 2 then (.iconst 0, 3, (0, 0, 0), 0, 0, []) else TN) else (bif Nat.beq pc 3 then (.istore_n 3, 4, (3, 0, 0), 0, 0, []) else TN))) else (bif Nat.blt pc 6 then (bif Nat.blt pc 5 then (bif Nat.beq pc 4 then (.iload_n 3, 5, (3, 0, 0), 0, 0, []) else TN) else (bif Nat.beq pc 5 then (.aload_n 0, 6, (0, 0, 0), 0, 0, []) else TN)) else (bif Nat.blt pc 9 then (bif Nat.beq pc 6 then (.getfield 150, 9, (12, 4, 0), 0, 0, []) else TN) else (bif Nat.beq pc 9 then (.if_icmp .ge 44, 12, (53, 0, 0), 0, 0, []) else TN)))) else (bif Nat.blt pc 16 then (bif Nat.blt pc 14 then (bif Nat.blt pc 13 then (bif Nat.beq pc 12 then (.iload_n 2, 13, (2, 0, 0), 0, 0, []) else TN) else (bif Nat.beq pc 13 then (.aload_n 0, 14, (0, 0, 0), 0, 0, []) else TN)) else (bif Nat.blt pc 15 then (bif Nat.beq pc 14 then (.iload_n 1, 15, (1, 0, 0), 0, 0, []) else TN) else (bif Nat.beq pc 15 then (.iload_n 3, 16, (3, 0, 0), 0, 0, []) else TN))) else (bif Nat.blt pc 20 then (bif Nat.blt pc 17 then (bif Nat.beq pc 16 then (.aload_n 0, 17, (0, 0, 0), 0, 0, []) else TN) else (bif Nat.beq pc 17 then (.getfield 166, 20, (12, 1, 0), 0, 0, []) else TN)) else (bif Nat.blt pc 23 then (bif Nat.beq pc 20 then (.invokevirtual 202, 23, (153, 3, 12), 0, 0, []) else TN) else (bif Nat.blt pc 26 then (bif Nat.beq pc 23 then (.ifCond .eq 21, 26, (44, 0, 0), 0, 0, []) else TN) else (bif Nat.beq pc 26 then (.aload_n 0, 27, (0, 0, 0), 0, 0, []) else TN)))))) else (bif Nat.blt pc 40 then (bif Nat.blt pc 35 then (bif Nat.blt pc 31 then (bif Nat.blt pc 28 then (bif Nat.beq pc 27 then (.iload_n 3, 28, (3, 0, 0), 0, 0, []) else TN) else (bif Nat.beq pc 28 then (.invokevirtual 363, 31, (136, 1, 12), 0, 0, []) else TN)) else (bif Nat.blt pc 32 then (bif Nat.beq pc 31 then (.aload_n 0, 32, (0, 0, 0), 0, 0, []) else TN) else (bif Nat.beq pc 32 then (.getfield 88, 35, (12, 36, 0), 0, 0, []) else TN))) else (bif Nat.blt pc 37 then (bif Nat.blt pc 36 then (bif Nat.beq pc 35 then (.iconst 1, 36, (0, 0, 0), 1, 0, []) else TN) else (bif Nat.beq pc 36 then (.iaload, 37, (0, 0, 0), 0, 0, []) else TN)) else (bif Nat.blt pc 38 then (bif Nat.beq pc 37 then (.imul, 38, (0, 0, 0), 0, 0, []) else TN) else (bif Nat.beq pc 38 then (.bipush 100, 40, (0, 0, 0), 100, 0, []) else TN)))) else (bif Nat.blt pc 46 then (bif Nat.blt pc 44 then (bif Nat.blt pc 41 then (bif Nat.beq pc 40 then (.idiv, 41, (0, 0, 0), 0, 0, []) else TN) else (bif Nat.beq pc 41 then (.goto 4, 44, (45, 0, 0), 0, 0, []) else TN)) else (bif Nat.blt pc 45 then (bif Nat.beq pc 44 then (.iconst 0, 45, (0, 0, 0), 0, 0, []) else TN) else (bif Nat.beq pc 45 then (.iadd, 46, (0, 0, 0), 0, 0, []) else TN))) else (bif Nat.blt pc 50 then (bif Nat.blt pc 47 then (bif Nat.beq pc 46 then (.istore_n 2, 47, (2, 0, 0), 0, 0, []) else TN) else (bif Nat.beq pc 47 then (.iinc 3 1, 50, (3, 0, 0), 1, 0, []) else TN)) else (bif Nat.blt pc 53 then (bif Nat.beq pc 50 then (.goto (-46), 53, (4, 0, 0), 0, 0, []) else TN) else (bif Nat.blt pc 54 then (bif Nat.beq pc 53 then (.iload_n 2, 54, (2, 0, 0), 0, 0, []) else TN) else (bif Nat.beq pc 54 then (.ireturn, 55, (0, 0, 0), 0, 0, []) else TN))))))
def tb_X12_costOf (pc : Nat) : TI := bif Nat.ble 55 pc then TN else tt_X12_costOf pc
theorem ok_X12_costOf : tOK 12 (decide ("costOf" = "<init>")) cX12_costOf tb_X12_costOf := tOK_of 55 tn_of (by decide +kernel)
def f_X12_costOf_45 (c4 : Lay → Sto → Nat → Int32 → Int32 → Int32 → Option Int32) (L : Lay) (σ : Sto) (a0 : Nat) (a1 : Int32) (a3 : Int32) (s0 : Int32) (s1 : Int32) : Option Int32 := c4 L σ a0 a1 (s1 + s0) (a3 + 1)
def A_X12_costOf_45 (c : Lay → Sto → Nat → Int32 → Int32 → Int32 → Int32 → Option Int32) (lc : List (Option AV)) (st : List AV) (L : Lay) (σ : Sto) : Option Int32 := match lc, st with
  | [some (.inr (.inr (.inl (ta0, some a0)))), some (.inl a1), _, some (.inl a3)], [.inl s0, .inl s1] => bif Nat.beq ta0 12 && true then c L σ a0 a1 a3 s0 s1 else none
  | _, _ => none
def f_X12_costOf_4 : Nat → Lay → Sto → Nat → Int32 → Int32 → Int32 → Option Int32
  | 0 => fun _ _ _ _ _ _ => none
  | k + 1 => fun L σ a0 a1 a2 a3 => (if (σ.1 a0 4) ≤ a3 then some a2 else (f_X12_isIn L σ a0 a1 a3 (σ.1 a0 1)).bind fun r1 => (if r1 = 0 then (f_X12_costOf_45 (f_X12_costOf_4 k)) L σ a0 a1 a3 0 a2 else (f_X12_dayWage L σ a0 a3).bind fun r2 => (σ.2.1 a0 36).bind fun x3 => (rI L σ x3 1).bind fun v4 => (dv (r2 * v4) 100).bind fun q5 => (f_X12_costOf_45 (f_X12_costOf_4 k)) L σ a0 a1 a3 q5 a2))
def A_X12_costOf_4 (c : Lay → Sto → Nat → Int32 → Int32 → Int32 → Option Int32) (lc : List (Option AV)) (st : List AV) (L : Lay) (σ : Sto) : Option Int32 := match lc, st with
  | [some (.inr (.inr (.inl (ta0, some a0)))), some (.inl a1), some (.inl a2), some (.inl a3)], [] => bif Nat.beq ta0 12 && true then c L σ a0 a1 a2 a3 else none
  | _, _ => none
def f_X12_costOf (L : Lay) (σ : Sto) (a0 : Nat) (a1 : Int32) : Option Int32 := (f_X12_costOf_4 FU) L σ a0 a1 0 0
def ad_X12_costOf : ADT := fun O L σ as k => match as with
  | [.inr (.inr (.inl (ta0, some a0))), .inl a1] => bif Nat.beq ta0 12 && true then (f_X12_costOf L σ a0 a1).bind fun r => k (some (vI r)) L σ else none
  | _ => none
abbrev cl_X12_costOf {O : Type} : CLT O := (clc 153 ad_X12_isIn (clc 136 ad_X12_dayWage cl0))
theorem hc_X12_costOf (G : GT) (l : Launch) {d : Nat} (hd : 3 ≤ d) {O : Type} : HCL G l (true, true) d (cl_X12_costOf (O := O)) := (hclc (ca_X12_isIn G l (d := 2) (Nat.le_refl _)) (fun _ => rfl) (fun _ => rfl) (by omega) (hclc (ca_X12_dayWage G l (d := 1) (Nat.le_refl _)) (fun _ => rfl) (fun _ => rfl) (by omega) hcl0))
theorem rt_X12_costOf : retOK (0, 0) (some .int) := ⟨fun _ => rfl, fun h => absurd h (by decide), fun h => absurd h (by decide)⟩
set_option maxRecDepth 20000 in
theorem b_X12_costOf_45 {G : GT} {l : Launch} {d : Nat} {L0 : Lay} {σ0 : Sto} (hd : 3 ≤ d) {c4 : Lay → Sto → Nat → Int32 → Int32 → Int32 → Option Int32} (h4 : HF G l 12 "costOf" cX12_costOf 4 (some .int) d L0 σ0 (true, true) (dcPI L0 σ0) 4 (A_X12_costOf_4 c4)) : HF G l 12 "costOf" cX12_costOf 4 (some .int) d L0 σ0 (true, true) (dcPI L0 σ0) 45 (A_X12_costOf_45 (f_X12_costOf_45 c4)) := by
  intro lc st L σ o h hI
  unfold A_X12_costOf_45 at h
  split at h
  · obtain ⟨hq0, hA1⟩ := bif_s h
    obtain ⟨e0, hq1⟩ := beq_and hq0
    subst e0
    exact exs (sp := [4]) (K := (kc 4 (A_X12_costOf_4 c4) k0)) ok_X12_costOf rt_X12_costOf (by omega) (hc_X12_costOf G l hd) (hrPI rfl rfl) (hkc h4 hk0) 37 hA1 hI
  · cases h
set_option maxRecDepth 20000 in
theorem b_X12_costOf_4 {G : GT} {l : Launch} {d : Nat} {L0 : Lay} {σ0 : Sto} (hd : 3 ≤ d) : ∀ k : Nat, HF G l 12 "costOf" cX12_costOf 4 (some .int) d L0 σ0 (true, true) (dcPI L0 σ0) 4 (A_X12_costOf_4 (f_X12_costOf_4 k))
  | 0 => by
    intro lc st L σ o h hI
    unfold A_X12_costOf_4 at h
    split at h
    · obtain ⟨_, hA1⟩ := bif_s h
      cases hA1
    · cases h
  | k + 1 => by
    have ih := b_X12_costOf_4 (G := G) (l := l) (d := d) (L0 := L0) (σ0 := σ0) hd k
    intro lc st L σ o h hI
    unfold A_X12_costOf_4 at h
    split at h
    · obtain ⟨hq0, hA1⟩ := bif_s h
      obtain ⟨e0, hq1⟩ := beq_and hq0
      subst e0
      exact exs (sp := [45]) (K := (kc 45 (A_X12_costOf_45 (f_X12_costOf_45 (f_X12_costOf_4 k))) k0)) ok_X12_costOf rt_X12_costOf (by omega) (hc_X12_costOf G l hd) (hrPI rfl rfl) (hkc (b_X12_costOf_45 hd ih) hk0) 37 hA1 hI
    · cases h
set_option maxRecDepth 20000 in
theorem ca_X12_costOf (G : GT) (l : Launch) {d : Nat} (hd : 3 ≤ d) : CA G l 133 (true, true) d ad_X12_costOf := by
  intro O L σ as k o h hW hok
  unfold ad_X12_costOf at h
  split at h
  · obtain ⟨hq0, hA0⟩ := bif_s h
    obtain ⟨e0, hq1⟩ := beq_and hq0
    subst e0
    obtain ⟨r, hr, hk⟩ := Option.bind_eq_some_iff.mp hA0
    exact ca_of (q := (dcPI L σ) r) (by decide) rfl (Nat.le_of_ble_eq_true rfl) hk (fun _ => rfl) (fun _ => rfl) (exs (sp := [4]) (K := (kc 4 (A_X12_costOf_4 (f_X12_costOf_4 FU)) k0)) (L0 := L) (σ0 := σ) ok_X12_costOf rt_X12_costOf (by omega) (hc_X12_costOf G l hd) (hrPI rfl rfl) (hkc (b_X12_costOf_4 hd FU) hk0) 37 hr (inv0 hW hok))
  · cases h
def tt_X12_isOfKind (pc : Nat) : TI := bif Nat.blt pc 16 then (bif Nat.blt pc 9 then (bif Nat.blt pc 4 then (bif Nat.blt pc 1 then (bif Nat.beq pc 0 then (.iload_n 2, 1, (2, 0, 0), 0, 0, []) else TN) else (bif Nat.beq pc 1 then (.ifCond .eq 28, 4, (29, 0, 0), 0, 0, []) else TN)) else (bif Nat.blt pc 5 then (bif Nat.beq pc 4 then (.aload_n 0, 5, (0, 0, 0), 0, 0, []) else TN) else (bif Nat.blt pc 8 then (bif Nat.beq pc 5 then (.getfield 7, 8, (12, 3, 0), 0, 0, []) else TN) else (bif Nat.beq pc 8 then (.iload_n 1, 9, (1, 0, 0), 0, 0, []) else TN)))) else (bif Nat.blt pc 11 then (bif Nat.blt pc 10 then (bif Nat.beq pc 9 then (.iaload, 10, (0, 0, 0), 0, 0, []) else TN) else (bif Nat.beq pc 10 then (.iload_n 2, 11, (2, 0, 0), 0, 0, []) else TN)) else (bif Nat.blt pc 14 then (bif Nat.beq pc 11 then (.if_icmp .eq 18, 14, (29, 0, 0), 0, 0, []) else TN) else (bif Nat.blt pc 15 then (bif Nat.beq pc 14 then (.iload_n 2, 15, (2, 0, 0), 0, 0, []) else TN) else (bif Nat.beq pc 15 then (.iconst 1, 16, (0, 0, 0), 1, 0, []) else TN))))) else (bif Nat.blt pc 25 then (bif Nat.blt pc 20 then (bif Nat.blt pc 19 then (bif Nat.beq pc 16 then (.if_icmp .ne 17, 19, (33, 0, 0), 0, 0, []) else TN) else (bif Nat.beq pc 19 then (.aload_n 0, 20, (0, 0, 0), 0, 0, []) else TN)) else (bif Nat.blt pc 23 then (bif Nat.beq pc 20 then (.getfield 7, 23, (12, 3, 0), 0, 0, []) else TN) else (bif Nat.blt pc 24 then (bif Nat.beq pc 23 then (.iload_n 1, 24, (1, 0, 0), 0, 0, []) else TN) else (bif Nat.beq pc 24 then (.iaload, 25, (0, 0, 0), 0, 0, []) else TN)))) else (bif Nat.blt pc 30 then (bif Nat.blt pc 26 then (bif Nat.beq pc 25 then (.iconst 2, 26, (0, 0, 0), 2, 0, []) else TN) else (bif Nat.blt pc 29 then (bif Nat.beq pc 26 then (.if_icmp .ne 7, 29, (33, 0, 0), 0, 0, []) else TN) else (bif Nat.beq pc 29 then (.iconst 1, 30, (0, 0, 0), 1, 0, []) else TN))) else (bif Nat.blt pc 33 then (bif Nat.beq pc 30 then (.goto 4, 33, (34, 0, 0), 0, 0, []) else TN) else (bif Nat.blt pc 34 then (bif Nat.beq pc 33 then (.iconst 0, 34, (0, 0, 0), 0, 0, []) else TN) else (bif Nat.beq pc 34 then (.ireturn, 35, (0, 0, 0), 0, 0, []) else TN)))))
def tb_X12_isOfKind (pc : Nat) : TI := bif Nat.ble 35 pc then TN else tt_X12_isOfKind pc
theorem ok_X12_isOfKind : tOK 12 (decide ("isOfKind" = "<init>")) cX12_isOfKind tb_X12_isOfKind := tOK_of 35 tn_of (by decide +kernel)
def f_X12_isOfKind (L : Lay) (σ : Sto) (a0 : Nat) (a1 : Int32) (a2 : Int32) : Option Int32 := (if a2 = 0 then (ckN 1 1).bind fun _ => some 1 else (σ.2.1 a0 3).bind fun x1 => (rI L σ x1 a1).bind fun v2 => (if v2 = a2 then (ckN 1 1).bind fun _ => some 1 else (if a2 = 1 then (σ.2.1 a0 3).bind fun x3 => (rI L σ x3 a1).bind fun v4 => (if v4 = 2 then (ckN 1 1).bind fun _ => some 1 else (ckN 1 0).bind fun _ => some 0) else (ckN 1 0).bind fun _ => some 0)))
def ad_X12_isOfKind : ADT := fun O L σ as k => match as with
  | [.inr (.inr (.inl (ta0, some a0))), .inl a1, .inl a2] => bif Nat.beq ta0 12 && true then (f_X12_isOfKind L σ a0 a1 a2).bind fun r => k (some (vI r)) L σ else none
  | _ => none
abbrev cl_X12_isOfKind {O : Type} : CLT O := cl0
theorem hc_X12_isOfKind (G : GT) (l : Launch) {d : Nat} (hd : 1 ≤ d) {O : Type} : HCL G l (true, true) d (cl_X12_isOfKind (O := O)) := hcl0
theorem rt_X12_isOfKind : retOK (1, 0) (some .boolean) := ⟨fun _ => rfl, fun h => absurd h (by decide), fun h => absurd h (by decide)⟩
set_option maxRecDepth 20000 in
theorem ca_X12_isOfKind (G : GT) (l : Launch) {d : Nat} (hd : 1 ≤ d) : CA G l 159 (true, true) d ad_X12_isOfKind := by
  intro O L σ as k o h hW hok
  unfold ad_X12_isOfKind at h
  split at h
  · obtain ⟨hq0, hA0⟩ := bif_s h
    obtain ⟨e0, hq1⟩ := beq_and hq0
    subst e0
    obtain ⟨r, hr, hk⟩ := Option.bind_eq_some_iff.mp hA0
    exact ca_of (q := (dcPI L σ) r) (by decide) rfl (Nat.le_of_ble_eq_true rfl) hk (fun _ => rfl) (fun _ => rfl) (exs (sp := []) (K := k0) (L0 := L) (σ0 := σ) ok_X12_isOfKind rt_X12_isOfKind (by omega) (hc_X12_isOfKind G l hd) (hrPI rfl rfl) hk0 24 hr (inv0 hW hok))
  · cases h
def tt_X12_isVital (pc : Nat) : TI := bif Nat.blt pc 29 then (bif Nat.blt pc 12 then (bif Nat.blt pc 4 then (bif Nat.blt pc 2 then (bif Nat.blt pc 1 then (bif Nat.beq pc 0 then (.iconst 0, 1, (0, 0, 0), 0, 0, []) else TN) else (bif Nat.beq pc 1 then (.istore_n 2, 2, (2, 0, 0), 0, 0, []) else TN)) else (bif Nat.blt pc 3 then (bif Nat.beq pc 2 then (.iconst 0, 3, (0, 0, 0), 0, 0, []) else TN) else (bif Nat.beq pc 3 then (.istore_n 3, 4, (3, 0, 0), 0, 0, []) else TN))) else (bif Nat.blt pc 6 then (bif Nat.blt pc 5 then (bif Nat.beq pc 4 then (.iload_n 3, 5, (3, 0, 0), 0, 0, []) else TN) else (bif Nat.beq pc 5 then (.aload_n 0, 6, (0, 0, 0), 0, 0, []) else TN)) else (bif Nat.blt pc 9 then (bif Nat.beq pc 6 then (.getfield 150, 9, (12, 4, 0), 0, 0, []) else TN) else (bif Nat.beq pc 9 then (.if_icmp .ge 49, 12, (58, 0, 0), 0, 0, []) else TN)))) else (bif Nat.blt pc 18 then (bif Nat.blt pc 16 then (bif Nat.blt pc 13 then (bif Nat.beq pc 12 then (.iload_n 2, 13, (2, 0, 0), 0, 0, []) else TN) else (bif Nat.beq pc 13 then (.ifCond .ne 33, 16, (46, 0, 0), 0, 0, []) else TN)) else (bif Nat.blt pc 17 then (bif Nat.beq pc 16 then (.aload_n 0, 17, (0, 0, 0), 0, 0, []) else TN) else (bif Nat.beq pc 17 then (.iload_n 1, 18, (1, 0, 0), 0, 0, []) else TN))) else (bif Nat.blt pc 20 then (bif Nat.blt pc 19 then (bif Nat.beq pc 18 then (.iload_n 3, 19, (3, 0, 0), 0, 0, []) else TN) else (bif Nat.beq pc 19 then (.aload_n 0, 20, (0, 0, 0), 0, 0, []) else TN)) else (bif Nat.blt pc 23 then (bif Nat.beq pc 20 then (.getfield 166, 23, (12, 1, 0), 0, 0, []) else TN) else (bif Nat.blt pc 26 then (bif Nat.beq pc 23 then (.invokevirtual 202, 26, (153, 3, 12), 0, 0, []) else TN) else (bif Nat.beq pc 26 then (.ifCond .eq 24, 29, (50, 0, 0), 0, 0, []) else TN)))))) else (bif Nat.blt pc 43 then (bif Nat.blt pc 33 then (bif Nat.blt pc 31 then (bif Nat.blt pc 30 then (bif Nat.beq pc 29 then (.aload_n 0, 30, (0, 0, 0), 0, 0, []) else TN) else (bif Nat.beq pc 30 then (.aload_n 0, 31, (0, 0, 0), 0, 0, []) else TN)) else (bif Nat.blt pc 32 then (bif Nat.beq pc 31 then (.iload_n 3, 32, (3, 0, 0), 0, 0, []) else TN) else (bif Nat.beq pc 32 then (.aload_n 0, 33, (0, 0, 0), 0, 0, []) else TN))) else (bif Nat.blt pc 39 then (bif Nat.blt pc 36 then (bif Nat.beq pc 33 then (.getfield 166, 36, (12, 1, 0), 0, 0, []) else TN) else (bif Nat.beq pc 36 then (.invokevirtual 178, 39, (187, 2, 12), 0, 0, []) else TN)) else (bif Nat.blt pc 40 then (bif Nat.beq pc 39 then (.iconst 1, 40, (0, 0, 0), 1, 0, []) else TN) else (bif Nat.beq pc 40 then (.invokevirtual 162, 43, (159, 2, 12), 0, 0, []) else TN)))) else (bif Nat.blt pc 51 then (bif Nat.blt pc 47 then (bif Nat.blt pc 46 then (bif Nat.beq pc 43 then (.ifCond .eq 7, 46, (50, 0, 0), 0, 0, []) else TN) else (bif Nat.beq pc 46 then (.iconst 1, 47, (0, 0, 0), 1, 0, []) else TN)) else (bif Nat.blt pc 50 then (bif Nat.beq pc 47 then (.goto 4, 50, (51, 0, 0), 0, 0, []) else TN) else (bif Nat.beq pc 50 then (.iconst 0, 51, (0, 0, 0), 0, 0, []) else TN))) else (bif Nat.blt pc 55 then (bif Nat.blt pc 52 then (bif Nat.beq pc 51 then (.istore_n 2, 52, (2, 0, 0), 0, 0, []) else TN) else (bif Nat.beq pc 52 then (.iinc 3 1, 55, (3, 0, 0), 1, 0, []) else TN)) else (bif Nat.blt pc 58 then (bif Nat.beq pc 55 then (.goto (-51), 58, (4, 0, 0), 0, 0, []) else TN) else (bif Nat.blt pc 59 then (bif Nat.beq pc 58 then (.iload_n 2, 59, (2, 0, 0), 0, 0, []) else TN) else (bif Nat.beq pc 59 then (.ireturn, 60, (0, 0, 0), 0, 0, []) else TN))))))
def tb_X12_isVital (pc : Nat) : TI := bif Nat.ble 60 pc then TN else tt_X12_isVital pc
theorem ok_X12_isVital : tOK 12 (decide ("isVital" = "<init>")) cX12_isVital tb_X12_isVital := tOK_of 60 tn_of (by decide +kernel)
def f_X12_isVital_51 (c4 : Lay → Sto → Nat → Int32 → Int32 → Int32 → Option Int32) (L : Lay) (σ : Sto) (a0 : Nat) (a1 : Int32) (a3 : Int32) (s0 : Int32) : Option Int32 := c4 L σ a0 a1 s0 (a3 + 1)
def A_X12_isVital_51 (c : Lay → Sto → Nat → Int32 → Int32 → Int32 → Option Int32) (lc : List (Option AV)) (st : List AV) (L : Lay) (σ : Sto) : Option Int32 := match lc, st with
  | [some (.inr (.inr (.inl (ta0, some a0)))), some (.inl a1), _, some (.inl a3)], [.inl s0] => bif Nat.beq ta0 12 && true then c L σ a0 a1 a3 s0 else none
  | _, _ => none
def f_X12_isVital_46 (c4 : Lay → Sto → Nat → Int32 → Int32 → Int32 → Option Int32) (L : Lay) (σ : Sto) (a0 : Nat) (a1 : Int32) (a3 : Int32) : Option Int32 := (f_X12_isVital_51 c4) L σ a0 a1 a3 1
def A_X12_isVital_46 (c : Lay → Sto → Nat → Int32 → Int32 → Option Int32) (lc : List (Option AV)) (st : List AV) (L : Lay) (σ : Sto) : Option Int32 := match lc, st with
  | [some (.inr (.inr (.inl (ta0, some a0)))), some (.inl a1), _, some (.inl a3)], [] => bif Nat.beq ta0 12 && true then c L σ a0 a1 a3 else none
  | _, _ => none
def f_X12_isVital_50 (c4 : Lay → Sto → Nat → Int32 → Int32 → Int32 → Option Int32) (L : Lay) (σ : Sto) (a0 : Nat) (a1 : Int32) (a3 : Int32) : Option Int32 := (f_X12_isVital_51 c4) L σ a0 a1 a3 0
def A_X12_isVital_50 (c : Lay → Sto → Nat → Int32 → Int32 → Option Int32) (lc : List (Option AV)) (st : List AV) (L : Lay) (σ : Sto) : Option Int32 := match lc, st with
  | [some (.inr (.inr (.inl (ta0, some a0)))), some (.inl a1), _, some (.inl a3)], [] => bif Nat.beq ta0 12 && true then c L σ a0 a1 a3 else none
  | _, _ => none
def f_X12_isVital_4 : Nat → Lay → Sto → Nat → Int32 → Int32 → Int32 → Option Int32
  | 0 => fun _ _ _ _ _ _ => none
  | k + 1 => fun L σ a0 a1 a2 a3 => (if (σ.1 a0 4) ≤ a3 then (ckN 1 a2).bind fun _ => some a2 else (if a2 = 0 then (f_X12_isIn L σ a0 a1 a3 (σ.1 a0 1)).bind fun r1 => (if r1 = 0 then (f_X12_isVital_50 (f_X12_isVital_4 k)) L σ a0 a1 a3 else (f_X12_ofOn L σ a0 a3 (σ.1 a0 1)).bind fun r2 => (f_X12_isOfKind L σ a0 r2 1).bind fun r3 => (if r3 = 0 then (f_X12_isVital_50 (f_X12_isVital_4 k)) L σ a0 a1 a3 else (f_X12_isVital_46 (f_X12_isVital_4 k)) L σ a0 a1 a3)) else (f_X12_isVital_46 (f_X12_isVital_4 k)) L σ a0 a1 a3))
def A_X12_isVital_4 (c : Lay → Sto → Nat → Int32 → Int32 → Int32 → Option Int32) (lc : List (Option AV)) (st : List AV) (L : Lay) (σ : Sto) : Option Int32 := match lc, st with
  | [some (.inr (.inr (.inl (ta0, some a0)))), some (.inl a1), some (.inl a2), some (.inl a3)], [] => bif Nat.beq ta0 12 && true then c L σ a0 a1 a2 a3 else none
  | _, _ => none
def f_X12_isVital (L : Lay) (σ : Sto) (a0 : Nat) (a1 : Int32) : Option Int32 := (f_X12_isVital_4 FU) L σ a0 a1 0 0
def ad_X12_isVital : ADT := fun O L σ as k => match as with
  | [.inr (.inr (.inl (ta0, some a0))), .inl a1] => bif Nat.beq ta0 12 && true then (f_X12_isVital L σ a0 a1).bind fun r => k (some (vI r)) L σ else none
  | _ => none
abbrev cl_X12_isVital {O : Type} : CLT O := (clc 153 ad_X12_isIn (clc 187 ad_X12_ofOn (clc 159 ad_X12_isOfKind cl0)))
theorem hc_X12_isVital (G : GT) (l : Launch) {d : Nat} (hd : 3 ≤ d) {O : Type} : HCL G l (true, true) d (cl_X12_isVital (O := O)) := (hclc (ca_X12_isIn G l (d := 2) (Nat.le_refl _)) (fun _ => rfl) (fun _ => rfl) (by omega) (hclc (ca_X12_ofOn G l (d := 1) (Nat.le_refl _)) (fun _ => rfl) (fun _ => rfl) (by omega) (hclc (ca_X12_isOfKind G l (d := 1) (Nat.le_refl _)) (fun _ => rfl) (fun _ => rfl) (by omega) hcl0)))
theorem rt_X12_isVital : retOK (1, 0) (some .boolean) := ⟨fun _ => rfl, fun h => absurd h (by decide), fun h => absurd h (by decide)⟩
set_option maxRecDepth 20000 in
theorem b_X12_isVital_51 {G : GT} {l : Launch} {d : Nat} {L0 : Lay} {σ0 : Sto} (hd : 3 ≤ d) {c4 : Lay → Sto → Nat → Int32 → Int32 → Int32 → Option Int32} (h4 : HF G l 12 "isVital" cX12_isVital 4 (some .boolean) d L0 σ0 (true, true) (dcPI L0 σ0) 4 (A_X12_isVital_4 c4)) : HF G l 12 "isVital" cX12_isVital 4 (some .boolean) d L0 σ0 (true, true) (dcPI L0 σ0) 51 (A_X12_isVital_51 (f_X12_isVital_51 c4)) := by
  intro lc st L σ o h hI
  unfold A_X12_isVital_51 at h
  split at h
  · obtain ⟨hq0, hA1⟩ := bif_s h
    obtain ⟨e0, hq1⟩ := beq_and hq0
    subst e0
    exact exs (sp := [4]) (K := (kc 4 (A_X12_isVital_4 c4) k0)) ok_X12_isVital rt_X12_isVital (by omega) (hc_X12_isVital G l hd) (hrPI rfl rfl) (hkc h4 hk0) 37 hA1 hI
  · cases h
set_option maxRecDepth 20000 in
theorem b_X12_isVital_46 {G : GT} {l : Launch} {d : Nat} {L0 : Lay} {σ0 : Sto} (hd : 3 ≤ d) {c4 : Lay → Sto → Nat → Int32 → Int32 → Int32 → Option Int32} (h4 : HF G l 12 "isVital" cX12_isVital 4 (some .boolean) d L0 σ0 (true, true) (dcPI L0 σ0) 4 (A_X12_isVital_4 c4)) : HF G l 12 "isVital" cX12_isVital 4 (some .boolean) d L0 σ0 (true, true) (dcPI L0 σ0) 46 (A_X12_isVital_46 (f_X12_isVital_46 c4)) := by
  intro lc st L σ o h hI
  unfold A_X12_isVital_46 at h
  split at h
  · obtain ⟨hq0, hA1⟩ := bif_s h
    obtain ⟨e0, hq1⟩ := beq_and hq0
    subst e0
    exact exs (sp := [51]) (K := (kc 51 (A_X12_isVital_51 (f_X12_isVital_51 c4)) k0)) ok_X12_isVital rt_X12_isVital (by omega) (hc_X12_isVital G l hd) (hrPI rfl rfl) (hkc (b_X12_isVital_51 hd h4) hk0) 37 hA1 hI
  · cases h
set_option maxRecDepth 20000 in
theorem b_X12_isVital_50 {G : GT} {l : Launch} {d : Nat} {L0 : Lay} {σ0 : Sto} (hd : 3 ≤ d) {c4 : Lay → Sto → Nat → Int32 → Int32 → Int32 → Option Int32} (h4 : HF G l 12 "isVital" cX12_isVital 4 (some .boolean) d L0 σ0 (true, true) (dcPI L0 σ0) 4 (A_X12_isVital_4 c4)) : HF G l 12 "isVital" cX12_isVital 4 (some .boolean) d L0 σ0 (true, true) (dcPI L0 σ0) 50 (A_X12_isVital_50 (f_X12_isVital_50 c4)) := by
  intro lc st L σ o h hI
  unfold A_X12_isVital_50 at h
  split at h
  · obtain ⟨hq0, hA1⟩ := bif_s h
    obtain ⟨e0, hq1⟩ := beq_and hq0
    subst e0
    exact exs (sp := [51]) (K := (kc 51 (A_X12_isVital_51 (f_X12_isVital_51 c4)) k0)) ok_X12_isVital rt_X12_isVital (by omega) (hc_X12_isVital G l hd) (hrPI rfl rfl) (hkc (b_X12_isVital_51 hd h4) hk0) 37 hA1 hI
  · cases h
set_option maxRecDepth 20000 in
theorem b_X12_isVital_4 {G : GT} {l : Launch} {d : Nat} {L0 : Lay} {σ0 : Sto} (hd : 3 ≤ d) : ∀ k : Nat, HF G l 12 "isVital" cX12_isVital 4 (some .boolean) d L0 σ0 (true, true) (dcPI L0 σ0) 4 (A_X12_isVital_4 (f_X12_isVital_4 k))
  | 0 => by
    intro lc st L σ o h hI
    unfold A_X12_isVital_4 at h
    split at h
    · obtain ⟨_, hA1⟩ := bif_s h
      cases hA1
    · cases h
  | k + 1 => by
    have ih := b_X12_isVital_4 (G := G) (l := l) (d := d) (L0 := L0) (σ0 := σ0) hd k
    intro lc st L σ o h hI
    unfold A_X12_isVital_4 at h
    split at h
    · obtain ⟨hq0, hA1⟩ := bif_s h
      obtain ⟨e0, hq1⟩ := beq_and hq0
      subst e0
      exact exs (sp := [46, 50]) (K := (kc 46 (A_X12_isVital_46 (f_X12_isVital_46 (f_X12_isVital_4 k))) (kc 50 (A_X12_isVital_50 (f_X12_isVital_50 (f_X12_isVital_4 k))) k0))) ok_X12_isVital rt_X12_isVital (by omega) (hc_X12_isVital G l hd) (hrPI rfl rfl) (hkc (b_X12_isVital_46 hd ih) (hkc (b_X12_isVital_50 hd ih) hk0)) 37 hA1 hI
    · cases h
set_option maxRecDepth 20000 in
theorem ca_X12_isVital (G : GT) (l : Launch) {d : Nat} (hd : 3 ≤ d) : CA G l 164 (true, true) d ad_X12_isVital := by
  intro O L σ as k o h hW hok
  unfold ad_X12_isVital at h
  split at h
  · obtain ⟨hq0, hA0⟩ := bif_s h
    obtain ⟨e0, hq1⟩ := beq_and hq0
    subst e0
    obtain ⟨r, hr, hk⟩ := Option.bind_eq_some_iff.mp hA0
    exact ca_of (q := (dcPI L σ) r) (by decide) rfl (Nat.le_of_ble_eq_true rfl) hk (fun _ => rfl) (fun _ => rfl) (exs (sp := [4]) (K := (kc 4 (A_X12_isVital_4 (f_X12_isVital_4 FU)) k0)) (L0 := L) (σ0 := σ) ok_X12_isVital rt_X12_isVital (by omega) (hc_X12_isVital G l hd) (hrPI rfl rfl) (hkc (b_X12_isVital_4 hd FU) hk0) 37 hr (inv0 hW hok))
  · cases h
def tt_X12_harmOf (pc : Nat) : TI := bif Nat.blt pc 16 then (bif Nat.blt pc 7 then (bif Nat.blt pc 3 then (bif Nat.blt pc 1 then (bif Nat.beq pc 0 then (.iconst 0, 1, (0, 0, 0), 0, 0, []) else TN) else (bif Nat.blt pc 2 then (bif Nat.beq pc 1 then (.istore_n 2, 2, (2, 0, 0), 0, 0, []) else TN) else (bif Nat.beq pc 2 then (.iconst 0, 3, (0, 0, 0), 0, 0, []) else TN))) else (bif Nat.blt pc 4 then (bif Nat.beq pc 3 then (.istore_n 3, 4, (3, 0, 0), 0, 0, []) else TN) else (bif Nat.blt pc 5 then (bif Nat.beq pc 4 then (.iload_n 3, 5, (3, 0, 0), 0, 0, []) else TN) else (bif Nat.beq pc 5 then (.bipush 12, 7, (0, 0, 0), 12, 0, []) else TN)))) else (bif Nat.blt pc 12 then (bif Nat.blt pc 10 then (bif Nat.beq pc 7 then (.if_icmp .ge 31, 10, (38, 0, 0), 0, 0, []) else TN) else (bif Nat.blt pc 11 then (bif Nat.beq pc 10 then (.iload_n 2, 11, (2, 0, 0), 0, 0, []) else TN) else (bif Nat.beq pc 11 then (.iload_n 1, 12, (1, 0, 0), 0, 0, []) else TN))) else (bif Nat.blt pc 14 then (bif Nat.blt pc 13 then (bif Nat.beq pc 12 then (.iload_n 3, 13, (3, 0, 0), 0, 0, []) else TN) else (bif Nat.beq pc 13 then (.ishr, 14, (0, 0, 0), 0, 0, []) else TN)) else (bif Nat.blt pc 15 then (bif Nat.beq pc 14 then (.iconst 1, 15, (0, 0, 0), 1, 0, []) else TN) else (bif Nat.beq pc 15 then (.iand, 16, (0, 0, 0), 0, 0, []) else TN))))) else (bif Nat.blt pc 29 then (bif Nat.blt pc 21 then (bif Nat.blt pc 17 then (bif Nat.beq pc 16 then (.iconst 1, 17, (0, 0, 0), 1, 0, []) else TN) else (bif Nat.blt pc 20 then (bif Nat.beq pc 17 then (.if_icmp .ne 12, 20, (29, 0, 0), 0, 0, []) else TN) else (bif Nat.beq pc 20 then (.aload_n 0, 21, (0, 0, 0), 0, 0, []) else TN))) else (bif Nat.blt pc 25 then (bif Nat.blt pc 24 then (bif Nat.beq pc 21 then (.getfield 85, 24, (12, 35, 0), 0, 0, []) else TN) else (bif Nat.beq pc 24 then (.iload_n 3, 25, (3, 0, 0), 0, 0, []) else TN)) else (bif Nat.blt pc 26 then (bif Nat.beq pc 25 then (.iaload, 26, (0, 0, 0), 0, 0, []) else TN) else (bif Nat.beq pc 26 then (.goto 4, 29, (30, 0, 0), 0, 0, []) else TN)))) else (bif Nat.blt pc 32 then (bif Nat.blt pc 30 then (bif Nat.beq pc 29 then (.iconst 0, 30, (0, 0, 0), 0, 0, []) else TN) else (bif Nat.blt pc 31 then (bif Nat.beq pc 30 then (.iadd, 31, (0, 0, 0), 0, 0, []) else TN) else (bif Nat.beq pc 31 then (.istore_n 2, 32, (2, 0, 0), 0, 0, []) else TN))) else (bif Nat.blt pc 38 then (bif Nat.blt pc 35 then (bif Nat.beq pc 32 then (.iinc 3 1, 35, (3, 0, 0), 1, 0, []) else TN) else (bif Nat.beq pc 35 then (.goto (-31), 38, (4, 0, 0), 0, 0, []) else TN)) else (bif Nat.blt pc 39 then (bif Nat.beq pc 38 then (.iload_n 2, 39, (2, 0, 0), 0, 0, []) else TN) else (bif Nat.beq pc 39 then (.ireturn, 40, (0, 0, 0), 0, 0, []) else TN)))))
def tb_X12_harmOf (pc : Nat) : TI := bif Nat.ble 40 pc then TN else tt_X12_harmOf pc
theorem ok_X12_harmOf : tOK 12 (decide ("harmOf" = "<init>")) cX12_harmOf tb_X12_harmOf := tOK_of 40 tn_of (by decide +kernel)
def f_X12_harmOf_30 (c4 : Lay → Sto → Nat → Int32 → Int32 → Int32 → Option Int32) (L : Lay) (σ : Sto) (a0 : Nat) (a1 : Int32) (a3 : Int32) (s0 : Int32) (s1 : Int32) : Option Int32 := c4 L σ a0 a1 (s1 + s0) (a3 + 1)
def A_X12_harmOf_30 (c : Lay → Sto → Nat → Int32 → Int32 → Int32 → Int32 → Option Int32) (lc : List (Option AV)) (st : List AV) (L : Lay) (σ : Sto) : Option Int32 := match lc, st with
  | [some (.inr (.inr (.inl (ta0, some a0)))), some (.inl a1), _, some (.inl a3)], [.inl s0, .inl s1] => bif Nat.beq ta0 12 && true then c L σ a0 a1 a3 s0 s1 else none
  | _, _ => none
def f_X12_harmOf_4 : Nat → Lay → Sto → Nat → Int32 → Int32 → Int32 → Option Int32
  | 0 => fun _ _ _ _ _ _ => none
  | k + 1 => fun L σ a0 a1 a2 a3 => (if 12 ≤ a3 then some a2 else (if ((a1 >>> (a3 &&& 31)) &&& 1) = 1 then (σ.2.1 a0 35).bind fun x1 => (rI L σ x1 a3).bind fun v2 => (f_X12_harmOf_30 (f_X12_harmOf_4 k)) L σ a0 a1 a3 v2 a2 else (f_X12_harmOf_30 (f_X12_harmOf_4 k)) L σ a0 a1 a3 0 a2))
def A_X12_harmOf_4 (c : Lay → Sto → Nat → Int32 → Int32 → Int32 → Option Int32) (lc : List (Option AV)) (st : List AV) (L : Lay) (σ : Sto) : Option Int32 := match lc, st with
  | [some (.inr (.inr (.inl (ta0, some a0)))), some (.inl a1), some (.inl a2), some (.inl a3)], [] => bif Nat.beq ta0 12 && true then c L σ a0 a1 a2 a3 else none
  | _, _ => none
def f_X12_harmOf (L : Lay) (σ : Sto) (a0 : Nat) (a1 : Int32) : Option Int32 := (f_X12_harmOf_4 FU) L σ a0 a1 0 0
def ad_X12_harmOf : ADT := fun O L σ as k => match as with
  | [.inr (.inr (.inl (ta0, some a0))), .inl a1] => bif Nat.beq ta0 12 && true then (f_X12_harmOf L σ a0 a1).bind fun r => k (some (vI r)) L σ else none
  | _ => none
abbrev cl_X12_harmOf {O : Type} : CLT O := cl0
theorem hc_X12_harmOf (G : GT) (l : Launch) {d : Nat} (hd : 1 ≤ d) {O : Type} : HCL G l (true, true) d (cl_X12_harmOf (O := O)) := hcl0
theorem rt_X12_harmOf : retOK (0, 0) (some .int) := ⟨fun _ => rfl, fun h => absurd h (by decide), fun h => absurd h (by decide)⟩
set_option maxRecDepth 20000 in
theorem b_X12_harmOf_30 {G : GT} {l : Launch} {d : Nat} {L0 : Lay} {σ0 : Sto} (hd : 1 ≤ d) {c4 : Lay → Sto → Nat → Int32 → Int32 → Int32 → Option Int32} (h4 : HF G l 12 "harmOf" cX12_harmOf 4 (some .int) d L0 σ0 (true, true) (dcPI L0 σ0) 4 (A_X12_harmOf_4 c4)) : HF G l 12 "harmOf" cX12_harmOf 4 (some .int) d L0 σ0 (true, true) (dcPI L0 σ0) 30 (A_X12_harmOf_30 (f_X12_harmOf_30 c4)) := by
  intro lc st L σ o h hI
  unfold A_X12_harmOf_30 at h
  split at h
  · obtain ⟨hq0, hA1⟩ := bif_s h
    obtain ⟨e0, hq1⟩ := beq_and hq0
    subst e0
    exact exs (sp := [4]) (K := (kc 4 (A_X12_harmOf_4 c4) k0)) ok_X12_harmOf rt_X12_harmOf (by omega) (hc_X12_harmOf G l hd) (hrPI rfl rfl) (hkc h4 hk0) 30 hA1 hI
  · cases h
set_option maxRecDepth 20000 in
theorem b_X12_harmOf_4 {G : GT} {l : Launch} {d : Nat} {L0 : Lay} {σ0 : Sto} (hd : 1 ≤ d) : ∀ k : Nat, HF G l 12 "harmOf" cX12_harmOf 4 (some .int) d L0 σ0 (true, true) (dcPI L0 σ0) 4 (A_X12_harmOf_4 (f_X12_harmOf_4 k))
  | 0 => by
    intro lc st L σ o h hI
    unfold A_X12_harmOf_4 at h
    split at h
    · obtain ⟨_, hA1⟩ := bif_s h
      cases hA1
    · cases h
  | k + 1 => by
    have ih := b_X12_harmOf_4 (G := G) (l := l) (d := d) (L0 := L0) (σ0 := σ0) hd k
    intro lc st L σ o h hI
    unfold A_X12_harmOf_4 at h
    split at h
    · obtain ⟨hq0, hA1⟩ := bif_s h
      obtain ⟨e0, hq1⟩ := beq_and hq0
      subst e0
      exact exs (sp := [30]) (K := (kc 30 (A_X12_harmOf_30 (f_X12_harmOf_30 (f_X12_harmOf_4 k))) k0)) ok_X12_harmOf rt_X12_harmOf (by omega) (hc_X12_harmOf G l hd) (hrPI rfl rfl) (hkc (b_X12_harmOf_30 hd ih) hk0) 30 hA1 hI
    · cases h
set_option maxRecDepth 20000 in
theorem ca_X12_harmOf (G : GT) (l : Launch) {d : Nat} (hd : 1 ≤ d) : CA G l 144 (true, true) d ad_X12_harmOf := by
  intro O L σ as k o h hW hok
  unfold ad_X12_harmOf at h
  split at h
  · obtain ⟨hq0, hA0⟩ := bif_s h
    obtain ⟨e0, hq1⟩ := beq_and hq0
    subst e0
    obtain ⟨r, hr, hk⟩ := Option.bind_eq_some_iff.mp hA0
    exact ca_of (q := (dcPI L σ) r) (by decide) rfl (Nat.le_of_ble_eq_true rfl) hk (fun _ => rfl) (fun _ => rfl) (exs (sp := [4]) (K := (kc 4 (A_X12_harmOf_4 (f_X12_harmOf_4 FU)) k0)) (L0 := L) (σ0 := σ) ok_X12_harmOf rt_X12_harmOf (by omega) (hc_X12_harmOf G l hd) (hrPI rfl rfl) (hkc (b_X12_harmOf_4 hd FU) hk0) 30 hr (inv0 hW hok))
  · cases h
def tt_X12_many (pc : Nat) : TI := bif Nat.blt pc 12 then (bif Nat.blt pc 4 then (bif Nat.blt pc 2 then (bif Nat.blt pc 1 then (bif Nat.beq pc 0 then (.iconst 0, 1, (0, 0, 0), 0, 0, []) else TN) else (bif Nat.beq pc 1 then (.istore_n 1, 2, (1, 0, 0), 0, 0, []) else TN)) else (bif Nat.blt pc 3 then (bif Nat.beq pc 2 then (.iconst 0, 3, (0, 0, 0), 0, 0, []) else TN) else (bif Nat.beq pc 3 then (.istore_n 2, 4, (2, 0, 0), 0, 0, []) else TN))) else (bif Nat.blt pc 7 then (bif Nat.blt pc 5 then (bif Nat.beq pc 4 then (.iload_n 2, 5, (2, 0, 0), 0, 0, []) else TN) else (bif Nat.beq pc 5 then (.bipush 12, 7, (0, 0, 0), 12, 0, []) else TN)) else (bif Nat.blt pc 10 then (bif Nat.beq pc 7 then (.if_icmp .ge 17, 10, (24, 0, 0), 0, 0, []) else TN) else (bif Nat.blt pc 11 then (bif Nat.beq pc 10 then (.iload_n 1, 11, (1, 0, 0), 0, 0, []) else TN) else (bif Nat.beq pc 11 then (.iload_n 0, 12, (0, 0, 0), 0, 0, []) else TN))))) else (bif Nat.blt pc 17 then (bif Nat.blt pc 14 then (bif Nat.blt pc 13 then (bif Nat.beq pc 12 then (.iload_n 2, 13, (2, 0, 0), 0, 0, []) else TN) else (bif Nat.beq pc 13 then (.ishr, 14, (0, 0, 0), 0, 0, []) else TN)) else (bif Nat.blt pc 15 then (bif Nat.beq pc 14 then (.iconst 1, 15, (0, 0, 0), 1, 0, []) else TN) else (bif Nat.blt pc 16 then (bif Nat.beq pc 15 then (.iand, 16, (0, 0, 0), 0, 0, []) else TN) else (bif Nat.beq pc 16 then (.iadd, 17, (0, 0, 0), 0, 0, []) else TN)))) else (bif Nat.blt pc 21 then (bif Nat.blt pc 18 then (bif Nat.beq pc 17 then (.istore_n 1, 18, (1, 0, 0), 0, 0, []) else TN) else (bif Nat.beq pc 18 then (.iinc 2 1, 21, (2, 0, 0), 1, 0, []) else TN)) else (bif Nat.blt pc 24 then (bif Nat.beq pc 21 then (.goto (-17), 24, (4, 0, 0), 0, 0, []) else TN) else (bif Nat.blt pc 25 then (bif Nat.beq pc 24 then (.iload_n 1, 25, (1, 0, 0), 0, 0, []) else TN) else (bif Nat.beq pc 25 then (.ireturn, 26, (0, 0, 0), 0, 0, []) else TN)))))
def tb_X12_many (pc : Nat) : TI := bif Nat.ble 26 pc then TN else tt_X12_many pc
theorem ok_X12_many : tOK 12 (decide ("many" = "<init>")) cX12_many tb_X12_many := tOK_of 26 tn_of (by decide +kernel)
def f_X12_many_4 : Nat → Lay → Sto → Int32 → Int32 → Int32 → Option Int32
  | 0 => fun _ _ _ _ _ => none
  | k + 1 => fun L σ a0 a1 a2 => (if 12 ≤ a2 then some a1 else (f_X12_many_4 k) L σ a0 (a1 + ((a0 >>> (a2 &&& 31)) &&& 1)) (a2 + 1))
def A_X12_many_4 (c : Lay → Sto → Int32 → Int32 → Int32 → Option Int32) (lc : List (Option AV)) (st : List AV) (L : Lay) (σ : Sto) : Option Int32 := match lc, st with
  | [some (.inl a0), some (.inl a1), some (.inl a2)], [] => c L σ a0 a1 a2
  | _, _ => none
def f_X12_many (L : Lay) (σ : Sto) (a0 : Int32) : Option Int32 := (f_X12_many_4 FU) L σ a0 0 0
def ad_X12_many : ADT := fun O L σ as k => match as with
  | [.inl a0] => (f_X12_many L σ a0).bind fun r => k (some (vI r)) L σ
  | _ => none
abbrev cl_X12_many {O : Type} : CLT O := cl0
theorem hc_X12_many (G : GT) (l : Launch) {d : Nat} (hd : 1 ≤ d) {O : Type} : HCL G l (true, true) d (cl_X12_many (O := O)) := hcl0
theorem rt_X12_many : retOK (0, 0) (some .int) := ⟨fun _ => rfl, fun h => absurd h (by decide), fun h => absurd h (by decide)⟩
set_option maxRecDepth 20000 in
theorem b_X12_many_4 {G : GT} {l : Launch} {d : Nat} {L0 : Lay} {σ0 : Sto} (hd : 1 ≤ d) : ∀ k : Nat, HF G l 12 "many" cX12_many 3 (some .int) d L0 σ0 (true, true) (dcPI L0 σ0) 4 (A_X12_many_4 (f_X12_many_4 k))
  | 0 => by
    intro lc st L σ o h hI
    unfold A_X12_many_4 at h
    split at h
    · cases h
    · cases h
  | k + 1 => by
    have ih := b_X12_many_4 (G := G) (l := l) (d := d) (L0 := L0) (σ0 := σ0) hd k
    intro lc st L σ o h hI
    unfold A_X12_many_4 at h
    split at h
    · have hA0 := h
      exact exs (sp := [4]) (K := (kc 4 (A_X12_many_4 (f_X12_many_4 k)) k0)) ok_X12_many rt_X12_many (by omega) (hc_X12_many G l hd) (hrPI rfl rfl) (hkc ih hk0) 22 hA0 hI
    · cases h
set_option maxRecDepth 20000 in
theorem ca_X12_many (G : GT) (l : Launch) {d : Nat} (hd : 1 ≤ d) : CA G l 176 (true, true) d ad_X12_many := by
  intro O L σ as k o h hW hok
  unfold ad_X12_many at h
  split at h
  · have hA0 := h
    obtain ⟨r, hr, hk⟩ := Option.bind_eq_some_iff.mp hA0
    exact ca_of (q := (dcPI L σ) r) (by decide) rfl (Nat.le_of_ble_eq_true rfl) hk (fun _ => rfl) (fun _ => rfl) (exs (sp := [4]) (K := (kc 4 (A_X12_many_4 (f_X12_many_4 FU)) k0)) (L0 := L) (σ0 := σ) ok_X12_many rt_X12_many (by omega) (hc_X12_many G l hd) (hrPI rfl rfl) (hkc (b_X12_many_4 hd FU) hk0) 22 hr (inv0 hW hok))
  · cases h
def tt_X12_canBe (pc : Nat) : TI := bif Nat.blt pc 22 then (bif Nat.blt pc 12 then (bif Nat.blt pc 4 then (bif Nat.blt pc 1 then (bif Nat.beq pc 0 then (.iconst 0, 1, (0, 0, 0), 0, 0, []) else TN) else (bif Nat.blt pc 3 then (bif Nat.beq pc 1 then (.istore 4, 3, (4, 0, 0), 0, 0, []) else TN) else (bif Nat.beq pc 3 then (.iconst 0, 4, (0, 0, 0), 0, 0, []) else TN))) else (bif Nat.blt pc 8 then (bif Nat.blt pc 6 then (bif Nat.beq pc 4 then (.istore 5, 6, (5, 0, 0), 0, 0, []) else TN) else (bif Nat.beq pc 6 then (.iload 5, 8, (5, 0, 0), 0, 0, []) else TN)) else (bif Nat.blt pc 9 then (bif Nat.beq pc 8 then (.iload_n 2, 9, (2, 0, 0), 0, 0, []) else TN) else (bif Nat.beq pc 9 then (.if_icmp .ge 37, 12, (46, 0, 0), 0, 0, []) else TN)))) else (bif Nat.blt pc 16 then (bif Nat.blt pc 13 then (bif Nat.beq pc 12 then (.iload_n 1, 13, (1, 0, 0), 0, 0, []) else TN) else (bif Nat.blt pc 15 then (bif Nat.beq pc 13 then (.iload 5, 15, (5, 0, 0), 0, 0, []) else TN) else (bif Nat.beq pc 15 then (.ishr, 16, (0, 0, 0), 0, 0, []) else TN))) else (bif Nat.blt pc 18 then (bif Nat.blt pc 17 then (bif Nat.beq pc 16 then (.iconst 1, 17, (0, 0, 0), 1, 0, []) else TN) else (bif Nat.beq pc 17 then (.iand, 18, (0, 0, 0), 0, 0, []) else TN)) else (bif Nat.blt pc 19 then (bif Nat.beq pc 18 then (.iconst 1, 19, (0, 0, 0), 1, 0, []) else TN) else (bif Nat.beq pc 19 then (.if_icmp .ne 10, 22, (29, 0, 0), 0, 0, []) else TN))))) else (bif Nat.blt pc 34 then (bif Nat.blt pc 26 then (bif Nat.blt pc 24 then (bif Nat.beq pc 22 then (.iload 4, 24, (4, 0, 0), 0, 0, []) else TN) else (bif Nat.blt pc 25 then (bif Nat.beq pc 24 then (.iconst 1, 25, (0, 0, 0), 1, 0, []) else TN) else (bif Nat.beq pc 25 then (.iadd, 26, (0, 0, 0), 0, 0, []) else TN))) else (bif Nat.blt pc 30 then (bif Nat.blt pc 29 then (bif Nat.beq pc 26 then (.goto 4, 29, (30, 0, 0), 0, 0, []) else TN) else (bif Nat.beq pc 29 then (.iconst 0, 30, (0, 0, 0), 0, 0, []) else TN)) else (bif Nat.blt pc 32 then (bif Nat.beq pc 30 then (.istore 4, 32, (4, 0, 0), 0, 0, []) else TN) else (bif Nat.beq pc 32 then (.iload 4, 34, (4, 0, 0), 0, 0, []) else TN)))) else (bif Nat.blt pc 40 then (bif Nat.blt pc 38 then (bif Nat.blt pc 35 then (bif Nat.beq pc 34 then (.iload_n 3, 35, (3, 0, 0), 0, 0, []) else TN) else (bif Nat.beq pc 35 then (.if_icmp .le 5, 38, (40, 0, 0), 0, 0, []) else TN)) else (bif Nat.blt pc 39 then (bif Nat.beq pc 38 then (.iconst 0, 39, (0, 0, 0), 0, 0, []) else TN) else (bif Nat.beq pc 39 then (.ireturn, 40, (0, 0, 0), 0, 0, []) else TN))) else (bif Nat.blt pc 46 then (bif Nat.blt pc 43 then (bif Nat.beq pc 40 then (.iinc 5 1, 43, (5, 0, 0), 1, 0, []) else TN) else (bif Nat.beq pc 43 then (.goto (-37), 46, (6, 0, 0), 0, 0, []) else TN)) else (bif Nat.blt pc 47 then (bif Nat.beq pc 46 then (.iconst 1, 47, (0, 0, 0), 1, 0, []) else TN) else (bif Nat.beq pc 47 then (.ireturn, 48, (0, 0, 0), 0, 0, []) else TN)))))
def tb_X12_canBe (pc : Nat) : TI := bif Nat.ble 48 pc then TN else tt_X12_canBe pc
theorem ok_X12_canBe : tOK 12 (decide ("canBe" = "<init>")) cX12_canBe tb_X12_canBe := tOK_of 48 tn_of (by decide +kernel)
def f_X12_canBe_30 (c6 : Lay → Sto → Int32 → Int32 → Int32 → Int32 → Int32 → Option Int32) (L : Lay) (σ : Sto) (a1 : Int32) (a2 : Int32) (a3 : Int32) (a5 : Int32) (s0 : Int32) : Option Int32 := (if s0 ≤ a3 then c6 L σ a1 a2 a3 s0 (a5 + 1) else (ckN 1 0).bind fun _ => some 0)
def A_X12_canBe_30 (c : Lay → Sto → Int32 → Int32 → Int32 → Int32 → Int32 → Option Int32) (lc : List (Option AV)) (st : List AV) (L : Lay) (σ : Sto) : Option Int32 := match lc, st with
  | [_, some (.inl a1), some (.inl a2), some (.inl a3), _, some (.inl a5)], [.inl s0] => c L σ a1 a2 a3 a5 s0
  | _, _ => none
def f_X12_canBe_6 : Nat → Lay → Sto → Int32 → Int32 → Int32 → Int32 → Int32 → Option Int32
  | 0 => fun _ _ _ _ _ _ _ => none
  | k + 1 => fun L σ a1 a2 a3 a4 a5 => (if a2 ≤ a5 then (ckN 1 1).bind fun _ => some 1 else (if ((a1 >>> (a5 &&& 31)) &&& 1) = 1 then (f_X12_canBe_30 (f_X12_canBe_6 k)) L σ a1 a2 a3 a5 (a4 + 1) else (f_X12_canBe_30 (f_X12_canBe_6 k)) L σ a1 a2 a3 a5 0))
def A_X12_canBe_6 (c : Lay → Sto → Int32 → Int32 → Int32 → Int32 → Int32 → Option Int32) (lc : List (Option AV)) (st : List AV) (L : Lay) (σ : Sto) : Option Int32 := match lc, st with
  | [_, some (.inl a1), some (.inl a2), some (.inl a3), some (.inl a4), some (.inl a5)], [] => c L σ a1 a2 a3 a4 a5
  | _, _ => none
def f_X12_canBe (L : Lay) (σ : Sto) (a0 : Nat) (a1 : Int32) (a2 : Int32) (a3 : Int32) : Option Int32 := (f_X12_canBe_6 FU) L σ a1 a2 a3 0 0
def ad_X12_canBe : ADT := fun O L σ as k => match as with
  | [.inr (.inr (.inl (ta0, some a0))), .inl a1, .inl a2, .inl a3] => bif Nat.beq ta0 12 && true then (f_X12_canBe L σ a0 a1 a2 a3).bind fun r => k (some (vI r)) L σ else none
  | _ => none
abbrev cl_X12_canBe {O : Type} : CLT O := cl0
theorem hc_X12_canBe (G : GT) (l : Launch) {d : Nat} (hd : 1 ≤ d) {O : Type} : HCL G l (true, true) d (cl_X12_canBe (O := O)) := hcl0
theorem rt_X12_canBe : retOK (1, 0) (some .boolean) := ⟨fun _ => rfl, fun h => absurd h (by decide), fun h => absurd h (by decide)⟩
set_option maxRecDepth 20000 in
theorem b_X12_canBe_30 {G : GT} {l : Launch} {d : Nat} {L0 : Lay} {σ0 : Sto} (hd : 1 ≤ d) {c6 : Lay → Sto → Int32 → Int32 → Int32 → Int32 → Int32 → Option Int32} (h6 : HF G l 12 "canBe" cX12_canBe 6 (some .boolean) d L0 σ0 (true, true) (dcPI L0 σ0) 6 (A_X12_canBe_6 c6)) : HF G l 12 "canBe" cX12_canBe 6 (some .boolean) d L0 σ0 (true, true) (dcPI L0 σ0) 30 (A_X12_canBe_30 (f_X12_canBe_30 c6)) := by
  intro lc st L σ o h hI
  unfold A_X12_canBe_30 at h
  split at h
  · have hA0 := h
    exact exs (sp := [6]) (K := (kc 6 (A_X12_canBe_6 c6) k0)) ok_X12_canBe rt_X12_canBe (by omega) (hc_X12_canBe G l hd) (hrPI rfl rfl) (hkc h6 hk0) 32 hA0 hI
  · cases h
set_option maxRecDepth 20000 in
theorem b_X12_canBe_6 {G : GT} {l : Launch} {d : Nat} {L0 : Lay} {σ0 : Sto} (hd : 1 ≤ d) : ∀ k : Nat, HF G l 12 "canBe" cX12_canBe 6 (some .boolean) d L0 σ0 (true, true) (dcPI L0 σ0) 6 (A_X12_canBe_6 (f_X12_canBe_6 k))
  | 0 => by
    intro lc st L σ o h hI
    unfold A_X12_canBe_6 at h
    split at h
    · cases h
    · cases h
  | k + 1 => by
    have ih := b_X12_canBe_6 (G := G) (l := l) (d := d) (L0 := L0) (σ0 := σ0) hd k
    intro lc st L σ o h hI
    unfold A_X12_canBe_6 at h
    split at h
    · have hA0 := h
      exact exs (sp := [30]) (K := (kc 30 (A_X12_canBe_30 (f_X12_canBe_30 (f_X12_canBe_6 k))) k0)) ok_X12_canBe rt_X12_canBe (by omega) (hc_X12_canBe G l hd) (hrPI rfl rfl) (hkc (b_X12_canBe_30 hd ih) hk0) 32 hA0 hI
    · cases h
set_option maxRecDepth 20000 in
theorem ca_X12_canBe (G : GT) (l : Launch) {d : Nat} (hd : 1 ≤ d) : CA G l 128 (true, true) d ad_X12_canBe := by
  intro O L σ as k o h hW hok
  unfold ad_X12_canBe at h
  split at h
  · obtain ⟨hq0, hA0⟩ := bif_s h
    obtain ⟨e0, hq1⟩ := beq_and hq0
    subst e0
    obtain ⟨r, hr, hk⟩ := Option.bind_eq_some_iff.mp hA0
    exact ca_of (q := (dcPI L σ) r) (by decide) rfl (Nat.le_of_ble_eq_true rfl) hk (fun _ => rfl) (fun _ => rfl) (exs (sp := [6]) (K := (kc 6 (A_X12_canBe_6 (f_X12_canBe_6 FU)) k0)) (L0 := L) (σ0 := σ) ok_X12_canBe rt_X12_canBe (by omega) (hc_X12_canBe G l hd) (hrPI rfl rfl) (hkc (b_X12_canBe_6 hd FU) hk0) 32 hr (inv0 hW hok))
  · cases h
def tt_X12_fundBehind (pc : Nat) : TI := bif Nat.blt pc 30 then (bif Nat.blt pc 14 then (bif Nat.blt pc 6 then (bif Nat.blt pc 4 then (bif Nat.blt pc 1 then (bif Nat.beq pc 0 then (.aload_n 0, 1, (0, 0, 0), 0, 0, []) else TN) else (bif Nat.beq pc 1 then (.getfield 88, 4, (12, 36, 0), 0, 0, []) else TN)) else (bif Nat.blt pc 5 then (bif Nat.beq pc 4 then (.iconst 0, 5, (0, 0, 0), 0, 0, []) else TN) else (bif Nat.beq pc 5 then (.iaload, 6, (0, 0, 0), 0, 0, []) else TN))) else (bif Nat.blt pc 9 then (bif Nat.blt pc 8 then (bif Nat.beq pc 6 then (.istore 4, 8, (4, 0, 0), 0, 0, []) else TN) else (bif Nat.beq pc 8 then (.iconst 0, 9, (0, 0, 0), 0, 0, []) else TN)) else (bif Nat.blt pc 11 then (bif Nat.beq pc 9 then (.istore 5, 11, (5, 0, 0), 0, 0, []) else TN) else (bif Nat.blt pc 13 then (bif Nat.beq pc 11 then (.iload 5, 13, (5, 0, 0), 0, 0, []) else TN) else (bif Nat.beq pc 13 then (.iload_n 2, 14, (2, 0, 0), 0, 0, []) else TN))))) else (bif Nat.blt pc 23 then (bif Nat.blt pc 19 then (bif Nat.blt pc 17 then (bif Nat.beq pc 14 then (.if_icmp .ge 47, 17, (61, 0, 0), 0, 0, []) else TN) else (bif Nat.beq pc 17 then (.iload 4, 19, (4, 0, 0), 0, 0, []) else TN)) else (bif Nat.blt pc 20 then (bif Nat.beq pc 19 then (.iload_n 1, 20, (1, 0, 0), 0, 0, []) else TN) else (bif Nat.blt pc 22 then (bif Nat.beq pc 20 then (.iload 5, 22, (5, 0, 0), 0, 0, []) else TN) else (bif Nat.beq pc 22 then (.ishr, 23, (0, 0, 0), 0, 0, []) else TN)))) else (bif Nat.blt pc 25 then (bif Nat.blt pc 24 then (bif Nat.beq pc 23 then (.iconst 1, 24, (0, 0, 0), 1, 0, []) else TN) else (bif Nat.beq pc 24 then (.iand, 25, (0, 0, 0), 0, 0, []) else TN)) else (bif Nat.blt pc 26 then (bif Nat.beq pc 25 then (.iconst 1, 26, (0, 0, 0), 1, 0, []) else TN) else (bif Nat.blt pc 29 then (bif Nat.beq pc 26 then (.if_icmp .ne 7, 29, (33, 0, 0), 0, 0, []) else TN) else (bif Nat.beq pc 29 then (.iload_n 3, 30, (3, 0, 0), 0, 0, []) else TN)))))) else (bif Nat.blt pc 46 then (bif Nat.blt pc 37 then (bif Nat.blt pc 34 then (bif Nat.blt pc 33 then (bif Nat.beq pc 30 then (.goto 4, 33, (34, 0, 0), 0, 0, []) else TN) else (bif Nat.beq pc 33 then (.iconst 0, 34, (0, 0, 0), 0, 0, []) else TN)) else (bif Nat.blt pc 35 then (bif Nat.beq pc 34 then (.isub, 35, (0, 0, 0), 0, 0, []) else TN) else (bif Nat.beq pc 35 then (.istore 4, 37, (4, 0, 0), 0, 0, []) else TN))) else (bif Nat.blt pc 42 then (bif Nat.blt pc 39 then (bif Nat.beq pc 37 then (.iload 4, 39, (4, 0, 0), 0, 0, []) else TN) else (bif Nat.beq pc 39 then (.ifCond .ge 5, 42, (44, 0, 0), 0, 0, []) else TN)) else (bif Nat.blt pc 43 then (bif Nat.beq pc 42 then (.iconst (-1), 43, (0, 0, 0), -1, 0, []) else TN) else (bif Nat.blt pc 44 then (bif Nat.beq pc 43 then (.ireturn, 44, (0, 0, 0), 0, 0, []) else TN) else (bif Nat.beq pc 44 then (.iload 4, 46, (4, 0, 0), 0, 0, []) else TN))))) else (bif Nat.blt pc 53 then (bif Nat.blt pc 50 then (bif Nat.blt pc 47 then (bif Nat.beq pc 46 then (.aload_n 0, 47, (0, 0, 0), 0, 0, []) else TN) else (bif Nat.beq pc 47 then (.getfield 88, 50, (12, 36, 0), 0, 0, []) else TN)) else (bif Nat.blt pc 51 then (bif Nat.beq pc 50 then (.iconst 2, 51, (0, 0, 0), 2, 0, []) else TN) else (bif Nat.blt pc 52 then (bif Nat.beq pc 51 then (.iaload, 52, (0, 0, 0), 0, 0, []) else TN) else (bif Nat.beq pc 52 then (.iadd, 53, (0, 0, 0), 0, 0, []) else TN)))) else (bif Nat.blt pc 58 then (bif Nat.blt pc 55 then (bif Nat.beq pc 53 then (.istore 4, 55, (4, 0, 0), 0, 0, []) else TN) else (bif Nat.beq pc 55 then (.iinc 5 1, 58, (5, 0, 0), 1, 0, []) else TN)) else (bif Nat.blt pc 61 then (bif Nat.beq pc 58 then (.goto (-47), 61, (11, 0, 0), 0, 0, []) else TN) else (bif Nat.blt pc 63 then (bif Nat.beq pc 61 then (.iload 4, 63, (4, 0, 0), 0, 0, []) else TN) else (bif Nat.beq pc 63 then (.ireturn, 64, (0, 0, 0), 0, 0, []) else TN))))))
def tb_X12_fundBehind (pc : Nat) : TI := bif Nat.ble 64 pc then TN else tt_X12_fundBehind pc
theorem ok_X12_fundBehind : tOK 12 (decide ("fundBehind" = "<init>")) cX12_fundBehind tb_X12_fundBehind := tOK_of 64 tn_of (by decide +kernel)
def f_X12_fundBehind_34 (c11 : Lay → Sto → Nat → Int32 → Int32 → Int32 → Int32 → Int32 → Option Int32) (L : Lay) (σ : Sto) (a0 : Nat) (a1 : Int32) (a2 : Int32) (a3 : Int32) (a5 : Int32) (s0 : Int32) (s1 : Int32) : Option Int32 := (if 0 ≤ (s1 - s0) then (σ.2.1 a0 36).bind fun x1 => (rI L σ x1 2).bind fun v2 => c11 L σ a0 a1 a2 a3 ((s1 - s0) + v2) (a5 + 1) else some (-1))
def A_X12_fundBehind_34 (c : Lay → Sto → Nat → Int32 → Int32 → Int32 → Int32 → Int32 → Int32 → Option Int32) (lc : List (Option AV)) (st : List AV) (L : Lay) (σ : Sto) : Option Int32 := match lc, st with
  | [some (.inr (.inr (.inl (ta0, some a0)))), some (.inl a1), some (.inl a2), some (.inl a3), _, some (.inl a5)], [.inl s0, .inl s1] => bif Nat.beq ta0 12 && true then c L σ a0 a1 a2 a3 a5 s0 s1 else none
  | _, _ => none
def f_X12_fundBehind_11 : Nat → Lay → Sto → Nat → Int32 → Int32 → Int32 → Int32 → Int32 → Option Int32
  | 0 => fun _ _ _ _ _ _ _ _ => none
  | k + 1 => fun L σ a0 a1 a2 a3 a4 a5 => (if a2 ≤ a5 then some a4 else (if ((a1 >>> (a5 &&& 31)) &&& 1) = 1 then (f_X12_fundBehind_34 (f_X12_fundBehind_11 k)) L σ a0 a1 a2 a3 a5 a3 a4 else (f_X12_fundBehind_34 (f_X12_fundBehind_11 k)) L σ a0 a1 a2 a3 a5 0 a4))
def A_X12_fundBehind_11 (c : Lay → Sto → Nat → Int32 → Int32 → Int32 → Int32 → Int32 → Option Int32) (lc : List (Option AV)) (st : List AV) (L : Lay) (σ : Sto) : Option Int32 := match lc, st with
  | [some (.inr (.inr (.inl (ta0, some a0)))), some (.inl a1), some (.inl a2), some (.inl a3), some (.inl a4), some (.inl a5)], [] => bif Nat.beq ta0 12 && true then c L σ a0 a1 a2 a3 a4 a5 else none
  | _, _ => none
def f_X12_fundBehind (L : Lay) (σ : Sto) (a0 : Nat) (a1 : Int32) (a2 : Int32) (a3 : Int32) : Option Int32 := (σ.2.1 a0 36).bind fun x3 => (rI L σ x3 0).bind fun v4 => (f_X12_fundBehind_11 FU) L σ a0 a1 a2 a3 v4 0
def ad_X12_fundBehind : ADT := fun O L σ as k => match as with
  | [.inr (.inr (.inl (ta0, some a0))), .inl a1, .inl a2, .inl a3] => bif Nat.beq ta0 12 && true then (f_X12_fundBehind L σ a0 a1 a2 a3).bind fun r => k (some (vI r)) L σ else none
  | _ => none
abbrev cl_X12_fundBehind {O : Type} : CLT O := cl0
theorem hc_X12_fundBehind (G : GT) (l : Launch) {d : Nat} (hd : 1 ≤ d) {O : Type} : HCL G l (true, true) d (cl_X12_fundBehind (O := O)) := hcl0
theorem rt_X12_fundBehind : retOK (0, 0) (some .int) := ⟨fun _ => rfl, fun h => absurd h (by decide), fun h => absurd h (by decide)⟩
set_option maxRecDepth 20000 in
theorem b_X12_fundBehind_34 {G : GT} {l : Launch} {d : Nat} {L0 : Lay} {σ0 : Sto} (hd : 1 ≤ d) {c11 : Lay → Sto → Nat → Int32 → Int32 → Int32 → Int32 → Int32 → Option Int32} (h11 : HF G l 12 "fundBehind" cX12_fundBehind 6 (some .int) d L0 σ0 (true, true) (dcPI L0 σ0) 11 (A_X12_fundBehind_11 c11)) : HF G l 12 "fundBehind" cX12_fundBehind 6 (some .int) d L0 σ0 (true, true) (dcPI L0 σ0) 34 (A_X12_fundBehind_34 (f_X12_fundBehind_34 c11)) := by
  intro lc st L σ o h hI
  unfold A_X12_fundBehind_34 at h
  split at h
  · obtain ⟨hq0, hA1⟩ := bif_s h
    obtain ⟨e0, hq1⟩ := beq_and hq0
    subst e0
    exact exs (sp := [11]) (K := (kc 11 (A_X12_fundBehind_11 c11) k0)) ok_X12_fundBehind rt_X12_fundBehind (by omega) (hc_X12_fundBehind G l hd) (hrPI rfl rfl) (hkc h11 hk0) 41 hA1 hI
  · cases h
set_option maxRecDepth 20000 in
theorem b_X12_fundBehind_11 {G : GT} {l : Launch} {d : Nat} {L0 : Lay} {σ0 : Sto} (hd : 1 ≤ d) : ∀ k : Nat, HF G l 12 "fundBehind" cX12_fundBehind 6 (some .int) d L0 σ0 (true, true) (dcPI L0 σ0) 11 (A_X12_fundBehind_11 (f_X12_fundBehind_11 k))
  | 0 => by
    intro lc st L σ o h hI
    unfold A_X12_fundBehind_11 at h
    split at h
    · obtain ⟨_, hA1⟩ := bif_s h
      cases hA1
    · cases h
  | k + 1 => by
    have ih := b_X12_fundBehind_11 (G := G) (l := l) (d := d) (L0 := L0) (σ0 := σ0) hd k
    intro lc st L σ o h hI
    unfold A_X12_fundBehind_11 at h
    split at h
    · obtain ⟨hq0, hA1⟩ := bif_s h
      obtain ⟨e0, hq1⟩ := beq_and hq0
      subst e0
      exact exs (sp := [34]) (K := (kc 34 (A_X12_fundBehind_34 (f_X12_fundBehind_34 (f_X12_fundBehind_11 k))) k0)) ok_X12_fundBehind rt_X12_fundBehind (by omega) (hc_X12_fundBehind G l hd) (hrPI rfl rfl) (hkc (b_X12_fundBehind_34 hd ih) hk0) 41 hA1 hI
    · cases h
set_option maxRecDepth 20000 in
theorem ca_X12_fundBehind (G : GT) (l : Launch) {d : Nat} (hd : 1 ≤ d) : CA G l 141 (true, true) d ad_X12_fundBehind := by
  intro O L σ as k o h hW hok
  unfold ad_X12_fundBehind at h
  split at h
  · obtain ⟨hq0, hA0⟩ := bif_s h
    obtain ⟨e0, hq1⟩ := beq_and hq0
    subst e0
    obtain ⟨r, hr, hk⟩ := Option.bind_eq_some_iff.mp hA0
    exact ca_of (q := (dcPI L σ) r) (by decide) rfl (Nat.le_of_ble_eq_true rfl) hk (fun _ => rfl) (fun _ => rfl) (exs (sp := [11]) (K := (kc 11 (A_X12_fundBehind_11 (f_X12_fundBehind_11 FU)) k0)) (L0 := L) (σ0 := σ) ok_X12_fundBehind rt_X12_fundBehind (by omega) (hc_X12_fundBehind G l hd) (hrPI rfl rfl) (hkc (b_X12_fundBehind_11 hd FU) hk0) 41 hr (inv0 hW hok))
  · cases h
def tt_X12_bestDays (pc : Nat) : TI := bif Nat.blt pc 58 then (bif Nat.blt pc 27 then (bif Nat.blt pc 14 then (bif Nat.blt pc 6 then (bif Nat.blt pc 2 then (bif Nat.blt pc 1 then (bif Nat.beq pc 0 then (.aload_n 0, 1, (0, 0, 0), 0, 0, []) else TN) else (bif Nat.beq pc 1 then (.iload_n 1, 2, (1, 0, 0), 0, 0, []) else TN)) else (bif Nat.blt pc 5 then (bif Nat.beq pc 2 then (.invokevirtual 366, 5, (133, 1, 12), 0, 0, []) else TN) else (bif Nat.beq pc 5 then (.istore_n 3, 6, (3, 0, 0), 0, 0, []) else TN))) else (bif Nat.blt pc 8 then (bif Nat.blt pc 7 then (bif Nat.beq pc 6 then (.aload_n 0, 7, (0, 0, 0), 0, 0, []) else TN) else (bif Nat.beq pc 7 then (.iload_n 1, 8, (1, 0, 0), 0, 0, []) else TN)) else (bif Nat.blt pc 11 then (bif Nat.beq pc 8 then (.invokevirtual 369, 11, (164, 1, 12), 0, 0, []) else TN) else (bif Nat.beq pc 11 then (.ifCond .eq 7, 14, (18, 0, 0), 0, 0, []) else TN)))) else (bif Nat.blt pc 22 then (bif Nat.blt pc 18 then (bif Nat.blt pc 15 then (bif Nat.beq pc 14 then (.iconst 1, 15, (0, 0, 0), 1, 0, []) else TN) else (bif Nat.beq pc 15 then (.goto 9, 18, (24, 0, 0), 0, 0, []) else TN)) else (bif Nat.blt pc 19 then (bif Nat.beq pc 18 then (.aload_n 0, 19, (0, 0, 0), 0, 0, []) else TN) else (bif Nat.beq pc 19 then (.getfield 88, 22, (12, 36, 0), 0, 0, []) else TN))) else (bif Nat.blt pc 24 then (bif Nat.blt pc 23 then (bif Nat.beq pc 22 then (.iconst 3, 23, (0, 0, 0), 3, 0, []) else TN) else (bif Nat.beq pc 23 then (.iaload, 24, (0, 0, 0), 0, 0, []) else TN)) else (bif Nat.blt pc 26 then (bif Nat.beq pc 24 then (.istore 4, 26, (4, 0, 0), 0, 0, []) else TN) else (bif Nat.beq pc 26 then (.iconst 0, 27, (0, 0, 0), 0, 0, []) else TN))))) else (bif Nat.blt pc 40 then (bif Nat.blt pc 34 then (bif Nat.blt pc 30 then (bif Nat.blt pc 29 then (bif Nat.beq pc 27 then (.istore 5, 29, (5, 0, 0), 0, 0, []) else TN) else (bif Nat.beq pc 29 then (.iconst 1, 30, (0, 0, 0), 1, 0, []) else TN)) else (bif Nat.blt pc 32 then (bif Nat.beq pc 30 then (.istore 6, 32, (6, 0, 0), 0, 0, []) else TN) else (bif Nat.beq pc 32 then (.iload 6, 34, (6, 0, 0), 0, 0, []) else TN))) else (bif Nat.blt pc 36 then (bif Nat.blt pc 35 then (bif Nat.beq pc 34 then (.iconst 1, 35, (0, 0, 0), 1, 0, []) else TN) else (bif Nat.beq pc 35 then (.iload_n 2, 36, (2, 0, 0), 0, 0, []) else TN)) else (bif Nat.blt pc 37 then (bif Nat.beq pc 36 then (.ishl, 37, (0, 0, 0), 0, 0, []) else TN) else (bif Nat.beq pc 37 then (.if_icmp .ge 91, 40, (128, 0, 0), 0, 0, []) else TN)))) else (bif Nat.blt pc 47 then (bif Nat.blt pc 43 then (bif Nat.blt pc 41 then (bif Nat.beq pc 40 then (.aload_n 0, 41, (0, 0, 0), 0, 0, []) else TN) else (bif Nat.beq pc 41 then (.iload 6, 43, (6, 0, 0), 0, 0, []) else TN)) else (bif Nat.blt pc 46 then (bif Nat.beq pc 43 then (.invokevirtual 372, 46, (144, 1, 12), 0, 0, []) else TN) else (bif Nat.beq pc 46 then (.aload_n 0, 47, (0, 0, 0), 0, 0, []) else TN))) else (bif Nat.blt pc 52 then (bif Nat.blt pc 49 then (bif Nat.beq pc 47 then (.iload 5, 49, (5, 0, 0), 0, 0, []) else TN) else (bif Nat.beq pc 49 then (.invokevirtual 372, 52, (144, 1, 12), 0, 0, []) else TN)) else (bif Nat.blt pc 55 then (bif Nat.beq pc 52 then (.if_icmp .gt 31, 55, (83, 0, 0), 0, 0, []) else TN) else (bif Nat.blt pc 56 then (bif Nat.beq pc 55 then (.aload_n 0, 56, (0, 0, 0), 0, 0, []) else TN) else (bif Nat.beq pc 56 then (.iload 6, 58, (6, 0, 0), 0, 0, []) else TN))))))) else (bif Nat.blt pc 96 then (bif Nat.blt pc 77 then (bif Nat.blt pc 67 then (bif Nat.blt pc 62 then (bif Nat.blt pc 61 then (bif Nat.beq pc 58 then (.invokevirtual 372, 61, (144, 1, 12), 0, 0, []) else TN) else (bif Nat.beq pc 61 then (.aload_n 0, 62, (0, 0, 0), 0, 0, []) else TN)) else (bif Nat.blt pc 64 then (bif Nat.beq pc 62 then (.iload 5, 64, (5, 0, 0), 0, 0, []) else TN) else (bif Nat.beq pc 64 then (.invokevirtual 372, 67, (144, 1, 12), 0, 0, []) else TN))) else (bif Nat.blt pc 72 then (bif Nat.blt pc 70 then (bif Nat.beq pc 67 then (.if_icmp .ne 20, 70, (87, 0, 0), 0, 0, []) else TN) else (bif Nat.beq pc 70 then (.iload 6, 72, (6, 0, 0), 0, 0, []) else TN)) else (bif Nat.blt pc 75 then (bif Nat.beq pc 72 then (.invokestatic 375, 75, (176, 1, 0), 0, 0, []) else TN) else (bif Nat.beq pc 75 then (.iload 5, 77, (5, 0, 0), 0, 0, []) else TN)))) else (bif Nat.blt pc 87 then (bif Nat.blt pc 83 then (bif Nat.blt pc 80 then (bif Nat.beq pc 77 then (.invokestatic 375, 80, (176, 1, 0), 0, 0, []) else TN) else (bif Nat.beq pc 80 then (.if_icmp .ge 7, 83, (87, 0, 0), 0, 0, []) else TN)) else (bif Nat.blt pc 84 then (bif Nat.beq pc 83 then (.iconst 1, 84, (0, 0, 0), 1, 0, []) else TN) else (bif Nat.beq pc 84 then (.goto 4, 87, (88, 0, 0), 0, 0, []) else TN))) else (bif Nat.blt pc 90 then (bif Nat.blt pc 88 then (bif Nat.beq pc 87 then (.iconst 0, 88, (0, 0, 0), 0, 0, []) else TN) else (bif Nat.beq pc 88 then (.istore 7, 90, (7, 0, 0), 0, 0, []) else TN)) else (bif Nat.blt pc 92 then (bif Nat.beq pc 90 then (.iload 7, 92, (7, 0, 0), 0, 0, []) else TN) else (bif Nat.blt pc 95 then (bif Nat.beq pc 92 then (.ifCond .eq 30, 95, (122, 0, 0), 0, 0, []) else TN) else (bif Nat.beq pc 95 then (.aload_n 0, 96, (0, 0, 0), 0, 0, []) else TN)))))) else (bif Nat.blt pc 111 then (bif Nat.blt pc 104 then (bif Nat.blt pc 99 then (bif Nat.blt pc 98 then (bif Nat.beq pc 96 then (.iload 6, 98, (6, 0, 0), 0, 0, []) else TN) else (bif Nat.beq pc 98 then (.iload_n 2, 99, (2, 0, 0), 0, 0, []) else TN)) else (bif Nat.blt pc 101 then (bif Nat.beq pc 99 then (.iload 4, 101, (4, 0, 0), 0, 0, []) else TN) else (bif Nat.beq pc 101 then (.invokevirtual 378, 104, (128, 3, 12), 0, 0, []) else TN))) else (bif Nat.blt pc 108 then (bif Nat.blt pc 107 then (bif Nat.beq pc 104 then (.ifCond .eq 18, 107, (122, 0, 0), 0, 0, []) else TN) else (bif Nat.beq pc 107 then (.aload_n 0, 108, (0, 0, 0), 0, 0, []) else TN)) else (bif Nat.blt pc 110 then (bif Nat.beq pc 108 then (.iload 6, 110, (6, 0, 0), 0, 0, []) else TN) else (bif Nat.beq pc 110 then (.iload_n 2, 111, (2, 0, 0), 0, 0, []) else TN)))) else (bif Nat.blt pc 120 then (bif Nat.blt pc 115 then (bif Nat.blt pc 112 then (bif Nat.beq pc 111 then (.iload_n 3, 112, (3, 0, 0), 0, 0, []) else TN) else (bif Nat.beq pc 112 then (.invokevirtual 381, 115, (141, 3, 12), 0, 0, []) else TN)) else (bif Nat.blt pc 118 then (bif Nat.beq pc 115 then (.ifCond .lt 7, 118, (122, 0, 0), 0, 0, []) else TN) else (bif Nat.beq pc 118 then (.iload 6, 120, (6, 0, 0), 0, 0, []) else TN))) else (bif Nat.blt pc 125 then (bif Nat.blt pc 122 then (bif Nat.beq pc 120 then (.istore 5, 122, (5, 0, 0), 0, 0, []) else TN) else (bif Nat.beq pc 122 then (.iinc 6 1, 125, (6, 0, 0), 1, 0, []) else TN)) else (bif Nat.blt pc 128 then (bif Nat.beq pc 125 then (.goto (-93), 128, (32, 0, 0), 0, 0, []) else TN) else (bif Nat.blt pc 130 then (bif Nat.beq pc 128 then (.iload 5, 130, (5, 0, 0), 0, 0, []) else TN) else (bif Nat.beq pc 130 then (.ireturn, 131, (0, 0, 0), 0, 0, []) else TN)))))))
def tb_X12_bestDays (pc : Nat) : TI := bif Nat.ble 131 pc then TN else tt_X12_bestDays pc
theorem ok_X12_bestDays : tOK 12 (decide ("bestDays" = "<init>")) cX12_bestDays tb_X12_bestDays := tOK_of 131 tn_of (by decide +kernel)
def f_X12_bestDays_122 (c32 : Lay → Sto → Nat → Int32 → Int32 → Int32 → Int32 → Int32 → Option Int32) (L : Lay) (σ : Sto) (a0 : Nat) (a2 : Int32) (a3 : Int32) (a4 : Int32) (a5 : Int32) (a6 : Int32) : Option Int32 := c32 L σ a0 a2 a3 a4 a5 (a6 + 1)
def A_X12_bestDays_122 (c : Lay → Sto → Nat → Int32 → Int32 → Int32 → Int32 → Int32 → Option Int32) (lc : List (Option AV)) (st : List AV) (L : Lay) (σ : Sto) : Option Int32 := match lc, st with
  | [some (.inr (.inr (.inl (ta0, some a0)))), _, some (.inl a2), some (.inl a3), some (.inl a4), some (.inl a5), some (.inl a6), _], [] => bif Nat.beq ta0 12 && true then c L σ a0 a2 a3 a4 a5 a6 else none
  | _, _ => none
def f_X12_bestDays_88 (c32 : Lay → Sto → Nat → Int32 → Int32 → Int32 → Int32 → Int32 → Option Int32) (L : Lay) (σ : Sto) (a0 : Nat) (a2 : Int32) (a3 : Int32) (a4 : Int32) (a5 : Int32) (a6 : Int32) (s0 : Int32) : Option Int32 := (if s0 = 0 then (f_X12_bestDays_122 c32) L σ a0 a2 a3 a4 a5 a6 else (f_X12_canBe L σ a0 a6 a2 a4).bind fun r1 => (if r1 = 0 then (f_X12_bestDays_122 c32) L σ a0 a2 a3 a4 a5 a6 else (f_X12_fundBehind L σ a0 a6 a2 a3).bind fun r2 => (if r2 < 0 then (f_X12_bestDays_122 c32) L σ a0 a2 a3 a4 a5 a6 else (f_X12_bestDays_122 c32) L σ a0 a2 a3 a4 a6 a6)))
def A_X12_bestDays_88 (c : Lay → Sto → Nat → Int32 → Int32 → Int32 → Int32 → Int32 → Int32 → Option Int32) (lc : List (Option AV)) (st : List AV) (L : Lay) (σ : Sto) : Option Int32 := match lc, st with
  | [some (.inr (.inr (.inl (ta0, some a0)))), _, some (.inl a2), some (.inl a3), some (.inl a4), some (.inl a5), some (.inl a6), _], [.inl s0] => bif Nat.beq ta0 12 && true then c L σ a0 a2 a3 a4 a5 a6 s0 else none
  | _, _ => none
def f_X12_bestDays_83 (c32 : Lay → Sto → Nat → Int32 → Int32 → Int32 → Int32 → Int32 → Option Int32) (L : Lay) (σ : Sto) (a0 : Nat) (a2 : Int32) (a3 : Int32) (a4 : Int32) (a5 : Int32) (a6 : Int32) : Option Int32 := (f_X12_bestDays_88 c32) L σ a0 a2 a3 a4 a5 a6 1
def A_X12_bestDays_83 (c : Lay → Sto → Nat → Int32 → Int32 → Int32 → Int32 → Int32 → Option Int32) (lc : List (Option AV)) (st : List AV) (L : Lay) (σ : Sto) : Option Int32 := match lc, st with
  | [some (.inr (.inr (.inl (ta0, some a0)))), _, some (.inl a2), some (.inl a3), some (.inl a4), some (.inl a5), some (.inl a6), _], [] => bif Nat.beq ta0 12 && true then c L σ a0 a2 a3 a4 a5 a6 else none
  | _, _ => none
def f_X12_bestDays_87 (c32 : Lay → Sto → Nat → Int32 → Int32 → Int32 → Int32 → Int32 → Option Int32) (L : Lay) (σ : Sto) (a0 : Nat) (a2 : Int32) (a3 : Int32) (a4 : Int32) (a5 : Int32) (a6 : Int32) : Option Int32 := (f_X12_bestDays_88 c32) L σ a0 a2 a3 a4 a5 a6 0
def A_X12_bestDays_87 (c : Lay → Sto → Nat → Int32 → Int32 → Int32 → Int32 → Int32 → Option Int32) (lc : List (Option AV)) (st : List AV) (L : Lay) (σ : Sto) : Option Int32 := match lc, st with
  | [some (.inr (.inr (.inl (ta0, some a0)))), _, some (.inl a2), some (.inl a3), some (.inl a4), some (.inl a5), some (.inl a6), _], [] => bif Nat.beq ta0 12 && true then c L σ a0 a2 a3 a4 a5 a6 else none
  | _, _ => none
def f_X12_bestDays_32 : Nat → Lay → Sto → Nat → Int32 → Int32 → Int32 → Int32 → Int32 → Option Int32
  | 0 => fun _ _ _ _ _ _ _ _ => none
  | k + 1 => fun L σ a0 a2 a3 a4 a5 a6 => (if (1 <<< (a2 &&& 31)) ≤ a6 then some a5 else (f_X12_harmOf L σ a0 a6).bind fun r3 => (f_X12_harmOf L σ a0 a5).bind fun r4 => (if r4 < r3 then (f_X12_bestDays_83 (f_X12_bestDays_32 k)) L σ a0 a2 a3 a4 a5 a6 else (f_X12_harmOf L σ a0 a6).bind fun r5 => (f_X12_harmOf L σ a0 a5).bind fun r6 => (if r5 = r6 then (f_X12_many L σ a6).bind fun r7 => (f_X12_many L σ a5).bind fun r8 => (if r8 ≤ r7 then (f_X12_bestDays_87 (f_X12_bestDays_32 k)) L σ a0 a2 a3 a4 a5 a6 else (f_X12_bestDays_83 (f_X12_bestDays_32 k)) L σ a0 a2 a3 a4 a5 a6) else (f_X12_bestDays_87 (f_X12_bestDays_32 k)) L σ a0 a2 a3 a4 a5 a6)))
def A_X12_bestDays_32 (c : Lay → Sto → Nat → Int32 → Int32 → Int32 → Int32 → Int32 → Option Int32) (lc : List (Option AV)) (st : List AV) (L : Lay) (σ : Sto) : Option Int32 := match lc, st with
  | [some (.inr (.inr (.inl (ta0, some a0)))), _, some (.inl a2), some (.inl a3), some (.inl a4), some (.inl a5), some (.inl a6), _], [] => bif Nat.beq ta0 12 && true then c L σ a0 a2 a3 a4 a5 a6 else none
  | _, _ => none
def f_X12_bestDays_24 (L : Lay) (σ : Sto) (a0 : Nat) (a2 : Int32) (a3 : Int32) (s0 : Int32) : Option Int32 := (f_X12_bestDays_32 FU) L σ a0 a2 a3 s0 0 1
def A_X12_bestDays_24 (c : Lay → Sto → Nat → Int32 → Int32 → Int32 → Option Int32) (lc : List (Option AV)) (st : List AV) (L : Lay) (σ : Sto) : Option Int32 := match lc, st with
  | [some (.inr (.inr (.inl (ta0, some a0)))), _, some (.inl a2), some (.inl a3), _, _, _, _], [.inl s0] => bif Nat.beq ta0 12 && true then c L σ a0 a2 a3 s0 else none
  | _, _ => none
def f_X12_bestDays (L : Lay) (σ : Sto) (a0 : Nat) (a1 : Int32) (a2 : Int32) : Option Int32 := (f_X12_costOf L σ a0 a1).bind fun r9 => (f_X12_isVital L σ a0 a1).bind fun r10 => (if r10 = 0 then (σ.2.1 a0 36).bind fun x11 => (rI L σ x11 3).bind fun v12 => (f_X12_bestDays_24) L σ a0 a2 r9 v12 else (f_X12_bestDays_24) L σ a0 a2 r9 1)
def ad_X12_bestDays : ADT := fun O L σ as k => match as with
  | [.inr (.inr (.inl (ta0, some a0))), .inl a1, .inl a2] => bif Nat.beq ta0 12 && true then (f_X12_bestDays L σ a0 a1 a2).bind fun r => k (some (vI r)) L σ else none
  | _ => none
abbrev cl_X12_bestDays {O : Type} : CLT O := (clc 128 ad_X12_canBe (clc 141 ad_X12_fundBehind (clc 144 ad_X12_harmOf (clc 176 ad_X12_many (clc 133 ad_X12_costOf (clc 164 ad_X12_isVital cl0))))))
theorem hc_X12_bestDays (G : GT) (l : Launch) {d : Nat} (hd : 4 ≤ d) {O : Type} : HCL G l (true, true) d (cl_X12_bestDays (O := O)) := (hclc (ca_X12_canBe G l (d := 1) (Nat.le_refl _)) (fun _ => rfl) (fun _ => rfl) (by omega) (hclc (ca_X12_fundBehind G l (d := 1) (Nat.le_refl _)) (fun _ => rfl) (fun _ => rfl) (by omega) (hclc (ca_X12_harmOf G l (d := 1) (Nat.le_refl _)) (fun _ => rfl) (fun _ => rfl) (by omega) (hclc (ca_X12_many G l (d := 1) (Nat.le_refl _)) (fun _ => rfl) (fun _ => rfl) (by omega) (hclc (ca_X12_costOf G l (d := 3) (Nat.le_refl _)) (fun _ => rfl) (fun _ => rfl) (by omega) (hclc (ca_X12_isVital G l (d := 3) (Nat.le_refl _)) (fun _ => rfl) (fun _ => rfl) (by omega) hcl0))))))
theorem rt_X12_bestDays : retOK (0, 0) (some .int) := ⟨fun _ => rfl, fun h => absurd h (by decide), fun h => absurd h (by decide)⟩
set_option maxRecDepth 20000 in
theorem b_X12_bestDays_122 {G : GT} {l : Launch} {d : Nat} {L0 : Lay} {σ0 : Sto} (hd : 4 ≤ d) {c32 : Lay → Sto → Nat → Int32 → Int32 → Int32 → Int32 → Int32 → Option Int32} (h32 : HF G l 12 "bestDays" cX12_bestDays 8 (some .int) d L0 σ0 (true, true) (dcPI L0 σ0) 32 (A_X12_bestDays_32 c32)) : HF G l 12 "bestDays" cX12_bestDays 8 (some .int) d L0 σ0 (true, true) (dcPI L0 σ0) 122 (A_X12_bestDays_122 (f_X12_bestDays_122 c32)) := by
  intro lc st L σ o h hI
  unfold A_X12_bestDays_122 at h
  split at h
  · obtain ⟨hq0, hA1⟩ := bif_s h
    obtain ⟨e0, hq1⟩ := beq_and hq0
    subst e0
    exact exs (sp := [32]) (K := (kc 32 (A_X12_bestDays_32 c32) k0)) ok_X12_bestDays rt_X12_bestDays (by omega) (hc_X12_bestDays G l hd) (hrPI rfl rfl) (hkc h32 hk0) 70 hA1 hI
  · cases h
set_option maxRecDepth 20000 in
theorem b_X12_bestDays_88 {G : GT} {l : Launch} {d : Nat} {L0 : Lay} {σ0 : Sto} (hd : 4 ≤ d) {c32 : Lay → Sto → Nat → Int32 → Int32 → Int32 → Int32 → Int32 → Option Int32} (h32 : HF G l 12 "bestDays" cX12_bestDays 8 (some .int) d L0 σ0 (true, true) (dcPI L0 σ0) 32 (A_X12_bestDays_32 c32)) : HF G l 12 "bestDays" cX12_bestDays 8 (some .int) d L0 σ0 (true, true) (dcPI L0 σ0) 88 (A_X12_bestDays_88 (f_X12_bestDays_88 c32)) := by
  intro lc st L σ o h hI
  unfold A_X12_bestDays_88 at h
  split at h
  · obtain ⟨hq0, hA1⟩ := bif_s h
    obtain ⟨e0, hq1⟩ := beq_and hq0
    subst e0
    exact exs (sp := [122]) (K := (kc 122 (A_X12_bestDays_122 (f_X12_bestDays_122 c32)) k0)) ok_X12_bestDays rt_X12_bestDays (by omega) (hc_X12_bestDays G l hd) (hrPI rfl rfl) (hkc (b_X12_bestDays_122 hd h32) hk0) 70 hA1 hI
  · cases h
set_option maxRecDepth 20000 in
theorem b_X12_bestDays_83 {G : GT} {l : Launch} {d : Nat} {L0 : Lay} {σ0 : Sto} (hd : 4 ≤ d) {c32 : Lay → Sto → Nat → Int32 → Int32 → Int32 → Int32 → Int32 → Option Int32} (h32 : HF G l 12 "bestDays" cX12_bestDays 8 (some .int) d L0 σ0 (true, true) (dcPI L0 σ0) 32 (A_X12_bestDays_32 c32)) : HF G l 12 "bestDays" cX12_bestDays 8 (some .int) d L0 σ0 (true, true) (dcPI L0 σ0) 83 (A_X12_bestDays_83 (f_X12_bestDays_83 c32)) := by
  intro lc st L σ o h hI
  unfold A_X12_bestDays_83 at h
  split at h
  · obtain ⟨hq0, hA1⟩ := bif_s h
    obtain ⟨e0, hq1⟩ := beq_and hq0
    subst e0
    exact exs (sp := [88]) (K := (kc 88 (A_X12_bestDays_88 (f_X12_bestDays_88 c32)) k0)) ok_X12_bestDays rt_X12_bestDays (by omega) (hc_X12_bestDays G l hd) (hrPI rfl rfl) (hkc (b_X12_bestDays_88 hd h32) hk0) 70 hA1 hI
  · cases h
set_option maxRecDepth 20000 in
theorem b_X12_bestDays_87 {G : GT} {l : Launch} {d : Nat} {L0 : Lay} {σ0 : Sto} (hd : 4 ≤ d) {c32 : Lay → Sto → Nat → Int32 → Int32 → Int32 → Int32 → Int32 → Option Int32} (h32 : HF G l 12 "bestDays" cX12_bestDays 8 (some .int) d L0 σ0 (true, true) (dcPI L0 σ0) 32 (A_X12_bestDays_32 c32)) : HF G l 12 "bestDays" cX12_bestDays 8 (some .int) d L0 σ0 (true, true) (dcPI L0 σ0) 87 (A_X12_bestDays_87 (f_X12_bestDays_87 c32)) := by
  intro lc st L σ o h hI
  unfold A_X12_bestDays_87 at h
  split at h
  · obtain ⟨hq0, hA1⟩ := bif_s h
    obtain ⟨e0, hq1⟩ := beq_and hq0
    subst e0
    exact exs (sp := [88]) (K := (kc 88 (A_X12_bestDays_88 (f_X12_bestDays_88 c32)) k0)) ok_X12_bestDays rt_X12_bestDays (by omega) (hc_X12_bestDays G l hd) (hrPI rfl rfl) (hkc (b_X12_bestDays_88 hd h32) hk0) 70 hA1 hI
  · cases h
set_option maxRecDepth 20000 in
theorem b_X12_bestDays_32 {G : GT} {l : Launch} {d : Nat} {L0 : Lay} {σ0 : Sto} (hd : 4 ≤ d) : ∀ k : Nat, HF G l 12 "bestDays" cX12_bestDays 8 (some .int) d L0 σ0 (true, true) (dcPI L0 σ0) 32 (A_X12_bestDays_32 (f_X12_bestDays_32 k))
  | 0 => by
    intro lc st L σ o h hI
    unfold A_X12_bestDays_32 at h
    split at h
    · obtain ⟨_, hA1⟩ := bif_s h
      cases hA1
    · cases h
  | k + 1 => by
    have ih := b_X12_bestDays_32 (G := G) (l := l) (d := d) (L0 := L0) (σ0 := σ0) hd k
    intro lc st L σ o h hI
    unfold A_X12_bestDays_32 at h
    split at h
    · obtain ⟨hq0, hA1⟩ := bif_s h
      obtain ⟨e0, hq1⟩ := beq_and hq0
      subst e0
      exact exs (sp := [83, 87]) (K := (kc 83 (A_X12_bestDays_83 (f_X12_bestDays_83 (f_X12_bestDays_32 k))) (kc 87 (A_X12_bestDays_87 (f_X12_bestDays_87 (f_X12_bestDays_32 k))) k0))) ok_X12_bestDays rt_X12_bestDays (by omega) (hc_X12_bestDays G l hd) (hrPI rfl rfl) (hkc (b_X12_bestDays_83 hd ih) (hkc (b_X12_bestDays_87 hd ih) hk0)) 70 hA1 hI
    · cases h
set_option maxRecDepth 20000 in
theorem b_X12_bestDays_24 {G : GT} {l : Launch} {d : Nat} {L0 : Lay} {σ0 : Sto} (hd : 4 ≤ d) : HF G l 12 "bestDays" cX12_bestDays 8 (some .int) d L0 σ0 (true, true) (dcPI L0 σ0) 24 (A_X12_bestDays_24 f_X12_bestDays_24) := by
  intro lc st L σ o h hI
  unfold A_X12_bestDays_24 at h
  split at h
  · obtain ⟨hq0, hA1⟩ := bif_s h
    obtain ⟨e0, hq1⟩ := beq_and hq0
    subst e0
    exact exs (sp := [32]) (K := (kc 32 (A_X12_bestDays_32 (f_X12_bestDays_32 FU)) k0)) ok_X12_bestDays rt_X12_bestDays (by omega) (hc_X12_bestDays G l hd) (hrPI rfl rfl) (hkc (b_X12_bestDays_32 hd FU) hk0) 70 hA1 hI
  · cases h
set_option maxRecDepth 20000 in
theorem ca_X12_bestDays (G : GT) (l : Launch) {d : Nat} (hd : 4 ≤ d) : CA G l 124 (true, true) d ad_X12_bestDays := by
  intro O L σ as k o h hW hok
  unfold ad_X12_bestDays at h
  split at h
  · obtain ⟨hq0, hA0⟩ := bif_s h
    obtain ⟨e0, hq1⟩ := beq_and hq0
    subst e0
    obtain ⟨r, hr, hk⟩ := Option.bind_eq_some_iff.mp hA0
    exact ca_of (q := (dcPI L σ) r) (by decide) rfl (Nat.le_of_ble_eq_true rfl) hk (fun _ => rfl) (fun _ => rfl) (exs (sp := [24]) (K := (kc 24 (A_X12_bestDays_24 (f_X12_bestDays_24)) k0)) (L0 := L) (σ0 := σ) ok_X12_bestDays rt_X12_bestDays (by omega) (hc_X12_bestDays G l hd) (hrPI rfl rfl) (hkc (b_X12_bestDays_24 hd) hk0) 70 hr (inv0 hW hok))
  · cases h
def tt_X12_branch (pc : Nat) : TI := bif Nat.blt pc 28 then (bif Nat.blt pc 12 then (bif Nat.blt pc 3 then (bif Nat.blt pc 1 then (bif Nat.beq pc 0 then (.iload_n 1, 1, (1, 0, 0), 0, 0, []) else TN) else (bif Nat.blt pc 2 then (bif Nat.beq pc 1 then (.iconst 0, 2, (0, 0, 0), 0, 0, []) else TN) else (bif Nat.beq pc 2 then (.iconst 3, 3, (0, 0, 0), 3, 0, []) else TN))) else (bif Nat.blt pc 9 then (bif Nat.blt pc 6 then (bif Nat.beq pc 3 then (.invokestatic 146, 6, (147, 3, 0), 0, 0, []) else TN) else (bif Nat.beq pc 6 then (.ifCond .ne 6, 9, (12, 0, 0), 0, 0, []) else TN)) else (bif Nat.blt pc 11 then (bif Nat.beq pc 9 then (.ldc 156, 11, (0, 0, 0), -1000000001, 0, []) else TN) else (bif Nat.beq pc 11 then (.ireturn, 12, (0, 0, 0), 0, 0, []) else TN)))) else (bif Nat.blt pc 21 then (bif Nat.blt pc 16 then (bif Nat.blt pc 13 then (bif Nat.beq pc 12 then (.aload_n 0, 13, (0, 0, 0), 0, 0, []) else TN) else (bif Nat.beq pc 13 then (.getfield 143, 16, (12, 2, 0), 0, 0, []) else TN)) else (bif Nat.blt pc 18 then (bif Nat.beq pc 16 then (.bipush 6, 18, (0, 0, 0), 6, 0, []) else TN) else (bif Nat.beq pc 18 then (.if_icmp .ne 6, 21, (24, 0, 0), 0, 0, []) else TN))) else (bif Nat.blt pc 24 then (bif Nat.blt pc 23 then (bif Nat.beq pc 21 then (.ldc 157, 23, (0, 0, 0), -1000000003, 0, []) else TN) else (bif Nat.beq pc 23 then (.ireturn, 24, (0, 0, 0), 0, 0, []) else TN)) else (bif Nat.blt pc 25 then (bif Nat.beq pc 24 then (.aload_n 0, 25, (0, 0, 0), 0, 0, []) else TN) else (bif Nat.beq pc 25 then (.getfield 7, 28, (12, 3, 0), 0, 0, []) else TN))))) else (bif Nat.blt pc 39 then (bif Nat.blt pc 33 then (bif Nat.blt pc 29 then (bif Nat.beq pc 28 then (.aload_n 0, 29, (0, 0, 0), 0, 0, []) else TN) else (bif Nat.blt pc 32 then (bif Nat.beq pc 29 then (.getfield 143, 32, (12, 2, 0), 0, 0, []) else TN) else (bif Nat.beq pc 32 then (.iload_n 1, 33, (1, 0, 0), 0, 0, []) else TN))) else (bif Nat.blt pc 35 then (bif Nat.blt pc 34 then (bif Nat.beq pc 33 then (.iastore, 34, (0, 0, 0), 0, 0, []) else TN) else (bif Nat.beq pc 34 then (.aload_n 0, 35, (0, 0, 0), 0, 0, []) else TN)) else (bif Nat.blt pc 36 then (bif Nat.beq pc 35 then (.dup, 36, (0, 0, 0), 0, 0, []) else TN) else (bif Nat.beq pc 36 then (.getfield 143, 39, (12, 2, 0), 0, 0, []) else TN)))) else (bif Nat.blt pc 45 then (bif Nat.blt pc 41 then (bif Nat.blt pc 40 then (bif Nat.beq pc 39 then (.iconst 1, 40, (0, 0, 0), 1, 0, []) else TN) else (bif Nat.beq pc 40 then (.iadd, 41, (0, 0, 0), 0, 0, []) else TN)) else (bif Nat.blt pc 44 then (bif Nat.beq pc 41 then (.putfield 143, 44, (12, 2, 0), 0, 0, []) else TN) else (bif Nat.beq pc 44 then (.aload_n 0, 45, (0, 0, 0), 0, 0, []) else TN))) else (bif Nat.blt pc 49 then (bif Nat.blt pc 48 then (bif Nat.beq pc 45 then (.getfield 143, 48, (12, 2, 0), 0, 0, []) else TN) else (bif Nat.beq pc 48 then (.iconst 1, 49, (0, 0, 0), 1, 0, []) else TN)) else (bif Nat.blt pc 50 then (bif Nat.beq pc 49 then (.isub, 50, (0, 0, 0), 0, 0, []) else TN) else (bif Nat.beq pc 50 then (.ireturn, 51, (0, 0, 0), 0, 0, []) else TN)))))
def tb_X12_branch (pc : Nat) : TI := bif Nat.ble 51 pc then TN else tt_X12_branch pc
theorem ok_X12_branch : tOK 12 (decide ("branch" = "<init>")) cX12_branch tb_X12_branch := tOK_of 51 tn_of (by decide +kernel)
def f_X12_branch (L : Lay) (σ : Sto) (a0 : Nat) (a1 : Int32) : Option (Int32 × Sto) := (f_X12_in L σ a1 0 3).bind fun r1 => (if r1 = 0 then some ((-1000000001), σ) else (if (σ.1 a0 2) = 6 then some ((-1000000003), σ) else (σ.2.1 a0 3).bind fun x2 => (wI L σ x2 (σ.1 a0 2) a1).bind fun σ3 => (putI σ3 a0 2 ((σ3.1 a0 2) + 1)).bind fun σ4 => some (((σ4.1 a0 2) - 1), σ4)))
def ad_X12_branch : ADT := fun O L σ as k => match as with
  | [.inr (.inr (.inl (ta0, some a0))), .inl a1] => bif Nat.beq ta0 12 && true then (f_X12_branch L σ a0 a1).bind fun r => k (some (vI r.1)) L r.2 else none
  | _ => none
abbrev cl_X12_branch {O : Type} : CLT O := (clc 147 ad_X12_in cl0)
theorem hc_X12_branch (G : GT) (l : Launch) {d : Nat} (hd : 2 ≤ d) {O : Type} : HCL G l (true, false) d (cl_X12_branch (O := O)) := (hclc (ca_X12_in G l (d := 1) (Nat.le_refl _)) (fun _ => rfl) (fun e => by cases e) (by omega) hcl0)
theorem rt_X12_branch : retOK (0, 0) (some .int) := ⟨fun _ => rfl, fun h => absurd h (by decide), fun h => absurd h (by decide)⟩
set_option maxRecDepth 20000 in
theorem ca_X12_branch (G : GT) (l : Launch) {d : Nat} (hd : 2 ≤ d) : CA G l 125 (true, false) d ad_X12_branch := by
  intro O L σ as k o h hW hok
  unfold ad_X12_branch at h
  split at h
  · obtain ⟨hq0, hA0⟩ := bif_s h
    obtain ⟨e0, hq1⟩ := beq_and hq0
    subst e0
    obtain ⟨r, hr, hk⟩ := Option.bind_eq_some_iff.mp hA0
    exact ca_of (q := (dcI L) r) (by decide) rfl (Nat.le_of_ble_eq_true rfl) hk (fun _ => rfl) (fun e => by cases e) (exs (sp := []) (K := k0) (L0 := L) (σ0 := σ) ok_X12_branch rt_X12_branch (by omega) (hc_X12_branch G l hd) (hrI rfl) hk0 33 hr (inv0 hW hok))
  · cases h
