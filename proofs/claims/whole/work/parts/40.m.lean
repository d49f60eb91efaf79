def tt_X12_rule (pc : Nat) : TI := bif Nat.blt pc 25 then (bif Nat.blt pc 11 then (bif Nat.blt pc 3 then (bif Nat.blt pc 1 then (bif Nat.beq pc 0 then (.iload_n 1, 1, (1, 0, 0), 0, 0, []) else TN) else (bif Nat.blt pc 2 then (bif Nat.beq pc 1 then (.iconst 0, 2, (0, 0, 0), 0, 0, []) else TN) else (bif Nat.beq pc 2 then (.iconst 4, 3, (0, 0, 0), 4, 0, []) else TN))) else (bif Nat.blt pc 9 then (bif Nat.blt pc 6 then (bif Nat.beq pc 3 then (.invokestatic 146, 6, (147, 3, 0), 0, 0, []) else TN) else (bif Nat.beq pc 6 then (.ifCond .eq 22, 9, (28, 0, 0), 0, 0, []) else TN)) else (bif Nat.blt pc 10 then (bif Nat.beq pc 9 then (.iload_n 2, 10, (2, 0, 0), 0, 0, []) else TN) else (bif Nat.beq pc 10 then (.aload_n 0, 11, (0, 0, 0), 0, 0, []) else TN)))) else (bif Nat.blt pc 17 then (bif Nat.blt pc 15 then (bif Nat.blt pc 14 then (bif Nat.beq pc 11 then (.getfield 91, 14, (12, 37, 0), 0, 0, []) else TN) else (bif Nat.beq pc 14 then (.iload_n 1, 15, (1, 0, 0), 0, 0, []) else TN)) else (bif Nat.blt pc 16 then (bif Nat.beq pc 15 then (.iaload, 16, (0, 0, 0), 0, 0, []) else TN) else (bif Nat.beq pc 16 then (.aload_n 0, 17, (0, 0, 0), 0, 0, []) else TN))) else (bif Nat.blt pc 21 then (bif Nat.blt pc 20 then (bif Nat.beq pc 17 then (.getfield 95, 20, (12, 38, 0), 0, 0, []) else TN) else (bif Nat.beq pc 20 then (.iload_n 1, 21, (1, 0, 0), 0, 0, []) else TN)) else (bif Nat.blt pc 22 then (bif Nat.beq pc 21 then (.iaload, 22, (0, 0, 0), 0, 0, []) else TN) else (bif Nat.beq pc 22 then (.invokestatic 146, 25, (147, 3, 0), 0, 0, []) else TN))))) else (bif Nat.blt pc 37 then (bif Nat.blt pc 31 then (bif Nat.blt pc 28 then (bif Nat.beq pc 25 then (.ifCond .ne 6, 28, (31, 0, 0), 0, 0, []) else TN) else (bif Nat.blt pc 30 then (bif Nat.beq pc 28 then (.ldc 156, 30, (0, 0, 0), -1000000001, 0, []) else TN) else (bif Nat.beq pc 30 then (.ireturn, 31, (0, 0, 0), 0, 0, []) else TN))) else (bif Nat.blt pc 35 then (bif Nat.blt pc 32 then (bif Nat.beq pc 31 then (.aload_n 0, 32, (0, 0, 0), 0, 0, []) else TN) else (bif Nat.beq pc 32 then (.getfield 88, 35, (12, 36, 0), 0, 0, []) else TN)) else (bif Nat.blt pc 36 then (bif Nat.beq pc 35 then (.iload_n 1, 36, (1, 0, 0), 0, 0, []) else TN) else (bif Nat.beq pc 36 then (.iaload, 37, (0, 0, 0), 0, 0, []) else TN)))) else (bif Nat.blt pc 43 then (bif Nat.blt pc 39 then (bif Nat.blt pc 38 then (bif Nat.beq pc 37 then (.istore_n 3, 38, (3, 0, 0), 0, 0, []) else TN) else (bif Nat.beq pc 38 then (.aload_n 0, 39, (0, 0, 0), 0, 0, []) else TN)) else (bif Nat.blt pc 42 then (bif Nat.beq pc 39 then (.getfield 88, 42, (12, 36, 0), 0, 0, []) else TN) else (bif Nat.beq pc 42 then (.iload_n 1, 43, (1, 0, 0), 0, 0, []) else TN))) else (bif Nat.blt pc 45 then (bif Nat.blt pc 44 then (bif Nat.beq pc 43 then (.iload_n 2, 44, (2, 0, 0), 0, 0, []) else TN) else (bif Nat.beq pc 44 then (.iastore, 45, (0, 0, 0), 0, 0, []) else TN)) else (bif Nat.blt pc 46 then (bif Nat.beq pc 45 then (.iload_n 3, 46, (3, 0, 0), 0, 0, []) else TN) else (bif Nat.beq pc 46 then (.ireturn, 47, (0, 0, 0), 0, 0, []) else TN)))))
def tb_X12_rule (pc : Nat) : TI := bif Nat.ble 47 pc then TN else tt_X12_rule pc
theorem ok_X12_rule : tOK 12 (decide ("rule" = "<init>")) cX12_rule tb_X12_rule := tOK_of 47 tn_of (by decide +kernel)
def f_X12_rule (L : Lay) (σ : Sto) (a0 : Nat) (a1 : Int32) (a2 : Int32) : Option (Int32 × Sto) := (f_X12_in L σ a1 0 4).bind fun r1 => (if r1 = 0 then some ((-1000000001), σ) else (σ.2.1 a0 37).bind fun x2 => (rI L σ x2 a1).bind fun v3 => (σ.2.1 a0 38).bind fun x4 => (rI L σ x4 a1).bind fun v5 => (f_X12_in L σ a2 v3 v5).bind fun r6 => (if r6 = 0 then some ((-1000000001), σ) else (σ.2.1 a0 36).bind fun x7 => (rI L σ x7 a1).bind fun v8 => (σ.2.1 a0 36).bind fun x9 => (wI L σ x9 a1 a2).bind fun σ10 => some (v8, σ10)))
def ad_X12_rule : ADT := fun O L σ as k => match as with
  | [.inr (.inr (.inl (ta0, some a0))), .inl a1, .inl a2] => bif Nat.beq ta0 12 && true then (f_X12_rule L σ a0 a1 a2).bind fun r => k (some (vI r.1)) L r.2 else none
  | _ => none
abbrev cl_X12_rule {O : Type} : CLT O := (clc 147 ad_X12_in cl0)
theorem hc_X12_rule (G : GT) (l : Launch) {d : Nat} (hd : 2 ≤ d) {O : Type} : HCL G l (true, false) d (cl_X12_rule (O := O)) := (hclc (ca_X12_in G l (d := 1) (Nat.le_refl _)) (fun _ => rfl) (fun e => by cases e) (by omega) hcl0)
theorem rt_X12_rule : retOK (0, 0) (some .int) := ⟨fun _ => rfl, fun h => absurd h (by decide), fun h => absurd h (by decide)⟩
set_option maxRecDepth 20000 in
theorem ca_X12_rule (G : GT) (l : Launch) {d : Nat} (hd : 2 ≤ d) : CA G l 200 (true, false) d ad_X12_rule := by
  intro O L σ as k o h hW hok
  unfold ad_X12_rule at h
  split at h
  · obtain ⟨hq0, hA0⟩ := bif_s h
    obtain ⟨e0, hq1⟩ := beq_and hq0
    subst e0
    obtain ⟨r, hr, hk⟩ := Option.bind_eq_some_iff.mp hA0
    exact ca_of (q := (dcI L) r) (by decide) rfl (Nat.le_of_ble_eq_true rfl) hk (fun _ => rfl) (fun e => by cases e) (exs (sp := []) (K := k0) (L0 := L) (σ0 := σ) ok_X12_rule rt_X12_rule (by omega) (hc_X12_rule G l hd) (hrI rfl) hk0 33 hr (inv0 hW hok))
  · cases h
def tt_X12_says (pc : Nat) : TI := bif Nat.blt pc 28 then (bif Nat.blt pc 11 then (bif Nat.blt pc 5 then (bif Nat.blt pc 1 then (bif Nat.beq pc 0 then (.aload_n 0, 1, (0, 0, 0), 0, 0, []) else TN) else (bif Nat.blt pc 2 then (bif Nat.beq pc 1 then (.iload_n 1, 2, (1, 0, 0), 0, 0, []) else TN) else (bif Nat.beq pc 2 then (.invokevirtual 205, 5, (149, 1, 12), 0, 0, []) else TN))) else (bif Nat.blt pc 9 then (bif Nat.blt pc 8 then (bif Nat.beq pc 5 then (.ifCond .eq 21, 8, (26, 0, 0), 0, 0, []) else TN) else (bif Nat.beq pc 8 then (.iload_n 2, 9, (2, 0, 0), 0, 0, []) else TN)) else (bif Nat.blt pc 10 then (bif Nat.beq pc 9 then (.iconst 0, 10, (0, 0, 0), 0, 0, []) else TN) else (bif Nat.beq pc 10 then (.iconst 1, 11, (0, 0, 0), 1, 0, []) else TN)))) else (bif Nat.blt pc 19 then (bif Nat.blt pc 17 then (bif Nat.blt pc 14 then (bif Nat.beq pc 11 then (.invokestatic 146, 14, (147, 3, 0), 0, 0, []) else TN) else (bif Nat.beq pc 14 then (.ifCond .eq 12, 17, (26, 0, 0), 0, 0, []) else TN)) else (bif Nat.blt pc 18 then (bif Nat.beq pc 17 then (.aload_n 0, 18, (0, 0, 0), 0, 0, []) else TN) else (bif Nat.beq pc 18 then (.iload_n 1, 19, (1, 0, 0), 0, 0, []) else TN))) else (bif Nat.blt pc 23 then (bif Nat.blt pc 20 then (bif Nat.beq pc 19 then (.iload_n 3, 20, (3, 0, 0), 0, 0, []) else TN) else (bif Nat.beq pc 20 then (.invokevirtual 217, 23, (163, 2, 12), 0, 0, []) else TN)) else (bif Nat.blt pc 26 then (bif Nat.beq pc 23 then (.ifCond .ne 6, 26, (29, 0, 0), 0, 0, []) else TN) else (bif Nat.beq pc 26 then (.ldc 156, 28, (0, 0, 0), -1000000001, 0, []) else TN))))) else (bif Nat.blt pc 42 then (bif Nat.blt pc 36 then (bif Nat.blt pc 30 then (bif Nat.blt pc 29 then (bif Nat.beq pc 28 then (.ireturn, 29, (0, 0, 0), 0, 0, []) else TN) else (bif Nat.beq pc 29 then (.aload_n 0, 30, (0, 0, 0), 0, 0, []) else TN)) else (bif Nat.blt pc 33 then (bif Nat.beq pc 30 then (.getfield 338, 33, (12, 27, 0), 0, 0, []) else TN) else (bif Nat.beq pc 33 then (.ifCond .eq 21, 36, (54, 0, 0), 0, 0, []) else TN))) else (bif Nat.blt pc 38 then (bif Nat.blt pc 37 then (bif Nat.beq pc 36 then (.aload_n 0, 37, (0, 0, 0), 0, 0, []) else TN) else (bif Nat.beq pc 37 then (.iload_n 1, 38, (1, 0, 0), 0, 0, []) else TN)) else (bif Nat.blt pc 39 then (bif Nat.beq pc 38 then (.iload_n 2, 39, (2, 0, 0), 0, 0, []) else TN) else (bif Nat.beq pc 39 then (.ifCond .ne 7, 42, (46, 0, 0), 0, 0, []) else TN)))) else (bif Nat.blt pc 48 then (bif Nat.blt pc 46 then (bif Nat.blt pc 43 then (bif Nat.beq pc 42 then (.iconst 0, 43, (0, 0, 0), 0, 0, []) else TN) else (bif Nat.beq pc 43 then (.goto 4, 46, (47, 0, 0), 0, 0, []) else TN)) else (bif Nat.blt pc 47 then (bif Nat.beq pc 46 then (.iconst 2, 47, (0, 0, 0), 2, 0, []) else TN) else (bif Nat.beq pc 47 then (.iload_n 3, 48, (3, 0, 0), 0, 0, []) else TN))) else (bif Nat.blt pc 54 then (bif Nat.blt pc 51 then (bif Nat.beq pc 48 then (.invokevirtual 344, 51, (202, 3, 12), 0, 0, []) else TN) else (bif Nat.beq pc 51 then (.goto 5, 54, (56, 0, 0), 0, 0, []) else TN)) else (bif Nat.blt pc 56 then (bif Nat.beq pc 54 then (.ldc 176, 56, (0, 0, 0), -1000000002, 0, []) else TN) else (bif Nat.beq pc 56 then (.ireturn, 57, (0, 0, 0), 0, 0, []) else TN)))))
def tb_X12_says (pc : Nat) : TI := bif Nat.ble 57 pc then TN else tt_X12_says pc
theorem ok_X12_says : tOK 12 (decide ("says" = "<init>")) cX12_says tb_X12_says := tOK_of 57 tn_of (by decide +kernel)
def f_X12_says_47 (L : Lay) (σ : Sto) (a3 : Int32) (s0 : Int32) (s1 : Int32) (s2 : Nat) : Option (Int32 × Sto) := (f_X12_saysOn L σ s2 s1 s0 a3).bind fun r1 => some (r1.1, r1.2)
def A_X12_says_47 (c : Lay → Sto → Int32 → Int32 → Int32 → Nat → Option (Int32 × Sto)) (lc : List (Option AV)) (st : List AV) (L : Lay) (σ : Sto) : Option (Int32 × Sto) := match lc, st with
  | [_, _, _, some (.inl a3)], [.inl s0, .inl s1, .inr (.inr (.inl (ts2, some s2)))] => bif Nat.beq ts2 12 && true then c L σ a3 s0 s1 s2 else none
  | _, _ => none
def f_X12_says (L : Lay) (σ : Sto) (a0 : Nat) (a1 : Int32) (a2 : Int32) (a3 : Int32) : Option (Int32 × Sto) := (f_X12_isBallot L σ a0 a1).bind fun r2 => (if r2 = 0 then some ((-1000000001), σ) else (f_X12_in L σ a2 0 1).bind fun r3 => (if r3 = 0 then some ((-1000000001), σ) else (f_X12_isTime L σ a0 a1 a3).bind fun r4 => (if r4 = 0 then some ((-1000000001), σ) else (if (σ.1 a0 27) = 0 then some ((-1000000002), σ) else (if a2 = 0 then (f_X12_says_47) L σ a3 0 a1 a0 else (f_X12_says_47) L σ a3 2 a1 a0)))))
def ad_X12_says : ADT := fun O L σ as k => match as with
  | [.inr (.inr (.inl (ta0, some a0))), .inl a1, .inl a2, .inl a3] => bif Nat.beq ta0 12 && true then (f_X12_says L σ a0 a1 a2 a3).bind fun r => k (some (vI r.1)) L r.2 else none
  | _ => none
abbrev cl_X12_says {O : Type} : CLT O := (clc 202 ad_X12_saysOn (clc 149 ad_X12_isBallot (clc 147 ad_X12_in (clc 163 ad_X12_isTime cl0))))
theorem hc_X12_says (G : GT) (l : Launch) {d : Nat} (hd : 109 ≤ d) {O : Type} : HCL G l (true, false) d (cl_X12_says (O := O)) := (hclc (ca_X12_saysOn G l (d := 108) (Nat.le_refl _)) (fun _ => rfl) (fun e => by cases e) (by omega) (hclc (ca_X12_isBallot G l (d := 2) (Nat.le_refl _)) (fun _ => rfl) (fun e => by cases e) (by omega) (hclc (ca_X12_in G l (d := 1) (Nat.le_refl _)) (fun _ => rfl) (fun e => by cases e) (by omega) (hclc (ca_X12_isTime G l (d := 2) (Nat.le_refl _)) (fun _ => rfl) (fun e => by cases e) (by omega) hcl0))))
theorem rt_X12_says : retOK (0, 0) (some .int) := ⟨fun _ => rfl, fun h => absurd h (by decide), fun h => absurd h (by decide)⟩
set_option maxRecDepth 20000 in
theorem b_X12_says_47 {G : GT} {l : Launch} {d : Nat} {L0 : Lay} {σ0 : Sto} (hd : 109 ≤ d) : HF G l 12 "says" cX12_says 4 (some .int) d L0 σ0 (true, false) (dcI L0) 47 (A_X12_says_47 f_X12_says_47) := by
  intro lc st L σ o h hI
  unfold A_X12_says_47 at h
  split at h
  · obtain ⟨hq0, hA1⟩ := bif_s h
    obtain ⟨e0, hq1⟩ := beq_and hq0
    subst e0
    exact exs (sp := []) (K := k0) ok_X12_says rt_X12_says (by omega) (hc_X12_says G l hd) (hrI rfl) hk0 34 hA1 hI
  · cases h
set_option maxRecDepth 20000 in
theorem ca_X12_says (G : GT) (l : Launch) {d : Nat} (hd : 109 ≤ d) : CA G l 201 (true, false) d ad_X12_says := by
  intro O L σ as k o h hW hok
  unfold ad_X12_says at h
  split at h
  · obtain ⟨hq0, hA0⟩ := bif_s h
    obtain ⟨e0, hq1⟩ := beq_and hq0
    subst e0
    obtain ⟨r, hr, hk⟩ := Option.bind_eq_some_iff.mp hA0
    exact ca_of (q := (dcI L) r) (by decide) rfl (Nat.le_of_ble_eq_true rfl) hk (fun _ => rfl) (fun e => by cases e) (exs (sp := [47]) (K := (kc 47 (A_X12_says_47 (f_X12_says_47)) k0)) (L0 := L) (σ0 := σ) ok_X12_says rt_X12_says (by omega) (hc_X12_says G l hd) (hrI rfl) (hkc (b_X12_says_47 hd) hk0) 34 hr (inv0 hW hok))
  · cases h
def tt_X12_send (pc : Nat) : TI := bif Nat.blt pc 37 then (bif Nat.blt pc 19 then (bif Nat.blt pc 9 then (bif Nat.blt pc 2 then (bif Nat.blt pc 1 then (bif Nat.beq pc 0 then (.aload_n 0, 1, (0, 0, 0), 0, 0, []) else TN) else (bif Nat.beq pc 1 then (.iload_n 1, 2, (1, 0, 0), 0, 0, []) else TN)) else (bif Nat.blt pc 5 then (bif Nat.beq pc 2 then (.invokevirtual 205, 5, (149, 1, 12), 0, 0, []) else TN) else (bif Nat.blt pc 8 then (bif Nat.beq pc 5 then (.ifCond .eq 11, 8, (16, 0, 0), 0, 0, []) else TN) else (bif Nat.beq pc 8 then (.aload_n 0, 9, (0, 0, 0), 0, 0, []) else TN)))) else (bif Nat.blt pc 13 then (bif Nat.blt pc 10 then (bif Nat.beq pc 9 then (.iload_n 2, 10, (2, 0, 0), 0, 0, []) else TN) else (bif Nat.beq pc 10 then (.invokevirtual 169, 13, (157, 1, 12), 0, 0, []) else TN)) else (bif Nat.blt pc 16 then (bif Nat.beq pc 13 then (.ifCond .ne 6, 16, (19, 0, 0), 0, 0, []) else TN) else (bif Nat.blt pc 18 then (bif Nat.beq pc 16 then (.ldc 156, 18, (0, 0, 0), -1000000001, 0, []) else TN) else (bif Nat.beq pc 18 then (.ireturn, 19, (0, 0, 0), 0, 0, []) else TN))))) else (bif Nat.blt pc 26 then (bif Nat.blt pc 23 then (bif Nat.blt pc 20 then (bif Nat.beq pc 19 then (.aload_n 0, 20, (0, 0, 0), 0, 0, []) else TN) else (bif Nat.beq pc 20 then (.getfield 49, 23, (12, 19, 0), 0, 0, []) else TN)) else (bif Nat.blt pc 24 then (bif Nat.beq pc 23 then (.iload_n 1, 24, (1, 0, 0), 0, 0, []) else TN) else (bif Nat.blt pc 25 then (bif Nat.beq pc 24 then (.iaload, 25, (0, 0, 0), 0, 0, []) else TN) else (bif Nat.beq pc 25 then (.iconst (-1), 26, (0, 0, 0), -1, 0, []) else TN)))) else (bif Nat.blt pc 33 then (bif Nat.blt pc 29 then (bif Nat.beq pc 26 then (.if_icmp .ne 18, 29, (44, 0, 0), 0, 0, []) else TN) else (bif Nat.blt pc 30 then (bif Nat.beq pc 29 then (.aload_n 0, 30, (0, 0, 0), 0, 0, []) else TN) else (bif Nat.beq pc 30 then (.getfield 52, 33, (12, 20, 0), 0, 0, []) else TN))) else (bif Nat.blt pc 35 then (bif Nat.beq pc 33 then (.bipush 40, 35, (0, 0, 0), 40, 0, []) else TN) else (bif Nat.blt pc 36 then (bif Nat.beq pc 35 then (.iload_n 1, 36, (1, 0, 0), 0, 0, []) else TN) else (bif Nat.beq pc 36 then (.imul, 37, (0, 0, 0), 0, 0, []) else TN)))))) else (bif Nat.blt pc 53 then (bif Nat.blt pc 44 then (bif Nat.blt pc 39 then (bif Nat.blt pc 38 then (bif Nat.beq pc 37 then (.iload_n 2, 38, (2, 0, 0), 0, 0, []) else TN) else (bif Nat.beq pc 38 then (.iadd, 39, (0, 0, 0), 0, 0, []) else TN)) else (bif Nat.blt pc 40 then (bif Nat.beq pc 39 then (.iaload, 40, (0, 0, 0), 0, 0, []) else TN) else (bif Nat.blt pc 41 then (bif Nat.beq pc 40 then (.iconst (-1), 41, (0, 0, 0), -1, 0, []) else TN) else (bif Nat.beq pc 41 then (.if_icmp .eq 6, 44, (47, 0, 0), 0, 0, []) else TN)))) else (bif Nat.blt pc 47 then (bif Nat.blt pc 46 then (bif Nat.beq pc 44 then (.ldc 176, 46, (0, 0, 0), -1000000002, 0, []) else TN) else (bif Nat.beq pc 46 then (.ireturn, 47, (0, 0, 0), 0, 0, []) else TN)) else (bif Nat.blt pc 48 then (bif Nat.beq pc 47 then (.aload_n 0, 48, (0, 0, 0), 0, 0, []) else TN) else (bif Nat.blt pc 51 then (bif Nat.beq pc 48 then (.getfield 52, 51, (12, 20, 0), 0, 0, []) else TN) else (bif Nat.beq pc 51 then (.bipush 40, 53, (0, 0, 0), 40, 0, []) else TN))))) else (bif Nat.blt pc 58 then (bif Nat.blt pc 55 then (bif Nat.blt pc 54 then (bif Nat.beq pc 53 then (.iload_n 1, 54, (1, 0, 0), 0, 0, []) else TN) else (bif Nat.beq pc 54 then (.imul, 55, (0, 0, 0), 0, 0, []) else TN)) else (bif Nat.blt pc 56 then (bif Nat.beq pc 55 then (.iload_n 2, 56, (2, 0, 0), 0, 0, []) else TN) else (bif Nat.blt pc 57 then (bif Nat.beq pc 56 then (.iadd, 57, (0, 0, 0), 0, 0, []) else TN) else (bif Nat.beq pc 57 then (.aload_n 0, 58, (0, 0, 0), 0, 0, []) else TN)))) else (bif Nat.blt pc 63 then (bif Nat.blt pc 61 then (bif Nat.beq pc 58 then (.getfield 166, 61, (12, 1, 0), 0, 0, []) else TN) else (bif Nat.blt pc 62 then (bif Nat.beq pc 61 then (.iastore, 62, (0, 0, 0), 0, 0, []) else TN) else (bif Nat.beq pc 62 then (.aload_n 0, 63, (0, 0, 0), 0, 0, []) else TN))) else (bif Nat.blt pc 64 then (bif Nat.beq pc 63 then (.iload_n 1, 64, (1, 0, 0), 0, 0, []) else TN) else (bif Nat.blt pc 67 then (bif Nat.beq pc 64 then (.invokevirtual 208, 67, (191, 1, 12), 0, 0, []) else TN) else (bif Nat.beq pc 67 then (.ireturn, 68, (0, 0, 0), 0, 0, []) else TN))))))
def tb_X12_send (pc : Nat) : TI := bif Nat.ble 68 pc then TN else tt_X12_send pc
theorem ok_X12_send : tOK 12 (decide ("send" = "<init>")) cX12_send tb_X12_send := tOK_of 68 tn_of (by decide +kernel)
def f_X12_send (L : Lay) (σ : Sto) (a0 : Nat) (a1 : Int32) (a2 : Int32) : Option (Int32 × Sto) := (f_X12_isBallot L σ a0 a1).bind fun r1 => (if r1 = 0 then some ((-1000000001), σ) else (f_X12_isMember L σ a0 a2).bind fun r2 => (if r2 = 0 then some ((-1000000001), σ) else (σ.2.1 a0 19).bind fun x3 => (rI L σ x3 a1).bind fun v4 => (if v4 = (-1) then (σ.2.1 a0 20).bind fun x5 => (rI L σ x5 ((40 * a1) + a2)).bind fun v6 => (if v6 = (-1) then (σ.2.1 a0 20).bind fun x7 => (wI L σ x7 ((40 * a1) + a2) (σ.1 a0 1)).bind fun σ8 => (f_X12_papers L σ8 a0 a1).bind fun r9 => some (r9, σ8) else some ((-1000000002), σ)) else some ((-1000000002), σ))))
def ad_X12_send : ADT := fun O L σ as k => match as with
  | [.inr (.inr (.inl (ta0, some a0))), .inl a1, .inl a2] => bif Nat.beq ta0 12 && true then (f_X12_send L σ a0 a1 a2).bind fun r => k (some (vI r.1)) L r.2 else none
  | _ => none
abbrev cl_X12_send {O : Type} : CLT O := (clc 149 ad_X12_isBallot (clc 157 ad_X12_isMember (clc 191 ad_X12_papers cl0)))
theorem hc_X12_send (G : GT) (l : Launch) {d : Nat} (hd : 3 ≤ d) {O : Type} : HCL G l (true, false) d (cl_X12_send (O := O)) := (hclc (ca_X12_isBallot G l (d := 2) (Nat.le_refl _)) (fun _ => rfl) (fun e => by cases e) (by omega) (hclc (ca_X12_isMember G l (d := 2) (Nat.le_refl _)) (fun _ => rfl) (fun e => by cases e) (by omega) (hclc (ca_X12_papers G l (d := 1) (Nat.le_refl _)) (fun _ => rfl) (fun e => by cases e) (by omega) hcl0)))
theorem rt_X12_send : retOK (0, 0) (some .int) := ⟨fun _ => rfl, fun h => absurd h (by decide), fun h => absurd h (by decide)⟩
set_option maxRecDepth 20000 in
theorem ca_X12_send (G : GT) (l : Launch) {d : Nat} (hd : 3 ≤ d) : CA G l 203 (true, false) d ad_X12_send := by
  intro O L σ as k o h hW hok
  unfold ad_X12_send at h
  split at h
  · obtain ⟨hq0, hA0⟩ := bif_s h
    obtain ⟨e0, hq1⟩ := beq_and hq0
    subst e0
    obtain ⟨r, hr, hk⟩ := Option.bind_eq_some_iff.mp hA0
    exact ca_of (q := (dcI L) r) (by decide) rfl (Nat.le_of_ble_eq_true rfl) hk (fun _ => rfl) (fun e => by cases e) (exs (sp := []) (K := k0) (L0 := L) (σ0 := σ) ok_X12_send rt_X12_send (by omega) (hc_X12_send G l hd) (hrI rfl) hk0 45 hr (inv0 hW hok))
  · cases h
def tt_X12_sendAll (pc : Nat) : TI := bif Nat.blt pc 42 then (bif Nat.blt pc 23 then (bif Nat.blt pc 11 then (bif Nat.blt pc 5 then (bif Nat.blt pc 1 then (bif Nat.beq pc 0 then (.aload_n 0, 1, (0, 0, 0), 0, 0, []) else TN) else (bif Nat.blt pc 2 then (bif Nat.beq pc 1 then (.iload_n 1, 2, (1, 0, 0), 0, 0, []) else TN) else (bif Nat.beq pc 2 then (.invokevirtual 205, 5, (149, 1, 12), 0, 0, []) else TN))) else (bif Nat.blt pc 8 then (bif Nat.beq pc 5 then (.ifCond .ne 6, 8, (11, 0, 0), 0, 0, []) else TN) else (bif Nat.blt pc 10 then (bif Nat.beq pc 8 then (.ldc 156, 10, (0, 0, 0), -1000000001, 0, []) else TN) else (bif Nat.beq pc 10 then (.ireturn, 11, (0, 0, 0), 0, 0, []) else TN)))) else (bif Nat.blt pc 16 then (bif Nat.blt pc 12 then (bif Nat.beq pc 11 then (.aload_n 0, 12, (0, 0, 0), 0, 0, []) else TN) else (bif Nat.blt pc 15 then (bif Nat.beq pc 12 then (.getfield 49, 15, (12, 19, 0), 0, 0, []) else TN) else (bif Nat.beq pc 15 then (.iload_n 1, 16, (1, 0, 0), 0, 0, []) else TN))) else (bif Nat.blt pc 18 then (bif Nat.blt pc 17 then (bif Nat.beq pc 16 then (.iaload, 17, (0, 0, 0), 0, 0, []) else TN) else (bif Nat.beq pc 17 then (.iconst (-1), 18, (0, 0, 0), -1, 0, []) else TN)) else (bif Nat.blt pc 21 then (bif Nat.beq pc 18 then (.if_icmp .eq 6, 21, (24, 0, 0), 0, 0, []) else TN) else (bif Nat.beq pc 21 then (.ldc 176, 23, (0, 0, 0), -1000000002, 0, []) else TN))))) else (bif Nat.blt pc 29 then (bif Nat.blt pc 26 then (bif Nat.blt pc 24 then (bif Nat.beq pc 23 then (.ireturn, 24, (0, 0, 0), 0, 0, []) else TN) else (bif Nat.blt pc 25 then (bif Nat.beq pc 24 then (.iconst 0, 25, (0, 0, 0), 0, 0, []) else TN) else (bif Nat.beq pc 25 then (.istore_n 2, 26, (2, 0, 0), 0, 0, []) else TN))) else (bif Nat.blt pc 27 then (bif Nat.beq pc 26 then (.iconst 0, 27, (0, 0, 0), 0, 0, []) else TN) else (bif Nat.blt pc 28 then (bif Nat.beq pc 27 then (.istore_n 3, 28, (3, 0, 0), 0, 0, []) else TN) else (bif Nat.beq pc 28 then (.iload_n 3, 29, (3, 0, 0), 0, 0, []) else TN)))) else (bif Nat.blt pc 36 then (bif Nat.blt pc 30 then (bif Nat.beq pc 29 then (.aload_n 0, 30, (0, 0, 0), 0, 0, []) else TN) else (bif Nat.blt pc 33 then (bif Nat.beq pc 30 then (.getfield 150, 33, (12, 4, 0), 0, 0, []) else TN) else (bif Nat.beq pc 33 then (.if_icmp .ge 51, 36, (84, 0, 0), 0, 0, []) else TN))) else (bif Nat.blt pc 38 then (bif Nat.blt pc 37 then (bif Nat.beq pc 36 then (.aload_n 0, 37, (0, 0, 0), 0, 0, []) else TN) else (bif Nat.beq pc 37 then (.iload_n 1, 38, (1, 0, 0), 0, 0, []) else TN)) else (bif Nat.blt pc 39 then (bif Nat.beq pc 38 then (.iload_n 3, 39, (3, 0, 0), 0, 0, []) else TN) else (bif Nat.beq pc 39 then (.invokevirtual 211, 42, (152, 2, 12), 0, 0, []) else TN)))))) else (bif Nat.blt pc 64 then (bif Nat.blt pc 53 then (bif Nat.blt pc 49 then (bif Nat.blt pc 45 then (bif Nat.beq pc 42 then (.ifCond .eq 36, 45, (78, 0, 0), 0, 0, []) else TN) else (bif Nat.blt pc 46 then (bif Nat.beq pc 45 then (.aload_n 0, 46, (0, 0, 0), 0, 0, []) else TN) else (bif Nat.beq pc 46 then (.getfield 52, 49, (12, 20, 0), 0, 0, []) else TN))) else (bif Nat.blt pc 51 then (bif Nat.beq pc 49 then (.bipush 40, 51, (0, 0, 0), 40, 0, []) else TN) else (bif Nat.blt pc 52 then (bif Nat.beq pc 51 then (.iload_n 1, 52, (1, 0, 0), 0, 0, []) else TN) else (bif Nat.beq pc 52 then (.imul, 53, (0, 0, 0), 0, 0, []) else TN)))) else (bif Nat.blt pc 56 then (bif Nat.blt pc 54 then (bif Nat.beq pc 53 then (.iload_n 3, 54, (3, 0, 0), 0, 0, []) else TN) else (bif Nat.blt pc 55 then (bif Nat.beq pc 54 then (.iadd, 55, (0, 0, 0), 0, 0, []) else TN) else (bif Nat.beq pc 55 then (.iaload, 56, (0, 0, 0), 0, 0, []) else TN))) else (bif Nat.blt pc 60 then (bif Nat.blt pc 57 then (bif Nat.beq pc 56 then (.iconst (-1), 57, (0, 0, 0), -1, 0, []) else TN) else (bif Nat.beq pc 57 then (.if_icmp .ne 21, 60, (78, 0, 0), 0, 0, []) else TN)) else (bif Nat.blt pc 61 then (bif Nat.beq pc 60 then (.aload_n 0, 61, (0, 0, 0), 0, 0, []) else TN) else (bif Nat.beq pc 61 then (.getfield 52, 64, (12, 20, 0), 0, 0, []) else TN))))) else (bif Nat.blt pc 71 then (bif Nat.blt pc 68 then (bif Nat.blt pc 66 then (bif Nat.beq pc 64 then (.bipush 40, 66, (0, 0, 0), 40, 0, []) else TN) else (bif Nat.blt pc 67 then (bif Nat.beq pc 66 then (.iload_n 1, 67, (1, 0, 0), 0, 0, []) else TN) else (bif Nat.beq pc 67 then (.imul, 68, (0, 0, 0), 0, 0, []) else TN))) else (bif Nat.blt pc 69 then (bif Nat.beq pc 68 then (.iload_n 3, 69, (3, 0, 0), 0, 0, []) else TN) else (bif Nat.blt pc 70 then (bif Nat.beq pc 69 then (.iadd, 70, (0, 0, 0), 0, 0, []) else TN) else (bif Nat.beq pc 70 then (.aload_n 0, 71, (0, 0, 0), 0, 0, []) else TN)))) else (bif Nat.blt pc 78 then (bif Nat.blt pc 74 then (bif Nat.beq pc 71 then (.getfield 166, 74, (12, 1, 0), 0, 0, []) else TN) else (bif Nat.blt pc 75 then (bif Nat.beq pc 74 then (.iastore, 75, (0, 0, 0), 0, 0, []) else TN) else (bif Nat.beq pc 75 then (.iinc 2 1, 78, (2, 0, 0), 1, 0, []) else TN))) else (bif Nat.blt pc 84 then (bif Nat.blt pc 81 then (bif Nat.beq pc 78 then (.iinc 3 1, 81, (3, 0, 0), 1, 0, []) else TN) else (bif Nat.beq pc 81 then (.goto (-53), 84, (28, 0, 0), 0, 0, []) else TN)) else (bif Nat.blt pc 85 then (bif Nat.beq pc 84 then (.iload_n 2, 85, (2, 0, 0), 0, 0, []) else TN) else (bif Nat.beq pc 85 then (.ireturn, 86, (0, 0, 0), 0, 0, []) else TN))))))
def tb_X12_sendAll (pc : Nat) : TI := bif Nat.ble 86 pc then TN else tt_X12_sendAll pc
theorem ok_X12_sendAll : tOK 12 (decide ("sendAll" = "<init>")) cX12_sendAll tb_X12_sendAll := tOK_of 86 tn_of (by decide +kernel)
def f_X12_sendAll_78 (c28 : Lay → Sto → Nat → Int32 → Int32 → Int32 → Option (Int32 × Sto)) (L : Lay) (σ : Sto) (a0 : Nat) (a1 : Int32) (a2 : Int32) (a3 : Int32) : Option (Int32 × Sto) := c28 L σ a0 a1 a2 (a3 + 1)
def A_X12_sendAll_78 (c : Lay → Sto → Nat → Int32 → Int32 → Int32 → Option (Int32 × Sto)) (lc : List (Option AV)) (st : List AV) (L : Lay) (σ : Sto) : Option (Int32 × Sto) := match lc, st with
  | [some (.inr (.inr (.inl (ta0, some a0)))), some (.inl a1), some (.inl a2), some (.inl a3)], [] => bif Nat.beq ta0 12 && true then c L σ a0 a1 a2 a3 else none
  | _, _ => none
def f_X12_sendAll_28 : Nat → Lay → Sto → Nat → Int32 → Int32 → Int32 → Option (Int32 × Sto)
  | 0 => fun _ _ _ _ _ _ => none
  | k + 1 => fun L σ a0 a1 a2 a3 => (if (σ.1 a0 4) ≤ a3 then some (a2, σ) else (f_X12_isEntitled L σ a0 a1 a3).bind fun r1 => (if r1 = 0 then (f_X12_sendAll_78 (f_X12_sendAll_28 k)) L σ a0 a1 a2 a3 else (σ.2.1 a0 20).bind fun x2 => (rI L σ x2 ((40 * a1) + a3)).bind fun v3 => (if v3 = (-1) then (σ.2.1 a0 20).bind fun x4 => (wI L σ x4 ((40 * a1) + a3) (σ.1 a0 1)).bind fun σ5 => (f_X12_sendAll_78 (f_X12_sendAll_28 k)) L σ5 a0 a1 (a2 + 1) a3 else (f_X12_sendAll_78 (f_X12_sendAll_28 k)) L σ a0 a1 a2 a3)))
def A_X12_sendAll_28 (c : Lay → Sto → Nat → Int32 → Int32 → Int32 → Option (Int32 × Sto)) (lc : List (Option AV)) (st : List AV) (L : Lay) (σ : Sto) : Option (Int32 × Sto) := match lc, st with
  | [some (.inr (.inr (.inl (ta0, some a0)))), some (.inl a1), some (.inl a2), some (.inl a3)], [] => bif Nat.beq ta0 12 && true then c L σ a0 a1 a2 a3 else none
  | _, _ => none
def f_X12_sendAll (L : Lay) (σ : Sto) (a0 : Nat) (a1 : Int32) : Option (Int32 × Sto) := (f_X12_isBallot L σ a0 a1).bind fun r6 => (if r6 = 0 then some ((-1000000001), σ) else (σ.2.1 a0 19).bind fun x7 => (rI L σ x7 a1).bind fun v8 => (if v8 = (-1) then (f_X12_sendAll_28 FU) L σ a0 a1 0 0 else some ((-1000000002), σ)))
def ad_X12_sendAll : ADT := fun O L σ as k => match as with
  | [.inr (.inr (.inl (ta0, some a0))), .inl a1] => bif Nat.beq ta0 12 && true then (f_X12_sendAll L σ a0 a1).bind fun r => k (some (vI r.1)) L r.2 else none
  | _ => none
abbrev cl_X12_sendAll {O : Type} : CLT O := (clc 152 ad_X12_isEntitled (clc 149 ad_X12_isBallot cl0))
theorem hc_X12_sendAll (G : GT) (l : Launch) {d : Nat} (hd : 4 ≤ d) {O : Type} : HCL G l (true, false) d (cl_X12_sendAll (O := O)) := (hclc (ca_X12_isEntitled G l (d := 3) (Nat.le_refl _)) (fun _ => rfl) (fun e => by cases e) (by omega) (hclc (ca_X12_isBallot G l (d := 2) (Nat.le_refl _)) (fun _ => rfl) (fun e => by cases e) (by omega) hcl0))
theorem rt_X12_sendAll : retOK (0, 0) (some .int) := ⟨fun _ => rfl, fun h => absurd h (by decide), fun h => absurd h (by decide)⟩
set_option maxRecDepth 20000 in
theorem b_X12_sendAll_78 {G : GT} {l : Launch} {d : Nat} {L0 : Lay} {σ0 : Sto} (hd : 4 ≤ d) {c28 : Lay → Sto → Nat → Int32 → Int32 → Int32 → Option (Int32 × Sto)} (h28 : HF G l 12 "sendAll" cX12_sendAll 4 (some .int) d L0 σ0 (true, false) (dcI L0) 28 (A_X12_sendAll_28 c28)) : HF G l 12 "sendAll" cX12_sendAll 4 (some .int) d L0 σ0 (true, false) (dcI L0) 78 (A_X12_sendAll_78 (f_X12_sendAll_78 c28)) := by
  intro lc st L σ o h hI
  unfold A_X12_sendAll_78 at h
  split at h
  · obtain ⟨hq0, hA1⟩ := bif_s h
    obtain ⟨e0, hq1⟩ := beq_and hq0
    subst e0
    exact exs (sp := [28]) (K := (kc 28 (A_X12_sendAll_28 c28) k0)) ok_X12_sendAll rt_X12_sendAll (by omega) (hc_X12_sendAll G l hd) (hrI rfl) (hkc h28 hk0) 55 hA1 hI
  · cases h
set_option maxRecDepth 20000 in
theorem b_X12_sendAll_28 {G : GT} {l : Launch} {d : Nat} {L0 : Lay} {σ0 : Sto} (hd : 4 ≤ d) : ∀ k : Nat, HF G l 12 "sendAll" cX12_sendAll 4 (some .int) d L0 σ0 (true, false) (dcI L0) 28 (A_X12_sendAll_28 (f_X12_sendAll_28 k))
  | 0 => by
    intro lc st L σ o h hI
    unfold A_X12_sendAll_28 at h
    split at h
    · obtain ⟨_, hA1⟩ := bif_s h
      cases hA1
    · cases h
  | k + 1 => by
    have ih := b_X12_sendAll_28 (G := G) (l := l) (d := d) (L0 := L0) (σ0 := σ0) hd k
    intro lc st L σ o h hI
    unfold A_X12_sendAll_28 at h
    split at h
    · obtain ⟨hq0, hA1⟩ := bif_s h
      obtain ⟨e0, hq1⟩ := beq_and hq0
      subst e0
      exact exs (sp := [78]) (K := (kc 78 (A_X12_sendAll_78 (f_X12_sendAll_78 (f_X12_sendAll_28 k))) k0)) ok_X12_sendAll rt_X12_sendAll (by omega) (hc_X12_sendAll G l hd) (hrI rfl) (hkc (b_X12_sendAll_78 hd ih) hk0) 55 hA1 hI
    · cases h
set_option maxRecDepth 20000 in
theorem ca_X12_sendAll (G : GT) (l : Launch) {d : Nat} (hd : 4 ≤ d) : CA G l 204 (true, false) d ad_X12_sendAll := by
  intro O L σ as k o h hW hok
  unfold ad_X12_sendAll at h
  split at h
  · obtain ⟨hq0, hA0⟩ := bif_s h
    obtain ⟨e0, hq1⟩ := beq_and hq0
    subst e0
    obtain ⟨r, hr, hk⟩ := Option.bind_eq_some_iff.mp hA0
    exact ca_of (q := (dcI L) r) (by decide) rfl (Nat.le_of_ble_eq_true rfl) hk (fun _ => rfl) (fun e => by cases e) (exs (sp := [28]) (K := (kc 28 (A_X12_sendAll_28 (f_X12_sendAll_28 FU)) k0)) (L0 := L) (σ0 := σ) ok_X12_sendAll rt_X12_sendAll (by omega) (hc_X12_sendAll G l hd) (hrI rfl) (hkc (b_X12_sendAll_28 hd FU) hk0) 55 hr (inv0 hW hok))
  · cases h
def tt_X12_sheet (pc : Nat) : TI := bif Nat.blt pc 31 then (bif Nat.blt pc 16 then (bif Nat.blt pc 8 then (bif Nat.blt pc 4 then (bif Nat.blt pc 1 then (bif Nat.beq pc 0 then (.iload_n 1, 1, (1, 0, 0), 0, 0, []) else TN) else (bif Nat.beq pc 1 then (.invokestatic 185, 4, (161, 1, 0), 0, 0, []) else TN)) else (bif Nat.blt pc 7 then (bif Nat.beq pc 4 then (.ifCond .eq 9, 7, (13, 0, 0), 0, 0, []) else TN) else (bif Nat.beq pc 7 then (.iload_n 2, 8, (2, 0, 0), 0, 0, []) else TN))) else (bif Nat.blt pc 13 then (bif Nat.blt pc 10 then (bif Nat.beq pc 8 then (.bipush 40, 10, (0, 0, 0), 40, 0, []) else TN) else (bif Nat.beq pc 10 then (.if_icmp .le 6, 13, (16, 0, 0), 0, 0, []) else TN)) else (bif Nat.blt pc 15 then (bif Nat.beq pc 13 then (.ldc 156, 15, (0, 0, 0), -1000000001, 0, []) else TN) else (bif Nat.beq pc 15 then (.ireturn, 16, (0, 0, 0), 0, 0, []) else TN)))) else (bif Nat.blt pc 24 then (bif Nat.blt pc 20 then (bif Nat.blt pc 17 then (bif Nat.beq pc 16 then (.iload_n 2, 17, (2, 0, 0), 0, 0, []) else TN) else (bif Nat.beq pc 17 then (.ifCond .ge 7, 20, (24, 0, 0), 0, 0, []) else TN)) else (bif Nat.blt pc 23 then (bif Nat.beq pc 20 then (.ldc_w 393, 23, (0, 0, 0), -1000000014, 0, []) else TN) else (bif Nat.beq pc 23 then (.ireturn, 24, (0, 0, 0), 0, 0, []) else TN))) else (bif Nat.blt pc 28 then (bif Nat.blt pc 25 then (bif Nat.beq pc 24 then (.aload_n 0, 25, (0, 0, 0), 0, 0, []) else TN) else (bif Nat.beq pc 25 then (.getfield 101, 28, (12, 41, 0), 0, 0, []) else TN)) else (bif Nat.blt pc 29 then (bif Nat.beq pc 28 then (.iload_n 1, 29, (1, 0, 0), 0, 0, []) else TN) else (bif Nat.blt pc 30 then (bif Nat.beq pc 29 then (.iload_n 2, 30, (2, 0, 0), 0, 0, []) else TN) else (bif Nat.beq pc 30 then (.iastore, 31, (0, 0, 0), 0, 0, []) else TN)))))) else (bif Nat.blt pc 46 then (bif Nat.blt pc 36 then (bif Nat.blt pc 33 then (bif Nat.blt pc 32 then (bif Nat.beq pc 31 then (.iconst 0, 32, (0, 0, 0), 0, 0, []) else TN) else (bif Nat.beq pc 32 then (.istore_n 3, 33, (3, 0, 0), 0, 0, []) else TN)) else (bif Nat.blt pc 34 then (bif Nat.beq pc 33 then (.iload_n 3, 34, (3, 0, 0), 0, 0, []) else TN) else (bif Nat.beq pc 34 then (.bipush 40, 36, (0, 0, 0), 40, 0, []) else TN))) else (bif Nat.blt pc 40 then (bif Nat.blt pc 39 then (bif Nat.beq pc 36 then (.if_icmp .ge 21, 39, (57, 0, 0), 0, 0, []) else TN) else (bif Nat.beq pc 39 then (.aload_n 0, 40, (0, 0, 0), 0, 0, []) else TN)) else (bif Nat.blt pc 43 then (bif Nat.beq pc 40 then (.getfield 104, 43, (12, 42, 0), 0, 0, []) else TN) else (bif Nat.blt pc 45 then (bif Nat.beq pc 43 then (.bipush 40, 45, (0, 0, 0), 40, 0, []) else TN) else (bif Nat.beq pc 45 then (.iload_n 1, 46, (1, 0, 0), 0, 0, []) else TN))))) else (bif Nat.blt pc 50 then (bif Nat.blt pc 48 then (bif Nat.blt pc 47 then (bif Nat.beq pc 46 then (.imul, 47, (0, 0, 0), 0, 0, []) else TN) else (bif Nat.beq pc 47 then (.iload_n 3, 48, (3, 0, 0), 0, 0, []) else TN)) else (bif Nat.blt pc 49 then (bif Nat.beq pc 48 then (.iadd, 49, (0, 0, 0), 0, 0, []) else TN) else (bif Nat.beq pc 49 then (.iconst 0, 50, (0, 0, 0), 0, 0, []) else TN))) else (bif Nat.blt pc 54 then (bif Nat.blt pc 51 then (bif Nat.beq pc 50 then (.sastore, 51, (0, 0, 0), 0, 0, []) else TN) else (bif Nat.beq pc 51 then (.iinc 3 1, 54, (3, 0, 0), 1, 0, []) else TN)) else (bif Nat.blt pc 57 then (bif Nat.beq pc 54 then (.goto (-21), 57, (33, 0, 0), 0, 0, []) else TN) else (bif Nat.blt pc 58 then (bif Nat.beq pc 57 then (.iload_n 2, 58, (2, 0, 0), 0, 0, []) else TN) else (bif Nat.beq pc 58 then (.ireturn, 59, (0, 0, 0), 0, 0, []) else TN))))))
def tb_X12_sheet (pc : Nat) : TI := bif Nat.ble 59 pc then TN else tt_X12_sheet pc
theorem ok_X12_sheet : tOK 12 (decide ("sheet" = "<init>")) cX12_sheet tb_X12_sheet := tOK_of 59 tn_of (by decide +kernel)
def f_X12_sheet_33 : Nat → Lay → Sto → Nat → Int32 → Int32 → Int32 → Option (Int32 × Sto)
  | 0 => fun _ _ _ _ _ _ => none
  | k + 1 => fun L σ a0 a1 a2 a3 => (if 40 ≤ a3 then some (a2, σ) else (σ.2.1 a0 42).bind fun x1 => (wI L σ x1 ((40 * a1) + a3) (nSh 0)).bind fun σ2 => (f_X12_sheet_33 k) L σ2 a0 a1 a2 (a3 + 1))
def A_X12_sheet_33 (c : Lay → Sto → Nat → Int32 → Int32 → Int32 → Option (Int32 × Sto)) (lc : List (Option AV)) (st : List AV) (L : Lay) (σ : Sto) : Option (Int32 × Sto) := match lc, st with
  | [some (.inr (.inr (.inl (ta0, some a0)))), some (.inl a1), some (.inl a2), some (.inl a3)], [] => bif Nat.beq ta0 12 && true then c L σ a0 a1 a2 a3 else none
  | _, _ => none
def f_X12_sheet (L : Lay) (σ : Sto) (a0 : Nat) (a1 : Int32) (a2 : Int32) : Option (Int32 × Sto) := (f_X12_isSheet L σ a1).bind fun r3 => (if r3 = 0 then some ((-1000000001), σ) else (if a2 ≤ 40 then (if 0 ≤ a2 then (σ.2.1 a0 41).bind fun x4 => (wI L σ x4 a1 a2).bind fun σ5 => (f_X12_sheet_33 FU) L σ5 a0 a1 a2 0 else some ((-1000000014), σ)) else some ((-1000000001), σ)))
def ad_X12_sheet : ADT := fun O L σ as k => match as with
  | [.inr (.inr (.inl (ta0, some a0))), .inl a1, .inl a2] => bif Nat.beq ta0 12 && true then (f_X12_sheet L σ a0 a1 a2).bind fun r => k (some (vI r.1)) L r.2 else none
  | _ => none
abbrev cl_X12_sheet {O : Type} : CLT O := (clc 161 ad_X12_isSheet cl0)
theorem hc_X12_sheet (G : GT) (l : Launch) {d : Nat} (hd : 3 ≤ d) {O : Type} : HCL G l (true, false) d (cl_X12_sheet (O := O)) := (hclc (ca_X12_isSheet G l (d := 2) (Nat.le_refl _)) (fun _ => rfl) (fun e => by cases e) (by omega) hcl0)
theorem rt_X12_sheet : retOK (0, 0) (some .int) := ⟨fun _ => rfl, fun h => absurd h (by decide), fun h => absurd h (by decide)⟩
set_option maxRecDepth 20000 in
theorem b_X12_sheet_33 {G : GT} {l : Launch} {d : Nat} {L0 : Lay} {σ0 : Sto} (hd : 3 ≤ d) : ∀ k : Nat, HF G l 12 "sheet" cX12_sheet 4 (some .int) d L0 σ0 (true, false) (dcI L0) 33 (A_X12_sheet_33 (f_X12_sheet_33 k))
  | 0 => by
    intro lc st L σ o h hI
    unfold A_X12_sheet_33 at h
    split at h
    · obtain ⟨_, hA1⟩ := bif_s h
      cases hA1
    · cases h
  | k + 1 => by
    have ih := b_X12_sheet_33 (G := G) (l := l) (d := d) (L0 := L0) (σ0 := σ0) hd k
    intro lc st L σ o h hI
    unfold A_X12_sheet_33 at h
    split at h
    · obtain ⟨hq0, hA1⟩ := bif_s h
      obtain ⟨e0, hq1⟩ := beq_and hq0
      subst e0
      exact exs (sp := [33]) (K := (kc 33 (A_X12_sheet_33 (f_X12_sheet_33 k)) k0)) ok_X12_sheet rt_X12_sheet (by omega) (hc_X12_sheet G l hd) (hrI rfl) (hkc ih hk0) 38 hA1 hI
    · cases h
set_option maxRecDepth 20000 in
theorem ca_X12_sheet (G : GT) (l : Launch) {d : Nat} (hd : 3 ≤ d) : CA G l 205 (true, false) d ad_X12_sheet := by
  intro O L σ as k o h hW hok
  unfold ad_X12_sheet at h
  split at h
  · obtain ⟨hq0, hA0⟩ := bif_s h
    obtain ⟨e0, hq1⟩ := beq_and hq0
    subst e0
    obtain ⟨r, hr, hk⟩ := Option.bind_eq_some_iff.mp hA0
    exact ca_of (q := (dcI L) r) (by decide) rfl (Nat.le_of_ble_eq_true rfl) hk (fun _ => rfl) (fun e => by cases e) (exs (sp := [33]) (K := (kc 33 (A_X12_sheet_33 (f_X12_sheet_33 FU)) k0)) (L0 := L) (σ0 := σ) ok_X12_sheet rt_X12_sheet (by omega) (hc_X12_sheet G l hd) (hrI rfl) (hkc (b_X12_sheet_33 hd FU) hk0) 38 hr (inv0 hW hok))
  · cases h
def tt_X12_stands (pc : Nat) : TI := bif Nat.blt pc 19 then (bif Nat.blt pc 9 then (bif Nat.blt pc 2 then (bif Nat.blt pc 1 then (bif Nat.beq pc 0 then (.aload_n 0, 1, (0, 0, 0), 0, 0, []) else TN) else (bif Nat.beq pc 1 then (.iload_n 1, 2, (1, 0, 0), 0, 0, []) else TN)) else (bif Nat.blt pc 5 then (bif Nat.beq pc 2 then (.invokevirtual 205, 5, (149, 1, 12), 0, 0, []) else TN) else (bif Nat.blt pc 8 then (bif Nat.beq pc 5 then (.ifCond .eq 12, 8, (17, 0, 0), 0, 0, []) else TN) else (bif Nat.beq pc 8 then (.aload_n 0, 9, (0, 0, 0), 0, 0, []) else TN)))) else (bif Nat.blt pc 11 then (bif Nat.blt pc 10 then (bif Nat.beq pc 9 then (.iload_n 1, 10, (1, 0, 0), 0, 0, []) else TN) else (bif Nat.beq pc 10 then (.iload_n 2, 11, (2, 0, 0), 0, 0, []) else TN)) else (bif Nat.blt pc 14 then (bif Nat.beq pc 11 then (.invokevirtual 217, 14, (163, 2, 12), 0, 0, []) else TN) else (bif Nat.blt pc 17 then (bif Nat.beq pc 14 then (.ifCond .ne 6, 17, (20, 0, 0), 0, 0, []) else TN) else (bif Nat.beq pc 17 then (.ldc 156, 19, (0, 0, 0), -1000000001, 0, []) else TN))))) else (bif Nat.blt pc 26 then (bif Nat.blt pc 21 then (bif Nat.blt pc 20 then (bif Nat.beq pc 19 then (.ireturn, 20, (0, 0, 0), 0, 0, []) else TN) else (bif Nat.beq pc 20 then (.aload_n 0, 21, (0, 0, 0), 0, 0, []) else TN)) else (bif Nat.blt pc 22 then (bif Nat.beq pc 21 then (.iload_n 1, 22, (1, 0, 0), 0, 0, []) else TN) else (bif Nat.blt pc 23 then (bif Nat.beq pc 22 then (.iload_n 2, 23, (2, 0, 0), 0, 0, []) else TN) else (bif Nat.beq pc 23 then (.invokevirtual 348, 26, (207, 2, 12), 0, 0, []) else TN)))) else (bif Nat.blt pc 30 then (bif Nat.blt pc 29 then (bif Nat.beq pc 26 then (.ifCond .eq 7, 29, (33, 0, 0), 0, 0, []) else TN) else (bif Nat.beq pc 29 then (.iconst 1, 30, (0, 0, 0), 1, 0, []) else TN)) else (bif Nat.blt pc 33 then (bif Nat.beq pc 30 then (.goto 4, 33, (34, 0, 0), 0, 0, []) else TN) else (bif Nat.blt pc 34 then (bif Nat.beq pc 33 then (.iconst 0, 34, (0, 0, 0), 0, 0, []) else TN) else (bif Nat.beq pc 34 then (.ireturn, 35, (0, 0, 0), 0, 0, []) else TN)))))
def tb_X12_stands (pc : Nat) : TI := bif Nat.ble 35 pc then TN else tt_X12_stands pc
theorem ok_X12_stands : tOK 12 (decide ("stands" = "<init>")) cX12_stands tb_X12_stands := tOK_of 35 tn_of (by decide +kernel)
def f_X12_stands (L : Lay) (σ : Sto) (a0 : Nat) (a1 : Int32) (a2 : Int32) : Option (Int32 × Sto) := (f_X12_isBallot L σ a0 a1).bind fun r1 => (if r1 = 0 then some ((-1000000001), σ) else (f_X12_isTime L σ a0 a1 a2).bind fun r2 => (if r2 = 0 then some ((-1000000001), σ) else (f_X12_standsOn L σ a0 a1 a2).bind fun r3 => (if r3.1 = 0 then some (0, r3.2) else some (1, r3.2))))
def ad_X12_stands : ADT := fun O L σ as k => match as with
  | [.inr (.inr (.inl (ta0, some a0))), .inl a1, .inl a2] => bif Nat.beq ta0 12 && true then (f_X12_stands L σ a0 a1 a2).bind fun r => k (some (vI r.1)) L r.2 else none
  | _ => none
abbrev cl_X12_stands {O : Type} : CLT O := (clc 149 ad_X12_isBallot (clc 163 ad_X12_isTime (clc 207 ad_X12_standsOn cl0)))
theorem hc_X12_stands (G : GT) (l : Launch) {d : Nat} (hd : 110 ≤ d) {O : Type} : HCL G l (true, false) d (cl_X12_stands (O := O)) := (hclc (ca_X12_isBallot G l (d := 2) (Nat.le_refl _)) (fun _ => rfl) (fun e => by cases e) (by omega) (hclc (ca_X12_isTime G l (d := 2) (Nat.le_refl _)) (fun _ => rfl) (fun e => by cases e) (by omega) (hclc (ca_X12_standsOn G l (d := 109) (Nat.le_refl _)) (fun _ => rfl) (fun e => by cases e) (by omega) hcl0)))
theorem rt_X12_stands : retOK (0, 0) (some .int) := ⟨fun _ => rfl, fun h => absurd h (by decide), fun h => absurd h (by decide)⟩
set_option maxRecDepth 20000 in
theorem ca_X12_stands (G : GT) (l : Launch) {d : Nat} (hd : 110 ≤ d) : CA G l 206 (true, false) d ad_X12_stands := by
  intro O L σ as k o h hW hok
  unfold ad_X12_stands at h
  split at h
  · obtain ⟨hq0, hA0⟩ := bif_s h
    obtain ⟨e0, hq1⟩ := beq_and hq0
    subst e0
    obtain ⟨r, hr, hk⟩ := Option.bind_eq_some_iff.mp hA0
    exact ca_of (q := (dcI L) r) (by decide) rfl (Nat.le_of_ble_eq_true rfl) hk (fun _ => rfl) (fun e => by cases e) (exs (sp := []) (K := k0) (L0 := L) (σ0 := σ) ok_X12_stands rt_X12_stands (by omega) (hc_X12_stands G l hd) (hrI rfl) hk0 23 hr (inv0 hW hok))
  · cases h
def tt_X12_tell (pc : Nat) : TI := bif Nat.blt pc 20 then (bif Nat.blt pc 11 then (bif Nat.blt pc 4 then (bif Nat.blt pc 1 then (bif Nat.beq pc 0 then (.aload_n 0, 1, (0, 0, 0), 0, 0, []) else TN) else (bif Nat.beq pc 1 then (.getfield 390, 4, (12, 39, 0), 0, 0, []) else TN)) else (bif Nat.blt pc 6 then (bif Nat.beq pc 4 then (.bipush 30, 6, (0, 0, 0), 30, 0, []) else TN) else (bif Nat.blt pc 9 then (bif Nat.beq pc 6 then (.if_icmp .ne 6, 9, (12, 0, 0), 0, 0, []) else TN) else (bif Nat.beq pc 9 then (.ldc 157, 11, (0, 0, 0), -1000000003, 0, []) else TN)))) else (bif Nat.blt pc 13 then (bif Nat.blt pc 12 then (bif Nat.beq pc 11 then (.ireturn, 12, (0, 0, 0), 0, 0, []) else TN) else (bif Nat.beq pc 12 then (.aload_n 0, 13, (0, 0, 0), 0, 0, []) else TN)) else (bif Nat.blt pc 16 then (bif Nat.beq pc 13 then (.getfield 98, 16, (12, 40, 0), 0, 0, []) else TN) else (bif Nat.blt pc 17 then (bif Nat.beq pc 16 then (.aload_n 0, 17, (0, 0, 0), 0, 0, []) else TN) else (bif Nat.beq pc 17 then (.getfield 390, 20, (12, 39, 0), 0, 0, []) else TN))))) else (bif Nat.blt pc 27 then (bif Nat.blt pc 22 then (bif Nat.blt pc 21 then (bif Nat.beq pc 20 then (.iload_n 1, 21, (1, 0, 0), 0, 0, []) else TN) else (bif Nat.beq pc 21 then (.iastore, 22, (0, 0, 0), 0, 0, []) else TN)) else (bif Nat.blt pc 23 then (bif Nat.beq pc 22 then (.aload_n 0, 23, (0, 0, 0), 0, 0, []) else TN) else (bif Nat.blt pc 24 then (bif Nat.beq pc 23 then (.dup, 24, (0, 0, 0), 0, 0, []) else TN) else (bif Nat.beq pc 24 then (.getfield 390, 27, (12, 39, 0), 0, 0, []) else TN)))) else (bif Nat.blt pc 32 then (bif Nat.blt pc 28 then (bif Nat.beq pc 27 then (.iconst 1, 28, (0, 0, 0), 1, 0, []) else TN) else (bif Nat.blt pc 29 then (bif Nat.beq pc 28 then (.iadd, 29, (0, 0, 0), 0, 0, []) else TN) else (bif Nat.beq pc 29 then (.putfield 390, 32, (12, 39, 0), 0, 0, []) else TN))) else (bif Nat.blt pc 33 then (bif Nat.beq pc 32 then (.aload_n 0, 33, (0, 0, 0), 0, 0, []) else TN) else (bif Nat.blt pc 36 then (bif Nat.beq pc 33 then (.getfield 390, 36, (12, 39, 0), 0, 0, []) else TN) else (bif Nat.beq pc 36 then (.ireturn, 37, (0, 0, 0), 0, 0, []) else TN)))))
def tb_X12_tell (pc : Nat) : TI := bif Nat.ble 37 pc then TN else tt_X12_tell pc
theorem ok_X12_tell : tOK 12 (decide ("tell" = "<init>")) cX12_tell tb_X12_tell := tOK_of 37 tn_of (by decide +kernel)
def f_X12_tell (L : Lay) (σ : Sto) (a0 : Nat) (a1 : Int32) : Option (Int32 × Sto) := (if (σ.1 a0 39) = 30 then some ((-1000000003), σ) else (σ.2.1 a0 40).bind fun x1 => (wI L σ x1 (σ.1 a0 39) a1).bind fun σ2 => (putI σ2 a0 39 ((σ2.1 a0 39) + 1)).bind fun σ3 => some ((σ3.1 a0 39), σ3))
def ad_X12_tell : ADT := fun O L σ as k => match as with
  | [.inr (.inr (.inl (ta0, some a0))), .inl a1] => bif Nat.beq ta0 12 && true then (f_X12_tell L σ a0 a1).bind fun r => k (some (vI r.1)) L r.2 else none
  | _ => none
abbrev cl_X12_tell {O : Type} : CLT O := cl0
theorem hc_X12_tell (G : GT) (l : Launch) {d : Nat} (hd : 1 ≤ d) {O : Type} : HCL G l (true, false) d (cl_X12_tell (O := O)) := hcl0
theorem rt_X12_tell : retOK (0, 0) (some .int) := ⟨fun _ => rfl, fun h => absurd h (by decide), fun h => absurd h (by decide)⟩
set_option maxRecDepth 20000 in
theorem ca_X12_tell (G : GT) (l : Launch) {d : Nat} (hd : 1 ≤ d) : CA G l 210 (true, false) d ad_X12_tell := by
  intro O L σ as k o h hW hok
  unfold ad_X12_tell at h
  split at h
  · obtain ⟨hq0, hA0⟩ := bif_s h
    obtain ⟨e0, hq1⟩ := beq_and hq0
    subst e0
    obtain ⟨r, hr, hk⟩ := Option.bind_eq_some_iff.mp hA0
    exact ca_of (q := (dcI L) r) (by decide) rfl (Nat.le_of_ble_eq_true rfl) hk (fun _ => rfl) (fun e => by cases e) (exs (sp := []) (K := k0) (L0 := L) (σ0 := σ) ok_X12_tell rt_X12_tell (by omega) (hc_X12_tell G l hd) (hrI rfl) hk0 24 hr (inv0 hW hok))
  · cases h
def tt_X12_told (pc : Nat) : TI := bif Nat.blt pc 67 then (bif Nat.blt pc 52 then (bif Nat.blt pc 10 then (bif Nat.blt pc 2 then (bif Nat.blt pc 1 then (bif Nat.beq pc 0 then (.aload_n 0, 1, (0, 0, 0), 0, 0, []) else TN) else (bif Nat.beq pc 1 then (.iload_n 1, 2, (1, 0, 0), 0, 0, []) else TN)) else (bif Nat.blt pc 5 then (bif Nat.beq pc 2 then (.invokevirtual 169, 5, (157, 1, 12), 0, 0, []) else TN) else (bif Nat.blt pc 8 then (bif Nat.beq pc 5 then (.ifCond .ne 6, 8, (11, 0, 0), 0, 0, []) else TN) else (bif Nat.beq pc 8 then (.ldc 156, 10, (0, 0, 0), -1000000001, 0, []) else TN)))) else (bif Nat.blt pc 12 then (bif Nat.blt pc 11 then (bif Nat.beq pc 10 then (.ireturn, 11, (0, 0, 0), 0, 0, []) else TN) else (bif Nat.beq pc 11 then (.iload_n 2, 12, (2, 0, 0), 0, 0, []) else TN)) else (bif Nat.blt pc 48 then (bif Nat.beq pc 12 then (.tableswitch 86 0 4 #[36, 43, 50, 57, 64], 48, (98, 0, 0), 0, 0, [(0, 48), (1, 55), (2, 62), (3, 69), (4, 76)]) else TN) else (bif Nat.blt pc 49 then (bif Nat.beq pc 48 then (.aload_n 0, 49, (0, 0, 0), 0, 0, []) else TN) else (bif Nat.beq pc 49 then (.getfield 13, 52, (12, 5, 0), 0, 0, []) else TN))))) else (bif Nat.blt pc 59 then (bif Nat.blt pc 54 then (bif Nat.blt pc 53 then (bif Nat.beq pc 52 then (.iload_n 1, 53, (1, 0, 0), 0, 0, []) else TN) else (bif Nat.beq pc 53 then (.iaload, 54, (0, 0, 0), 0, 0, []) else TN)) else (bif Nat.blt pc 55 then (bif Nat.beq pc 54 then (.ireturn, 55, (0, 0, 0), 0, 0, []) else TN) else (bif Nat.blt pc 56 then (bif Nat.beq pc 55 then (.aload_n 0, 56, (0, 0, 0), 0, 0, []) else TN) else (bif Nat.beq pc 56 then (.getfield 16, 59, (12, 6, 0), 0, 0, []) else TN)))) else (bif Nat.blt pc 62 then (bif Nat.blt pc 60 then (bif Nat.beq pc 59 then (.iload_n 1, 60, (1, 0, 0), 0, 0, []) else TN) else (bif Nat.blt pc 61 then (bif Nat.beq pc 60 then (.iaload, 61, (0, 0, 0), 0, 0, []) else TN) else (bif Nat.beq pc 61 then (.ireturn, 62, (0, 0, 0), 0, 0, []) else TN))) else (bif Nat.blt pc 63 then (bif Nat.beq pc 62 then (.aload_n 0, 63, (0, 0, 0), 0, 0, []) else TN) else (bif Nat.blt pc 66 then (bif Nat.beq pc 63 then (.getfield 19, 66, (12, 7, 0), 0, 0, []) else TN) else (bif Nat.beq pc 66 then (.iload_n 1, 67, (1, 0, 0), 0, 0, []) else TN)))))) else (bif Nat.blt pc 82 then (bif Nat.blt pc 74 then (bif Nat.blt pc 69 then (bif Nat.blt pc 68 then (bif Nat.beq pc 67 then (.iaload, 68, (0, 0, 0), 0, 0, []) else TN) else (bif Nat.beq pc 68 then (.ireturn, 69, (0, 0, 0), 0, 0, []) else TN)) else (bif Nat.blt pc 70 then (bif Nat.beq pc 69 then (.aload_n 0, 70, (0, 0, 0), 0, 0, []) else TN) else (bif Nat.blt pc 73 then (bif Nat.beq pc 70 then (.getfield 22, 73, (12, 8, 0), 0, 0, []) else TN) else (bif Nat.beq pc 73 then (.iload_n 1, 74, (1, 0, 0), 0, 0, []) else TN)))) else (bif Nat.blt pc 77 then (bif Nat.blt pc 75 then (bif Nat.beq pc 74 then (.iaload, 75, (0, 0, 0), 0, 0, []) else TN) else (bif Nat.blt pc 76 then (bif Nat.beq pc 75 then (.ireturn, 76, (0, 0, 0), 0, 0, []) else TN) else (bif Nat.beq pc 76 then (.aload_n 0, 77, (0, 0, 0), 0, 0, []) else TN))) else (bif Nat.blt pc 80 then (bif Nat.beq pc 77 then (.getfield 25, 80, (12, 9, 0), 0, 0, []) else TN) else (bif Nat.blt pc 81 then (bif Nat.beq pc 80 then (.iload_n 1, 81, (1, 0, 0), 0, 0, []) else TN) else (bif Nat.beq pc 81 then (.iaload, 82, (0, 0, 0), 0, 0, []) else TN))))) else (bif Nat.blt pc 92 then (bif Nat.blt pc 86 then (bif Nat.blt pc 83 then (bif Nat.beq pc 82 then (.iconst (-1), 83, (0, 0, 0), -1, 0, []) else TN) else (bif Nat.beq pc 83 then (.if_icmp .ne 8, 86, (91, 0, 0), 0, 0, []) else TN)) else (bif Nat.blt pc 88 then (bif Nat.beq pc 86 then (.ldc 177, 88, (0, 0, 0), -1000000005, 0, []) else TN) else (bif Nat.blt pc 91 then (bif Nat.beq pc 88 then (.goto 9, 91, (97, 0, 0), 0, 0, []) else TN) else (bif Nat.beq pc 91 then (.aload_n 0, 92, (0, 0, 0), 0, 0, []) else TN)))) else (bif Nat.blt pc 97 then (bif Nat.blt pc 95 then (bif Nat.beq pc 92 then (.getfield 25, 95, (12, 9, 0), 0, 0, []) else TN) else (bif Nat.blt pc 96 then (bif Nat.beq pc 95 then (.iload_n 1, 96, (1, 0, 0), 0, 0, []) else TN) else (bif Nat.beq pc 96 then (.iaload, 97, (0, 0, 0), 0, 0, []) else TN))) else (bif Nat.blt pc 98 then (bif Nat.beq pc 97 then (.ireturn, 98, (0, 0, 0), 0, 0, []) else TN) else (bif Nat.blt pc 100 then (bif Nat.beq pc 98 then (.ldc 156, 100, (0, 0, 0), -1000000001, 0, []) else TN) else (bif Nat.beq pc 100 then (.ireturn, 101, (0, 0, 0), 0, 0, []) else TN))))))
def tb_X12_told (pc : Nat) : TI := bif Nat.ble 101 pc then TN else tt_X12_told pc
theorem ok_X12_told : tOK 12 (decide ("told" = "<init>")) cX12_told tb_X12_told := tOK_of 101 tn_of (by decide +kernel)
def f_X12_told (L : Lay) (σ : Sto) (a0 : Nat) (a1 : Int32) (a2 : Int32) : Option Int32 := (f_X12_isMember L σ a0 a1).bind fun r1 => (if r1 = 0 then some (-1000000001) else (if a2 = 0 then (σ.2.1 a0 5).bind fun x12 => (rI L σ x12 a1).bind fun v13 => some v13 else (if a2 = 1 then (σ.2.1 a0 6).bind fun x10 => (rI L σ x10 a1).bind fun v11 => some v11 else (if a2 = 2 then (σ.2.1 a0 7).bind fun x8 => (rI L σ x8 a1).bind fun v9 => some v9 else (if a2 = 3 then (σ.2.1 a0 8).bind fun x6 => (rI L σ x6 a1).bind fun v7 => some v7 else (if a2 = 4 then (σ.2.1 a0 9).bind fun x2 => (rI L σ x2 a1).bind fun v3 => (if v3 = (-1) then some (-1000000005) else (σ.2.1 a0 9).bind fun x4 => (rI L σ x4 a1).bind fun v5 => some v5) else some (-1000000001)))))))
def ad_X12_told : ADT := fun O L σ as k => match as with
  | [.inr (.inr (.inl (ta0, some a0))), .inl a1, .inl a2] => bif Nat.beq ta0 12 && true then (f_X12_told L σ a0 a1 a2).bind fun r => k (some (vI r)) L σ else none
  | _ => none
abbrev cl_X12_told {O : Type} : CLT O := (clc 157 ad_X12_isMember cl0)
theorem hc_X12_told (G : GT) (l : Launch) {d : Nat} (hd : 3 ≤ d) {O : Type} : HCL G l (true, true) d (cl_X12_told (O := O)) := (hclc (ca_X12_isMember G l (d := 2) (Nat.le_refl _)) (fun _ => rfl) (fun _ => rfl) (by omega) hcl0)
theorem rt_X12_told : retOK (0, 0) (some .int) := ⟨fun _ => rfl, fun h => absurd h (by decide), fun h => absurd h (by decide)⟩
set_option maxRecDepth 20000 in
theorem ca_X12_told (G : GT) (l : Launch) {d : Nat} (hd : 3 ≤ d) : CA G l 213 (true, true) d ad_X12_told := by
  intro O L σ as k o h hW hok
  unfold ad_X12_told at h
  split at h
  · obtain ⟨hq0, hA0⟩ := bif_s h
    obtain ⟨e0, hq1⟩ := beq_and hq0
    subst e0
    obtain ⟨r, hr, hk⟩ := Option.bind_eq_some_iff.mp hA0
    exact ca_of (q := (dcPI L σ) r) (by decide) rfl (Nat.le_of_ble_eq_true rfl) hk (fun _ => rfl) (fun _ => rfl) (exs (sp := []) (K := k0) (L0 := L) (σ0 := σ) ok_X12_told rt_X12_told (by omega) (hc_X12_told G l hd) (hrPI rfl rfl) hk0 46 hr (inv0 hW hok))
  · cases h
def tt_X12_trim (pc : Nat) : TI := bif Nat.blt pc 12 then (bif Nat.blt pc 3 then (bif Nat.blt pc 1 then (bif Nat.beq pc 0 then (.iload_n 1, 1, (1, 0, 0), 0, 0, []) else TN) else (bif Nat.blt pc 2 then (bif Nat.beq pc 1 then (.iconst 0, 2, (0, 0, 0), 0, 0, []) else TN) else (bif Nat.beq pc 2 then (.aload_n 0, 3, (0, 0, 0), 0, 0, []) else TN))) else (bif Nat.blt pc 6 then (bif Nat.beq pc 3 then (.getfield 237, 6, (12, 25, 0), 0, 0, []) else TN) else (bif Nat.blt pc 9 then (bif Nat.beq pc 6 then (.invokestatic 146, 9, (147, 3, 0), 0, 0, []) else TN) else (bif Nat.beq pc 9 then (.ifCond .ne 6, 12, (15, 0, 0), 0, 0, []) else TN)))) else (bif Nat.blt pc 16 then (bif Nat.blt pc 14 then (bif Nat.beq pc 12 then (.ldc 156, 14, (0, 0, 0), -1000000001, 0, []) else TN) else (bif Nat.blt pc 15 then (bif Nat.beq pc 14 then (.ireturn, 15, (0, 0, 0), 0, 0, []) else TN) else (bif Nat.beq pc 15 then (.aload_n 0, 16, (0, 0, 0), 0, 0, []) else TN))) else (bif Nat.blt pc 20 then (bif Nat.blt pc 17 then (bif Nat.beq pc 16 then (.iload_n 1, 17, (1, 0, 0), 0, 0, []) else TN) else (bif Nat.beq pc 17 then (.putfield 237, 20, (12, 25, 0), 0, 0, []) else TN)) else (bif Nat.blt pc 21 then (bif Nat.beq pc 20 then (.iload_n 1, 21, (1, 0, 0), 0, 0, []) else TN) else (bif Nat.beq pc 21 then (.ireturn, 22, (0, 0, 0), 0, 0, []) else TN))))
def tb_X12_trim (pc : Nat) : TI := bif Nat.ble 22 pc then TN else tt_X12_trim pc
theorem ok_X12_trim : tOK 12 (decide ("trim" = "<init>")) cX12_trim tb_X12_trim := tOK_of 22 tn_of (by decide +kernel)
def f_X12_trim (L : Lay) (σ : Sto) (a0 : Nat) (a1 : Int32) : Option (Int32 × Sto) := (f_X12_in L σ a1 0 (σ.1 a0 25)).bind fun r1 => (if r1 = 0 then some ((-1000000001), σ) else (putI σ a0 25 a1).bind fun σ2 => some (a1, σ2))
def ad_X12_trim : ADT := fun O L σ as k => match as with
  | [.inr (.inr (.inl (ta0, some a0))), .inl a1] => bif Nat.beq ta0 12 && true then (f_X12_trim L σ a0 a1).bind fun r => k (some (vI r.1)) L r.2 else none
  | _ => none
abbrev cl_X12_trim {O : Type} : CLT O := (clc 147 ad_X12_in cl0)
theorem hc_X12_trim (G : GT) (l : Launch) {d : Nat} (hd : 2 ≤ d) {O : Type} : HCL G l (true, false) d (cl_X12_trim (O := O)) := (hclc (ca_X12_in G l (d := 1) (Nat.le_refl _)) (fun _ => rfl) (fun e => by cases e) (by omega) hcl0)
theorem rt_X12_trim : retOK (0, 0) (some .int) := ⟨fun _ => rfl, fun h => absurd h (by decide), fun h => absurd h (by decide)⟩
set_option maxRecDepth 20000 in
theorem ca_X12_trim (G : GT) (l : Launch) {d : Nat} (hd : 2 ≤ d) : CA G l 214 (true, false) d ad_X12_trim := by
  intro O L σ as k o h hW hok
  unfold ad_X12_trim at h
  split at h
  · obtain ⟨hq0, hA0⟩ := bif_s h
    obtain ⟨e0, hq1⟩ := beq_and hq0
    subst e0
    obtain ⟨r, hr, hk⟩ := Option.bind_eq_some_iff.mp hA0
    exact ca_of (q := (dcI L) r) (by decide) rfl (Nat.le_of_ble_eq_true rfl) hk (fun _ => rfl) (fun e => by cases e) (exs (sp := []) (K := k0) (L0 := L) (σ0 := σ) ok_X12_trim rt_X12_trim (by omega) (hc_X12_trim G l hd) (hrI rfl) hk0 16 hr (inv0 hW hok))
  · cases h
def tt_X12_wipe (pc : Nat) : TI := bif Nat.blt pc 6 then (bif Nat.blt pc 4 then (bif Nat.blt pc 1 then (bif Nat.beq pc 0 then (.aload_n 0, 1, (0, 0, 0), 0, 0, []) else TN) else (bif Nat.beq pc 1 then (.getfield 182, 4, (12, 13, 0), 0, 0, []) else TN)) else (bif Nat.blt pc 5 then (bif Nat.beq pc 4 then (.istore_n 1, 5, (1, 0, 0), 0, 0, []) else TN) else (bif Nat.beq pc 5 then (.aload_n 0, 6, (0, 0, 0), 0, 0, []) else TN))) else (bif Nat.blt pc 10 then (bif Nat.blt pc 7 then (bif Nat.beq pc 6 then (.iconst 0, 7, (0, 0, 0), 0, 0, []) else TN) else (bif Nat.beq pc 7 then (.putfield 182, 10, (12, 13, 0), 0, 0, []) else TN)) else (bif Nat.blt pc 11 then (bif Nat.beq pc 10 then (.iload_n 1, 11, (1, 0, 0), 0, 0, []) else TN) else (bif Nat.beq pc 11 then (.ireturn, 12, (0, 0, 0), 0, 0, []) else TN)))
def tb_X12_wipe (pc : Nat) : TI := bif Nat.ble 12 pc then TN else tt_X12_wipe pc
theorem ok_X12_wipe : tOK 12 (decide ("wipe" = "<init>")) cX12_wipe tb_X12_wipe := tOK_of 12 tn_of (by decide +kernel)
def f_X12_wipe (L : Lay) (σ : Sto) (a0 : Nat) : Option (Int32 × Sto) := (putI σ a0 13 0).bind fun σ1 => some ((σ.1 a0 13), σ1)
def ad_X12_wipe : ADT := fun O L σ as k => match as with
  | [.inr (.inr (.inl (ta0, some a0)))] => bif Nat.beq ta0 12 && true then (f_X12_wipe L σ a0).bind fun r => k (some (vI r.1)) L r.2 else none
  | _ => none
abbrev cl_X12_wipe {O : Type} : CLT O := cl0
theorem hc_X12_wipe (G : GT) (l : Launch) {d : Nat} (hd : 1 ≤ d) {O : Type} : HCL G l (true, false) d (cl_X12_wipe (O := O)) := hcl0
theorem rt_X12_wipe : retOK (0, 0) (some .int) := ⟨fun _ => rfl, fun h => absurd h (by decide), fun h => absurd h (by decide)⟩
set_option maxRecDepth 20000 in
theorem ca_X12_wipe (G : GT) (l : Launch) {d : Nat} (hd : 1 ≤ d) : CA G l 215 (true, false) d ad_X12_wipe := by
  intro O L σ as k o h hW hok
  unfold ad_X12_wipe at h
  split at h
  · obtain ⟨hq0, hA0⟩ := bif_s h
    obtain ⟨e0, hq1⟩ := beq_and hq0
    subst e0
    obtain ⟨r, hr, hk⟩ := Option.bind_eq_some_iff.mp hA0
    exact ca_of (q := (dcI L) r) (by decide) rfl (Nat.le_of_ble_eq_true rfl) hk (fun _ => rfl) (fun e => by cases e) (exs (sp := []) (K := k0) (L0 := L) (σ0 := σ) ok_X12_wipe rt_X12_wipe (by omega) (hc_X12_wipe G l hd) (hrI rfl) hk0 11 hr (inv0 hW hok))
  · cases h
