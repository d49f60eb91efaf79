def tt_X12_isBranch (pc : Nat) : TI := bif Nat.blt pc 6 then (bif Nat.blt pc 2 then (bif Nat.blt pc 1 then (bif Nat.beq pc 0 then (.iload_n 1, 1, (1, 0, 0), 0, 0, []) else TN) else (bif Nat.beq pc 1 then (.iconst 0, 2, (0, 0, 0), 0, 0, []) else TN)) else (bif Nat.blt pc 3 then (bif Nat.beq pc 2 then (.aload_n 0, 3, (0, 0, 0), 0, 0, []) else TN) else (bif Nat.beq pc 3 then (.getfield 143, 6, (12, 2, 0), 0, 0, []) else TN))) else (bif Nat.blt pc 8 then (bif Nat.blt pc 7 then (bif Nat.beq pc 6 then (.iconst 1, 7, (0, 0, 0), 1, 0, []) else TN) else (bif Nat.beq pc 7 then (.isub, 8, (0, 0, 0), 0, 0, []) else TN)) else (bif Nat.blt pc 11 then (bif Nat.beq pc 8 then (.invokestatic 146, 11, (147, 3, 0), 0, 0, []) else TN) else (bif Nat.beq pc 11 then (.ireturn, 12, (0, 0, 0), 0, 0, []) else TN)))
def tb_X12_isBranch (pc : Nat) : TI := bif Nat.ble 12 pc then TN else tt_X12_isBranch pc
theorem ok_X12_isBranch : tOK 12 (decide ("isBranch" = "<init>")) cX12_isBranch tb_X12_isBranch := tOK_of 12 tn_of (by decide +kernel)
def f_X12_isBranch (L : Lay) (σ : Sto) (a0 : Nat) (a1 : Int32) : Option Int32 := (f_X12_in L σ a1 0 ((σ.1 a0 2) - 1)).bind fun r1 => (ckN 1 r1).bind fun _ => some r1
def ad_X12_isBranch : ADT := fun O L σ as k => match as with
  | [.inr (.inr (.inl (ta0, some a0))), .inl a1] => bif Nat.beq ta0 12 && true then (f_X12_isBranch L σ a0 a1).bind fun r => k (some (vI r)) L σ else none
  | _ => none
abbrev cl_X12_isBranch {O : Type} : CLT O := (clc 147 ad_X12_in cl0)
theorem hc_X12_isBranch (G : GT) (l : Launch) {d : Nat} (hd : 2 ≤ d) {O : Type} : HCL G l (true, true) d (cl_X12_isBranch (O := O)) := (hclc (ca_X12_in G l (d := 1) (Nat.le_refl _)) (fun _ => rfl) (fun _ => rfl) (by omega) hcl0)
theorem rt_X12_isBranch : retOK (1, 0) (some .boolean) := ⟨fun _ => rfl, fun h => absurd h (by decide), fun h => absurd h (by decide)⟩
set_option maxRecDepth 20000 in
theorem ca_X12_isBranch (G : GT) (l : Launch) {d : Nat} (hd : 2 ≤ d) : CA G l 150 (true, true) d ad_X12_isBranch := by
  intro O L σ as k o h hW hok
  unfold ad_X12_isBranch at h
  split at h
  · obtain ⟨hq0, hA0⟩ := bif_s h
    obtain ⟨e0, hq1⟩ := beq_and hq0
    subst e0
    obtain ⟨r, hr, hk⟩ := Option.bind_eq_some_iff.mp hA0
    exact ca_of (q := (dcPI L σ) r) (by decide) rfl (Nat.le_of_ble_eq_true rfl) hk (fun _ => rfl) (fun _ => rfl) (exs (sp := []) (K := k0) (L0 := L) (σ0 := σ) ok_X12_isBranch rt_X12_isBranch (by omega) (hc_X12_isBranch G l hd) (hrPI rfl rfl) hk0 11 hr (inv0 hW hok))
  · cases h
def tt_X12_isList (pc : Nat) : TI := bif Nat.blt pc 42 then (bif Nat.blt pc 20 then (bif Nat.blt pc 10 then (bif Nat.blt pc 4 then (bif Nat.blt pc 1 then (bif Nat.beq pc 0 then (.aload_n 0, 1, (0, 0, 0), 0, 0, []) else TN) else (bif Nat.beq pc 1 then (.getfield 150, 4, (12, 4, 0), 0, 0, []) else TN)) else (bif Nat.blt pc 6 then (bif Nat.beq pc 4 then (.bipush 20, 6, (0, 0, 0), 20, 0, []) else TN) else (bif Nat.blt pc 9 then (bif Nat.beq pc 6 then (.if_icmp .ge 10, 9, (16, 0, 0), 0, 0, []) else TN) else (bif Nat.beq pc 9 then (.aload_n 0, 10, (0, 0, 0), 0, 0, []) else TN)))) else (bif Nat.blt pc 16 then (bif Nat.blt pc 13 then (bif Nat.beq pc 10 then (.getfield 150, 13, (12, 4, 0), 0, 0, []) else TN) else (bif Nat.beq pc 13 then (.goto 5, 16, (18, 0, 0), 0, 0, []) else TN)) else (bif Nat.blt pc 18 then (bif Nat.beq pc 16 then (.bipush 20, 18, (0, 0, 0), 20, 0, []) else TN) else (bif Nat.blt pc 19 then (bif Nat.beq pc 18 then (.istore_n 3, 19, (3, 0, 0), 0, 0, []) else TN) else (bif Nat.beq pc 19 then (.aload_n 0, 20, (0, 0, 0), 0, 0, []) else TN))))) else (bif Nat.blt pc 32 then (bif Nat.blt pc 25 then (bif Nat.blt pc 23 then (bif Nat.beq pc 20 then (.getfield 150, 23, (12, 4, 0), 0, 0, []) else TN) else (bif Nat.beq pc 23 then (.bipush 20, 25, (0, 0, 0), 20, 0, []) else TN)) else (bif Nat.blt pc 28 then (bif Nat.beq pc 25 then (.if_icmp .ge 7, 28, (32, 0, 0), 0, 0, []) else TN) else (bif Nat.blt pc 29 then (bif Nat.beq pc 28 then (.iconst 0, 29, (0, 0, 0), 0, 0, []) else TN) else (bif Nat.beq pc 29 then (.goto 10, 32, (39, 0, 0), 0, 0, []) else TN)))) else (bif Nat.blt pc 38 then (bif Nat.blt pc 33 then (bif Nat.beq pc 32 then (.aload_n 0, 33, (0, 0, 0), 0, 0, []) else TN) else (bif Nat.blt pc 36 then (bif Nat.beq pc 33 then (.getfield 150, 36, (12, 4, 0), 0, 0, []) else TN) else (bif Nat.beq pc 36 then (.bipush 20, 38, (0, 0, 0), 20, 0, []) else TN))) else (bif Nat.blt pc 39 then (bif Nat.beq pc 38 then (.isub, 39, (0, 0, 0), 0, 0, []) else TN) else (bif Nat.blt pc 41 then (bif Nat.beq pc 39 then (.istore 4, 41, (4, 0, 0), 0, 0, []) else TN) else (bif Nat.beq pc 41 then (.iload_n 1, 42, (1, 0, 0), 0, 0, []) else TN)))))) else (bif Nat.blt pc 56 then (bif Nat.blt pc 47 then (bif Nat.blt pc 44 then (bif Nat.blt pc 43 then (bif Nat.beq pc 42 then (.iconst 0, 43, (0, 0, 0), 0, 0, []) else TN) else (bif Nat.beq pc 43 then (.iconst 1, 44, (0, 0, 0), 1, 0, []) else TN)) else (bif Nat.blt pc 45 then (bif Nat.beq pc 44 then (.iload_n 3, 45, (3, 0, 0), 0, 0, []) else TN) else (bif Nat.blt pc 46 then (bif Nat.beq pc 45 then (.ishl, 46, (0, 0, 0), 0, 0, []) else TN) else (bif Nat.beq pc 46 then (.iconst 1, 47, (0, 0, 0), 1, 0, []) else TN)))) else (bif Nat.blt pc 51 then (bif Nat.blt pc 48 then (bif Nat.beq pc 47 then (.isub, 48, (0, 0, 0), 0, 0, []) else TN) else (bif Nat.beq pc 48 then (.invokestatic 146, 51, (147, 3, 0), 0, 0, []) else TN)) else (bif Nat.blt pc 54 then (bif Nat.beq pc 51 then (.ifCond .eq 21, 54, (72, 0, 0), 0, 0, []) else TN) else (bif Nat.blt pc 55 then (bif Nat.beq pc 54 then (.iload_n 2, 55, (2, 0, 0), 0, 0, []) else TN) else (bif Nat.beq pc 55 then (.iconst 0, 56, (0, 0, 0), 0, 0, []) else TN))))) else (bif Nat.blt pc 62 then (bif Nat.blt pc 59 then (bif Nat.blt pc 57 then (bif Nat.beq pc 56 then (.iconst 1, 57, (0, 0, 0), 1, 0, []) else TN) else (bif Nat.beq pc 57 then (.iload 4, 59, (4, 0, 0), 0, 0, []) else TN)) else (bif Nat.blt pc 60 then (bif Nat.beq pc 59 then (.ishl, 60, (0, 0, 0), 0, 0, []) else TN) else (bif Nat.blt pc 61 then (bif Nat.beq pc 60 then (.iconst 1, 61, (0, 0, 0), 1, 0, []) else TN) else (bif Nat.beq pc 61 then (.isub, 62, (0, 0, 0), 0, 0, []) else TN)))) else (bif Nat.blt pc 69 then (bif Nat.blt pc 65 then (bif Nat.beq pc 62 then (.invokestatic 146, 65, (147, 3, 0), 0, 0, []) else TN) else (bif Nat.blt pc 68 then (bif Nat.beq pc 65 then (.ifCond .eq 7, 68, (72, 0, 0), 0, 0, []) else TN) else (bif Nat.beq pc 68 then (.iconst 1, 69, (0, 0, 0), 1, 0, []) else TN))) else (bif Nat.blt pc 72 then (bif Nat.beq pc 69 then (.goto 4, 72, (73, 0, 0), 0, 0, []) else TN) else (bif Nat.blt pc 73 then (bif Nat.beq pc 72 then (.iconst 0, 73, (0, 0, 0), 0, 0, []) else TN) else (bif Nat.beq pc 73 then (.ireturn, 74, (0, 0, 0), 0, 0, []) else TN))))))
def tb_X12_isList (pc : Nat) : TI := bif Nat.ble 74 pc then TN else tt_X12_isList pc
theorem ok_X12_isList : tOK 12 (decide ("isList" = "<init>")) cX12_isList tb_X12_isList := tOK_of 74 tn_of (by decide +kernel)
def f_X12_isList_39 (L : Lay) (σ : Sto) (a1 : Int32) (a2 : Int32) (a3 : Int32) (s0 : Int32) : Option Int32 := (f_X12_in L σ a1 0 ((1 <<< (a3 &&& 31)) - 1)).bind fun r1 => (if r1 = 0 then (ckN 1 0).bind fun _ => some 0 else (f_X12_in L σ a2 0 ((1 <<< (s0 &&& 31)) - 1)).bind fun r2 => (if r2 = 0 then (ckN 1 0).bind fun _ => some 0 else (ckN 1 1).bind fun _ => some 1))
def A_X12_isList_39 (c : Lay → Sto → Int32 → Int32 → Int32 → Int32 → Option Int32) (lc : List (Option AV)) (st : List AV) (L : Lay) (σ : Sto) : Option Int32 := match lc, st with
  | [_, some (.inl a1), some (.inl a2), some (.inl a3), _], [.inl s0] => c L σ a1 a2 a3 s0
  | _, _ => none
def f_X12_isList_18 (L : Lay) (σ : Sto) (a0 : Nat) (a1 : Int32) (a2 : Int32) (s0 : Int32) : Option Int32 := (if 20 ≤ (σ.1 a0 4) then (f_X12_isList_39) L σ a1 a2 s0 ((σ.1 a0 4) - 20) else (f_X12_isList_39) L σ a1 a2 s0 0)
def A_X12_isList_18 (c : Lay → Sto → Nat → Int32 → Int32 → Int32 → Option Int32) (lc : List (Option AV)) (st : List AV) (L : Lay) (σ : Sto) : Option Int32 := match lc, st with
  | [some (.inr (.inr (.inl (ta0, some a0)))), some (.inl a1), some (.inl a2), _, _], [.inl s0] => bif Nat.beq ta0 12 && true then c L σ a0 a1 a2 s0 else none
  | _, _ => none
def f_X12_isList (L : Lay) (σ : Sto) (a0 : Nat) (a1 : Int32) (a2 : Int32) : Option Int32 := (if 20 ≤ (σ.1 a0 4) then (f_X12_isList_18) L σ a0 a1 a2 20 else (f_X12_isList_18) L σ a0 a1 a2 (σ.1 a0 4))
def ad_X12_isList : ADT := fun O L σ as k => match as with
  | [.inr (.inr (.inl (ta0, some a0))), .inl a1, .inl a2] => bif Nat.beq ta0 12 && true then (f_X12_isList L σ a0 a1 a2).bind fun r => k (some (vI r)) L σ else none
  | _ => none
abbrev cl_X12_isList {O : Type} : CLT O := (clc 147 ad_X12_in cl0)
theorem hc_X12_isList (G : GT) (l : Launch) {d : Nat} (hd : 2 ≤ d) {O : Type} : HCL G l (true, true) d (cl_X12_isList (O := O)) := (hclc (ca_X12_in G l (d := 1) (Nat.le_refl _)) (fun _ => rfl) (fun _ => rfl) (by omega) hcl0)
theorem rt_X12_isList : retOK (1, 0) (some .boolean) := ⟨fun _ => rfl, fun h => absurd h (by decide), fun h => absurd h (by decide)⟩
set_option maxRecDepth 20000 in
theorem b_X12_isList_39 {G : GT} {l : Launch} {d : Nat} {L0 : Lay} {σ0 : Sto} (hd : 2 ≤ d) : HF G l 12 "isList" cX12_isList 5 (some .boolean) d L0 σ0 (true, true) (dcPI L0 σ0) 39 (A_X12_isList_39 f_X12_isList_39) := by
  intro lc st L σ o h hI
  unfold A_X12_isList_39 at h
  split at h
  · have hA0 := h
    exact exs (sp := []) (K := k0) ok_X12_isList rt_X12_isList (by omega) (hc_X12_isList G l hd) (hrPI rfl rfl) hk0 45 hA0 hI
  · cases h
set_option maxRecDepth 20000 in
theorem b_X12_isList_18 {G : GT} {l : Launch} {d : Nat} {L0 : Lay} {σ0 : Sto} (hd : 2 ≤ d) : HF G l 12 "isList" cX12_isList 5 (some .boolean) d L0 σ0 (true, true) (dcPI L0 σ0) 18 (A_X12_isList_18 f_X12_isList_18) := by
  intro lc st L σ o h hI
  unfold A_X12_isList_18 at h
  split at h
  · obtain ⟨hq0, hA1⟩ := bif_s h
    obtain ⟨e0, hq1⟩ := beq_and hq0
    subst e0
    exact exs (sp := [39]) (K := (kc 39 (A_X12_isList_39 (f_X12_isList_39)) k0)) ok_X12_isList rt_X12_isList (by omega) (hc_X12_isList G l hd) (hrPI rfl rfl) (hkc (b_X12_isList_39 hd) hk0) 45 hA1 hI
  · cases h
set_option maxRecDepth 20000 in
theorem ca_X12_isList (G : GT) (l : Launch) {d : Nat} (hd : 2 ≤ d) : CA G l 155 (true, true) d ad_X12_isList := by
  intro O L σ as k o h hW hok
  unfold ad_X12_isList at h
  split at h
  · obtain ⟨hq0, hA0⟩ := bif_s h
    obtain ⟨e0, hq1⟩ := beq_and hq0
    subst e0
    obtain ⟨r, hr, hk⟩ := Option.bind_eq_some_iff.mp hA0
    exact ca_of (q := (dcPI L σ) r) (by decide) rfl (Nat.le_of_ble_eq_true rfl) hk (fun _ => rfl) (fun _ => rfl) (exs (sp := [18]) (K := (kc 18 (A_X12_isList_18 (f_X12_isList_18)) k0)) (L0 := L) (σ0 := σ) ok_X12_isList rt_X12_isList (by omega) (hc_X12_isList G l hd) (hrPI rfl rfl) (hkc (b_X12_isList_18 hd) hk0) 45 hr (inv0 hW hok))
  · cases h
def tt_X12_isListed (pc : Nat) : TI := bif Nat.blt pc 16 then (bif Nat.blt pc 8 then (bif Nat.blt pc 3 then (bif Nat.blt pc 1 then (bif Nat.beq pc 0 then (.iload_n 0, 1, (0, 0, 0), 0, 0, []) else TN) else (bif Nat.beq pc 1 then (.bipush 20, 3, (0, 0, 0), 20, 0, []) else TN)) else (bif Nat.blt pc 6 then (bif Nat.beq pc 3 then (.if_icmp .ge 9, 6, (12, 0, 0), 0, 0, []) else TN) else (bif Nat.blt pc 7 then (bif Nat.beq pc 6 then (.iload_n 1, 7, (1, 0, 0), 0, 0, []) else TN) else (bif Nat.beq pc 7 then (.iload_n 0, 8, (0, 0, 0), 0, 0, []) else TN)))) else (bif Nat.blt pc 12 then (bif Nat.blt pc 9 then (bif Nat.beq pc 8 then (.ishr, 9, (0, 0, 0), 0, 0, []) else TN) else (bif Nat.beq pc 9 then (.goto 9, 12, (18, 0, 0), 0, 0, []) else TN)) else (bif Nat.blt pc 13 then (bif Nat.beq pc 12 then (.iload_n 2, 13, (2, 0, 0), 0, 0, []) else TN) else (bif Nat.blt pc 14 then (bif Nat.beq pc 13 then (.iload_n 0, 14, (0, 0, 0), 0, 0, []) else TN) else (bif Nat.beq pc 14 then (.bipush 20, 16, (0, 0, 0), 20, 0, []) else TN))))) else (bif Nat.blt pc 21 then (bif Nat.blt pc 18 then (bif Nat.blt pc 17 then (bif Nat.beq pc 16 then (.isub, 17, (0, 0, 0), 0, 0, []) else TN) else (bif Nat.beq pc 17 then (.ishr, 18, (0, 0, 0), 0, 0, []) else TN)) else (bif Nat.blt pc 19 then (bif Nat.beq pc 18 then (.iconst 1, 19, (0, 0, 0), 1, 0, []) else TN) else (bif Nat.blt pc 20 then (bif Nat.beq pc 19 then (.iand, 20, (0, 0, 0), 0, 0, []) else TN) else (bif Nat.beq pc 20 then (.iconst 1, 21, (0, 0, 0), 1, 0, []) else TN)))) else (bif Nat.blt pc 25 then (bif Nat.blt pc 24 then (bif Nat.beq pc 21 then (.if_icmp .ne 7, 24, (28, 0, 0), 0, 0, []) else TN) else (bif Nat.beq pc 24 then (.iconst 1, 25, (0, 0, 0), 1, 0, []) else TN)) else (bif Nat.blt pc 28 then (bif Nat.beq pc 25 then (.goto 4, 28, (29, 0, 0), 0, 0, []) else TN) else (bif Nat.blt pc 29 then (bif Nat.beq pc 28 then (.iconst 0, 29, (0, 0, 0), 0, 0, []) else TN) else (bif Nat.beq pc 29 then (.ireturn, 30, (0, 0, 0), 0, 0, []) else TN)))))
def tb_X12_isListed (pc : Nat) : TI := bif Nat.ble 30 pc then TN else tt_X12_isListed pc
theorem ok_X12_isListed : tOK 12 (decide ("isListed" = "<init>")) cX12_isListed tb_X12_isListed := tOK_of 30 tn_of (by decide +kernel)
def f_X12_isListed_18 (L : Lay) (σ : Sto) (s0 : Int32) : Option Int32 := (if (s0 &&& 1) = 1 then (ckN 1 1).bind fun _ => some 1 else (ckN 1 0).bind fun _ => some 0)
def A_X12_isListed_18 (c : Lay → Sto → Int32 → Option Int32) (lc : List (Option AV)) (st : List AV) (L : Lay) (σ : Sto) : Option Int32 := match lc, st with
  | [_, _, _], [.inl s0] => c L σ s0
  | _, _ => none
def f_X12_isListed (L : Lay) (σ : Sto) (a0 : Int32) (a1 : Int32) (a2 : Int32) : Option Int32 := (if 20 ≤ a0 then (f_X12_isListed_18) L σ (a2 >>> ((a0 - 20) &&& 31)) else (f_X12_isListed_18) L σ (a1 >>> (a0 &&& 31)))
def ad_X12_isListed : ADT := fun O L σ as k => match as with
  | [.inl a0, .inl a1, .inl a2] => (f_X12_isListed L σ a0 a1 a2).bind fun r => k (some (vI r)) L σ
  | _ => none
abbrev cl_X12_isListed {O : Type} : CLT O := cl0
theorem hc_X12_isListed (G : GT) (l : Launch) {d : Nat} (hd : 1 ≤ d) {O : Type} : HCL G l (true, true) d (cl_X12_isListed (O := O)) := hcl0
theorem rt_X12_isListed : retOK (1, 0) (some .boolean) := ⟨fun _ => rfl, fun h => absurd h (by decide), fun h => absurd h (by decide)⟩
set_option maxRecDepth 20000 in
theorem b_X12_isListed_18 {G : GT} {l : Launch} {d : Nat} {L0 : Lay} {σ0 : Sto} (hd : 1 ≤ d) : HF G l 12 "isListed" cX12_isListed 3 (some .boolean) d L0 σ0 (true, true) (dcPI L0 σ0) 18 (A_X12_isListed_18 f_X12_isListed_18) := by
  intro lc st L σ o h hI
  unfold A_X12_isListed_18 at h
  split at h
  · have hA0 := h
    exact exs (sp := []) (K := k0) ok_X12_isListed rt_X12_isListed (by omega) (hc_X12_isListed G l hd) (hrPI rfl rfl) hk0 23 hA0 hI
  · cases h
set_option maxRecDepth 20000 in
theorem ca_X12_isListed (G : GT) (l : Launch) {d : Nat} (hd : 1 ≤ d) : CA G l 156 (true, true) d ad_X12_isListed := by
  intro O L σ as k o h hW hok
  unfold ad_X12_isListed at h
  split at h
  · have hA0 := h
    obtain ⟨r, hr, hk⟩ := Option.bind_eq_some_iff.mp hA0
    exact ca_of (q := (dcPI L σ) r) (by decide) rfl (Nat.le_of_ble_eq_true rfl) hk (fun _ => rfl) (fun _ => rfl) (exs (sp := [18]) (K := (kc 18 (A_X12_isListed_18 (f_X12_isListed_18)) k0)) (L0 := L) (σ0 := σ) ok_X12_isListed rt_X12_isListed (by omega) (hc_X12_isListed G l hd) (hrPI rfl rfl) (hkc (b_X12_isListed_18 hd) hk0) 23 hr (inv0 hW hok))
  · cases h
def tt_X12_isOf (pc : Nat) : TI := bif Nat.blt pc 19 then (bif Nat.blt pc 9 then (bif Nat.blt pc 2 then (bif Nat.blt pc 1 then (bif Nat.beq pc 0 then (.aload_n 0, 1, (0, 0, 0), 0, 0, []) else TN) else (bif Nat.beq pc 1 then (.iload_n 1, 2, (1, 0, 0), 0, 0, []) else TN)) else (bif Nat.blt pc 5 then (bif Nat.beq pc 2 then (.invokevirtual 158, 5, (150, 1, 12), 0, 0, []) else TN) else (bif Nat.blt pc 8 then (bif Nat.beq pc 5 then (.ifCond .eq 12, 8, (17, 0, 0), 0, 0, []) else TN) else (bif Nat.beq pc 8 then (.iload_n 2, 9, (2, 0, 0), 0, 0, []) else TN)))) else (bif Nat.blt pc 11 then (bif Nat.blt pc 10 then (bif Nat.beq pc 9 then (.iconst 0, 10, (0, 0, 0), 0, 0, []) else TN) else (bif Nat.beq pc 10 then (.iconst 3, 11, (0, 0, 0), 3, 0, []) else TN)) else (bif Nat.blt pc 14 then (bif Nat.beq pc 11 then (.invokestatic 146, 14, (147, 3, 0), 0, 0, []) else TN) else (bif Nat.blt pc 17 then (bif Nat.beq pc 14 then (.ifCond .ne 6, 17, (20, 0, 0), 0, 0, []) else TN) else (bif Nat.beq pc 17 then (.ldc 156, 19, (0, 0, 0), -1000000001, 0, []) else TN))))) else (bif Nat.blt pc 26 then (bif Nat.blt pc 21 then (bif Nat.blt pc 20 then (bif Nat.beq pc 19 then (.ireturn, 20, (0, 0, 0), 0, 0, []) else TN) else (bif Nat.beq pc 20 then (.aload_n 0, 21, (0, 0, 0), 0, 0, []) else TN)) else (bif Nat.blt pc 22 then (bif Nat.beq pc 21 then (.iload_n 1, 22, (1, 0, 0), 0, 0, []) else TN) else (bif Nat.blt pc 23 then (bif Nat.beq pc 22 then (.iload_n 2, 23, (2, 0, 0), 0, 0, []) else TN) else (bif Nat.beq pc 23 then (.invokevirtual 162, 26, (159, 2, 12), 0, 0, []) else TN)))) else (bif Nat.blt pc 30 then (bif Nat.blt pc 29 then (bif Nat.beq pc 26 then (.ifCond .eq 7, 29, (33, 0, 0), 0, 0, []) else TN) else (bif Nat.beq pc 29 then (.iconst 1, 30, (0, 0, 0), 1, 0, []) else TN)) else (bif Nat.blt pc 33 then (bif Nat.beq pc 30 then (.goto 4, 33, (34, 0, 0), 0, 0, []) else TN) else (bif Nat.blt pc 34 then (bif Nat.beq pc 33 then (.iconst 0, 34, (0, 0, 0), 0, 0, []) else TN) else (bif Nat.beq pc 34 then (.ireturn, 35, (0, 0, 0), 0, 0, []) else TN)))))
def tb_X12_isOf (pc : Nat) : TI := bif Nat.ble 35 pc then TN else tt_X12_isOf pc
theorem ok_X12_isOf : tOK 12 (decide ("isOf" = "<init>")) cX12_isOf tb_X12_isOf := tOK_of 35 tn_of (by decide +kernel)
def f_X12_isOf (L : Lay) (σ : Sto) (a0 : Nat) (a1 : Int32) (a2 : Int32) : Option Int32 := (f_X12_isBranch L σ a0 a1).bind fun r1 => (if r1 = 0 then some (-1000000001) else (f_X12_in L σ a2 0 3).bind fun r2 => (if r2 = 0 then some (-1000000001) else (f_X12_isOfKind L σ a0 a1 a2).bind fun r3 => (if r3 = 0 then some 0 else some 1)))
def ad_X12_isOf : ADT := fun O L σ as k => match as with
  | [.inr (.inr (.inl (ta0, some a0))), .inl a1, .inl a2] => bif Nat.beq ta0 12 && true then (f_X12_isOf L σ a0 a1 a2).bind fun r => k (some (vI r)) L σ else none
  | _ => none
abbrev cl_X12_isOf {O : Type} : CLT O := (clc 150 ad_X12_isBranch (clc 147 ad_X12_in (clc 159 ad_X12_isOfKind cl0)))
theorem hc_X12_isOf (G : GT) (l : Launch) {d : Nat} (hd : 3 ≤ d) {O : Type} : HCL G l (true, true) d (cl_X12_isOf (O := O)) := (hclc (ca_X12_isBranch G l (d := 2) (Nat.le_refl _)) (fun _ => rfl) (fun _ => rfl) (by omega) (hclc (ca_X12_in G l (d := 1) (Nat.le_refl _)) (fun _ => rfl) (fun _ => rfl) (by omega) (hclc (ca_X12_isOfKind G l (d := 1) (Nat.le_refl _)) (fun _ => rfl) (fun _ => rfl) (by omega) hcl0)))
theorem rt_X12_isOf : retOK (0, 0) (some .int) := ⟨fun _ => rfl, fun h => absurd h (by decide), fun h => absurd h (by decide)⟩
set_option maxRecDepth 20000 in
theorem ca_X12_isOf (G : GT) (l : Launch) {d : Nat} (hd : 3 ≤ d) : CA G l 158 (true, true) d ad_X12_isOf := by
  intro O L σ as k o h hW hok
  unfold ad_X12_isOf at h
  split at h
  · obtain ⟨hq0, hA0⟩ := bif_s h
    obtain ⟨e0, hq1⟩ := beq_and hq0
    subst e0
    obtain ⟨r, hr, hk⟩ := Option.bind_eq_some_iff.mp hA0
    exact ca_of (q := (dcPI L σ) r) (by decide) rfl (Nat.le_of_ble_eq_true rfl) hk (fun _ => rfl) (fun _ => rfl) (exs (sp := []) (K := k0) (L0 := L) (σ0 := σ) ok_X12_isOf rt_X12_isOf (by omega) (hc_X12_isOf G l hd) (hrPI rfl rfl) hk0 23 hr (inv0 hW hok))
  · cases h
def tt_X12_isTime (pc : Nat) : TI := bif Nat.blt pc 6 then (bif Nat.blt pc 2 then (bif Nat.blt pc 1 then (bif Nat.beq pc 0 then (.iload_n 2, 1, (2, 0, 0), 0, 0, []) else TN) else (bif Nat.beq pc 1 then (.aload_n 0, 2, (0, 0, 0), 0, 0, []) else TN)) else (bif Nat.blt pc 5 then (bif Nat.beq pc 2 then (.getfield 46, 5, (12, 18, 0), 0, 0, []) else TN) else (bif Nat.beq pc 5 then (.iload_n 1, 6, (1, 0, 0), 0, 0, []) else TN))) else (bif Nat.blt pc 8 then (bif Nat.blt pc 7 then (bif Nat.beq pc 6 then (.iaload, 7, (0, 0, 0), 0, 0, []) else TN) else (bif Nat.beq pc 7 then (.aload_n 0, 8, (0, 0, 0), 0, 0, []) else TN)) else (bif Nat.blt pc 11 then (bif Nat.beq pc 8 then (.getfield 166, 11, (12, 1, 0), 0, 0, []) else TN) else (bif Nat.blt pc 14 then (bif Nat.beq pc 11 then (.invokestatic 146, 14, (147, 3, 0), 0, 0, []) else TN) else (bif Nat.beq pc 14 then (.ireturn, 15, (0, 0, 0), 0, 0, []) else TN))))
def tb_X12_isTime (pc : Nat) : TI := bif Nat.ble 15 pc then TN else tt_X12_isTime pc
theorem ok_X12_isTime : tOK 12 (decide ("isTime" = "<init>")) cX12_isTime tb_X12_isTime := tOK_of 15 tn_of (by decide +kernel)
def f_X12_isTime (L : Lay) (σ : Sto) (a0 : Nat) (a1 : Int32) (a2 : Int32) : Option Int32 := (σ.2.1 a0 18).bind fun x1 => (rI L σ x1 a1).bind fun v2 => (f_X12_in L σ a2 v2 (σ.1 a0 1)).bind fun r3 => (ckN 1 r3).bind fun _ => some r3
def ad_X12_isTime : ADT := fun O L σ as k => match as with
  | [.inr (.inr (.inl (ta0, some a0))), .inl a1, .inl a2] => bif Nat.beq ta0 12 && true then (f_X12_isTime L σ a0 a1 a2).bind fun r => k (some (vI r)) L σ else none
  | _ => none
abbrev cl_X12_isTime {O : Type} : CLT O := (clc 147 ad_X12_in cl0)
theorem hc_X12_isTime (G : GT) (l : Launch) {d : Nat} (hd : 2 ≤ d) {O : Type} : HCL G l (true, true) d (cl_X12_isTime (O := O)) := (hclc (ca_X12_in G l (d := 1) (Nat.le_refl _)) (fun _ => rfl) (fun _ => rfl) (by omega) hcl0)
theorem rt_X12_isTime : retOK (1, 0) (some .boolean) := ⟨fun _ => rfl, fun h => absurd h (by decide), fun h => absurd h (by decide)⟩
set_option maxRecDepth 20000 in
theorem ca_X12_isTime (G : GT) (l : Launch) {d : Nat} (hd : 2 ≤ d) : CA G l 163 (true, true) d ad_X12_isTime := by
  intro O L σ as k o h hW hok
  unfold ad_X12_isTime at h
  split at h
  · obtain ⟨hq0, hA0⟩ := bif_s h
    obtain ⟨e0, hq1⟩ := beq_and hq0
    subst e0
    obtain ⟨r, hr, hk⟩ := Option.bind_eq_some_iff.mp hA0
    exact ca_of (q := (dcPI L σ) r) (by decide) rfl (Nat.le_of_ble_eq_true rfl) hk (fun _ => rfl) (fun _ => rfl) (exs (sp := []) (K := k0) (L0 := L) (σ0 := σ) ok_X12_isTime rt_X12_isTime (by omega) (hc_X12_isTime G l hd) (hrPI rfl rfl) hk0 12 hr (inv0 hW hok))
  · cases h
def tt_X12_isWord (pc : Nat) : TI := bif Nat.blt pc 37 then (bif Nat.blt pc 18 then (bif Nat.blt pc 9 then (bif Nat.blt pc 4 then (bif Nat.blt pc 1 then (bif Nat.beq pc 0 then (.aload_n 0, 1, (0, 0, 0), 0, 0, []) else TN) else (bif Nat.beq pc 1 then (.getfield 250, 4, (12, 53, 0), 0, 0, []) else TN)) else (bif Nat.blt pc 5 then (bif Nat.beq pc 4 then (.iconst 1, 5, (0, 0, 0), 1, 0, []) else TN) else (bif Nat.blt pc 8 then (bif Nat.beq pc 5 then (.if_icmp .ne 23, 8, (28, 0, 0), 0, 0, []) else TN) else (bif Nat.beq pc 8 then (.aload_n 0, 9, (0, 0, 0), 0, 0, []) else TN)))) else (bif Nat.blt pc 13 then (bif Nat.blt pc 12 then (bif Nat.beq pc 9 then (.getfield 253, 12, (12, 55, 0), 0, 0, []) else TN) else (bif Nat.beq pc 12 then (.aload_n 0, 13, (0, 0, 0), 0, 0, []) else TN)) else (bif Nat.blt pc 16 then (bif Nat.beq pc 13 then (.getfield 256, 16, (12, 54, 0), 0, 0, []) else TN) else (bif Nat.blt pc 17 then (bif Nat.beq pc 16 then (.isub, 17, (0, 0, 0), 0, 0, []) else TN) else (bif Nat.beq pc 17 then (.aload_n 1, 18, (1, 0, 0), 0, 0, []) else TN))))) else (bif Nat.blt pc 29 then (bif Nat.blt pc 24 then (bif Nat.blt pc 21 then (bif Nat.beq pc 18 then (.invokevirtual 271, 21, (9, 0, 50), 0, 0, []) else TN) else (bif Nat.beq pc 21 then (.if_icmp .ne 7, 24, (28, 0, 0), 0, 0, []) else TN)) else (bif Nat.blt pc 25 then (bif Nat.beq pc 24 then (.iconst 1, 25, (0, 0, 0), 1, 0, []) else TN) else (bif Nat.blt pc 28 then (bif Nat.beq pc 25 then (.goto 4, 28, (29, 0, 0), 0, 0, []) else TN) else (bif Nat.beq pc 28 then (.iconst 0, 29, (0, 0, 0), 0, 0, []) else TN)))) else (bif Nat.blt pc 32 then (bif Nat.blt pc 30 then (bif Nat.beq pc 29 then (.istore_n 2, 30, (2, 0, 0), 0, 0, []) else TN) else (bif Nat.blt pc 31 then (bif Nat.beq pc 30 then (.iconst 0, 31, (0, 0, 0), 0, 0, []) else TN) else (bif Nat.beq pc 31 then (.istore_n 3, 32, (3, 0, 0), 0, 0, []) else TN))) else (bif Nat.blt pc 33 then (bif Nat.beq pc 32 then (.iload_n 2, 33, (2, 0, 0), 0, 0, []) else TN) else (bif Nat.blt pc 36 then (bif Nat.beq pc 33 then (.ifCond .eq 41, 36, (74, 0, 0), 0, 0, []) else TN) else (bif Nat.beq pc 36 then (.iload_n 3, 37, (3, 0, 0), 0, 0, []) else TN)))))) else (bif Nat.blt pc 55 then (bif Nat.blt pc 46 then (bif Nat.blt pc 41 then (bif Nat.blt pc 38 then (bif Nat.beq pc 37 then (.aload_n 1, 38, (1, 0, 0), 0, 0, []) else TN) else (bif Nat.beq pc 38 then (.invokevirtual 271, 41, (9, 0, 50), 0, 0, []) else TN)) else (bif Nat.blt pc 44 then (bif Nat.beq pc 41 then (.if_icmp .ge 33, 44, (74, 0, 0), 0, 0, []) else TN) else (bif Nat.blt pc 45 then (bif Nat.beq pc 44 then (.aload_n 0, 45, (0, 0, 0), 0, 0, []) else TN) else (bif Nat.beq pc 45 then (.aload_n 0, 46, (0, 0, 0), 0, 0, []) else TN)))) else (bif Nat.blt pc 50 then (bif Nat.blt pc 49 then (bif Nat.beq pc 46 then (.getfield 256, 49, (12, 54, 0), 0, 0, []) else TN) else (bif Nat.beq pc 49 then (.iload_n 3, 50, (3, 0, 0), 0, 0, []) else TN)) else (bif Nat.blt pc 51 then (bif Nat.beq pc 50 then (.iadd, 51, (0, 0, 0), 0, 0, []) else TN) else (bif Nat.blt pc 54 then (bif Nat.beq pc 51 then (.invokevirtual 259, 54, (122, 1, 12), 0, 0, []) else TN) else (bif Nat.beq pc 54 then (.aload_n 1, 55, (1, 0, 0), 0, 0, []) else TN))))) else (bif Nat.blt pc 66 then (bif Nat.blt pc 59 then (bif Nat.blt pc 56 then (bif Nat.beq pc 55 then (.iload_n 3, 56, (3, 0, 0), 0, 0, []) else TN) else (bif Nat.beq pc 56 then (.invokevirtual 277, 59, (2, 1, 50), 0, 0, []) else TN)) else (bif Nat.blt pc 62 then (bif Nat.beq pc 59 then (.if_icmp .ne 7, 62, (66, 0, 0), 0, 0, []) else TN) else (bif Nat.blt pc 63 then (bif Nat.beq pc 62 then (.iconst 1, 63, (0, 0, 0), 1, 0, []) else TN) else (bif Nat.beq pc 63 then (.goto 4, 66, (67, 0, 0), 0, 0, []) else TN)))) else (bif Nat.blt pc 71 then (bif Nat.blt pc 67 then (bif Nat.beq pc 66 then (.iconst 0, 67, (0, 0, 0), 0, 0, []) else TN) else (bif Nat.blt pc 68 then (bif Nat.beq pc 67 then (.istore_n 2, 68, (2, 0, 0), 0, 0, []) else TN) else (bif Nat.beq pc 68 then (.iinc 3 1, 71, (3, 0, 0), 1, 0, []) else TN))) else (bif Nat.blt pc 74 then (bif Nat.beq pc 71 then (.goto (-39), 74, (32, 0, 0), 0, 0, []) else TN) else (bif Nat.blt pc 75 then (bif Nat.beq pc 74 then (.iload_n 2, 75, (2, 0, 0), 0, 0, []) else TN) else (bif Nat.beq pc 75 then (.ireturn, 76, (0, 0, 0), 0, 0, []) else TN))))))
def tb_X12_isWord (pc : Nat) : TI := bif Nat.ble 76 pc then TN else tt_X12_isWord pc
theorem ok_X12_isWord : tOK 12 (decide ("isWord" = "<init>")) cX12_isWord tb_X12_isWord := tOK_of 76 tn_of (by decide +kernel)
def f_X12_isWord_67 (c32 : Lay → Sto → Nat → Nat → Int32 → Int32 → Option Int32) (L : Lay) (σ : Sto) (a0 : Nat) (a1 : Nat) (a3 : Int32) (s0 : Int32) : Option Int32 := c32 L σ a0 a1 s0 (a3 + 1)
def A_X12_isWord_67 (c : Lay → Sto → Nat → Nat → Int32 → Int32 → Option Int32) (lc : List (Option AV)) (st : List AV) (L : Lay) (σ : Sto) : Option Int32 := match lc, st with
  | [some (.inr (.inr (.inl (ta0, some a0)))), some (.inr (.inr (.inr (ta1, a1)))), _, some (.inl a3)], [.inl s0] => bif Nat.beq ta0 12 && (Nat.beq ta1 0 && true) then c L σ a0 a1 a3 s0 else none
  | _, _ => none
def f_X12_isWord_32 : Nat → Lay → Sto → Nat → Nat → Int32 → Int32 → Option Int32
  | 0 => fun _ _ _ _ _ _ => none
  | k + 1 => fun L σ a0 a1 a2 a3 => (if a2 = 0 then (ckN 1 a2).bind fun _ => some a2 else (f_J0_length_8abf5 L σ a1).bind fun r1 => (if r1 ≤ a3 then (ckN 1 a2).bind fun _ => some a2 else (f_X12_at L σ a0 ((σ.1 a0 54) + a3)).bind fun r2 => (f_J0_charAt_5068e L σ a1 a3).bind fun r3 => (if r2 = r3 then (f_X12_isWord_67 (f_X12_isWord_32 k)) L σ a0 a1 a3 1 else (f_X12_isWord_67 (f_X12_isWord_32 k)) L σ a0 a1 a3 0)))
def A_X12_isWord_32 (c : Lay → Sto → Nat → Nat → Int32 → Int32 → Option Int32) (lc : List (Option AV)) (st : List AV) (L : Lay) (σ : Sto) : Option Int32 := match lc, st with
  | [some (.inr (.inr (.inl (ta0, some a0)))), some (.inr (.inr (.inr (ta1, a1)))), some (.inl a2), some (.inl a3)], [] => bif Nat.beq ta0 12 && (Nat.beq ta1 0 && true) then c L σ a0 a1 a2 a3 else none
  | _, _ => none
def f_X12_isWord_29 (L : Lay) (σ : Sto) (a0 : Nat) (a1 : Nat) (s0 : Int32) : Option Int32 := (f_X12_isWord_32 FU) L σ a0 a1 s0 0
def A_X12_isWord_29 (c : Lay → Sto → Nat → Nat → Int32 → Option Int32) (lc : List (Option AV)) (st : List AV) (L : Lay) (σ : Sto) : Option Int32 := match lc, st with
  | [some (.inr (.inr (.inl (ta0, some a0)))), some (.inr (.inr (.inr (ta1, a1)))), _, _], [.inl s0] => bif Nat.beq ta0 12 && (Nat.beq ta1 0 && true) then c L σ a0 a1 s0 else none
  | _, _ => none
def f_X12_isWord_28 (L : Lay) (σ : Sto) (a0 : Nat) (a1 : Nat) : Option Int32 := (f_X12_isWord_29) L σ a0 a1 0
def A_X12_isWord_28 (c : Lay → Sto → Nat → Nat → Option Int32) (lc : List (Option AV)) (st : List AV) (L : Lay) (σ : Sto) : Option Int32 := match lc, st with
  | [some (.inr (.inr (.inl (ta0, some a0)))), some (.inr (.inr (.inr (ta1, a1)))), _, _], [] => bif Nat.beq ta0 12 && (Nat.beq ta1 0 && true) then c L σ a0 a1 else none
  | _, _ => none
def f_X12_isWord (L : Lay) (σ : Sto) (a0 : Nat) (a1 : Nat) : Option Int32 := (if (σ.1 a0 53) = 1 then (f_J0_length_8abf5 L σ a1).bind fun r4 => (if ((σ.1 a0 55) - (σ.1 a0 54)) = r4 then (f_X12_isWord_29) L σ a0 a1 1 else (f_X12_isWord_28) L σ a0 a1) else (f_X12_isWord_28) L σ a0 a1)
def ad_X12_isWord : ADT := fun O L σ as k => match as with
  | [.inr (.inr (.inl (ta0, some a0))), .inr (.inr (.inr (ta1, a1)))] => bif Nat.beq ta0 12 && (Nat.beq ta1 0 && true) then (f_X12_isWord L σ a0 a1).bind fun r => k (some (vI r)) L σ else none
  | _ => none
abbrev cl_X12_isWord {O : Type} : CLT O := (clc 9 ad_J0_length_8abf5 (clc 122 ad_X12_at (clc 2 ad_J0_charAt_5068e cl0)))
theorem hc_X12_isWord (G : GT) (l : Launch) {d : Nat} (hd : 5 ≤ d) {O : Type} : HCL G l (true, true) d (cl_X12_isWord (O := O)) := (hclc (ca_J0_length_8abf5 G l (d := 2) (Nat.le_refl _)) (fun _ => rfl) (fun _ => rfl) (by omega) (hclc (ca_X12_at G l (d := 1) (Nat.le_refl _)) (fun _ => rfl) (fun _ => rfl) (by omega) (hclc (ca_J0_charAt_5068e G l (d := 4) (Nat.le_refl _)) (fun _ => rfl) (fun _ => rfl) (by omega) hcl0)))
theorem rt_X12_isWord : retOK (1, 0) (some .boolean) := ⟨fun _ => rfl, fun h => absurd h (by decide), fun h => absurd h (by decide)⟩
set_option maxRecDepth 20000 in
theorem b_X12_isWord_67 {G : GT} {l : Launch} {d : Nat} {L0 : Lay} {σ0 : Sto} (hd : 5 ≤ d) {c32 : Lay → Sto → Nat → Nat → Int32 → Int32 → Option Int32} (h32 : HF G l 12 "isWord" cX12_isWord 4 (some .boolean) d L0 σ0 (true, true) (dcPI L0 σ0) 32 (A_X12_isWord_32 c32)) : HF G l 12 "isWord" cX12_isWord 4 (some .boolean) d L0 σ0 (true, true) (dcPI L0 σ0) 67 (A_X12_isWord_67 (f_X12_isWord_67 c32)) := by
  intro lc st L σ o h hI
  unfold A_X12_isWord_67 at h
  split at h
  · obtain ⟨hq0, hA1⟩ := bif_s h
    obtain ⟨e0, hq1⟩ := beq_and hq0
    obtain ⟨e1, hq2⟩ := beq_and hq1
    subst e0
    subst e1
    exact exs (sp := [32]) (K := (kc 32 (A_X12_isWord_32 c32) k0)) ok_X12_isWord rt_X12_isWord (by omega) (hc_X12_isWord G l hd) (hrPI rfl rfl) (hkc h32 hk0) 45 hA1 hI
  · cases h
set_option maxRecDepth 20000 in
theorem b_X12_isWord_32 {G : GT} {l : Launch} {d : Nat} {L0 : Lay} {σ0 : Sto} (hd : 5 ≤ d) : ∀ k : Nat, HF G l 12 "isWord" cX12_isWord 4 (some .boolean) d L0 σ0 (true, true) (dcPI L0 σ0) 32 (A_X12_isWord_32 (f_X12_isWord_32 k))
  | 0 => by
    intro lc st L σ o h hI
    unfold A_X12_isWord_32 at h
    split at h
    · obtain ⟨_, hA1⟩ := bif_s h
      cases hA1
    · cases h
  | k + 1 => by
    have ih := b_X12_isWord_32 (G := G) (l := l) (d := d) (L0 := L0) (σ0 := σ0) hd k
    intro lc st L σ o h hI
    unfold A_X12_isWord_32 at h
    split at h
    · obtain ⟨hq0, hA1⟩ := bif_s h
      obtain ⟨e0, hq1⟩ := beq_and hq0
      obtain ⟨e1, hq2⟩ := beq_and hq1
      subst e0
      subst e1
      exact exs (sp := [67]) (K := (kc 67 (A_X12_isWord_67 (f_X12_isWord_67 (f_X12_isWord_32 k))) k0)) ok_X12_isWord rt_X12_isWord (by omega) (hc_X12_isWord G l hd) (hrPI rfl rfl) (hkc (b_X12_isWord_67 hd ih) hk0) 45 hA1 hI
    · cases h
set_option maxRecDepth 20000 in
theorem b_X12_isWord_29 {G : GT} {l : Launch} {d : Nat} {L0 : Lay} {σ0 : Sto} (hd : 5 ≤ d) : HF G l 12 "isWord" cX12_isWord 4 (some .boolean) d L0 σ0 (true, true) (dcPI L0 σ0) 29 (A_X12_isWord_29 f_X12_isWord_29) := by
  intro lc st L σ o h hI
  unfold A_X12_isWord_29 at h
  split at h
  · obtain ⟨hq0, hA1⟩ := bif_s h
    obtain ⟨e0, hq1⟩ := beq_and hq0
    obtain ⟨e1, hq2⟩ := beq_and hq1
    subst e0
    subst e1
    exact exs (sp := [32]) (K := (kc 32 (A_X12_isWord_32 (f_X12_isWord_32 FU)) k0)) ok_X12_isWord rt_X12_isWord (by omega) (hc_X12_isWord G l hd) (hrPI rfl rfl) (hkc (b_X12_isWord_32 hd FU) hk0) 45 hA1 hI
  · cases h
set_option maxRecDepth 20000 in
theorem b_X12_isWord_28 {G : GT} {l : Launch} {d : Nat} {L0 : Lay} {σ0 : Sto} (hd : 5 ≤ d) : HF G l 12 "isWord" cX12_isWord 4 (some .boolean) d L0 σ0 (true, true) (dcPI L0 σ0) 28 (A_X12_isWord_28 f_X12_isWord_28) := by
  intro lc st L σ o h hI
  unfold A_X12_isWord_28 at h
  split at h
  · obtain ⟨hq0, hA1⟩ := bif_s h
    obtain ⟨e0, hq1⟩ := beq_and hq0
    obtain ⟨e1, hq2⟩ := beq_and hq1
    subst e0
    subst e1
    exact exs (sp := [29]) (K := (kc 29 (A_X12_isWord_29 (f_X12_isWord_29)) k0)) ok_X12_isWord rt_X12_isWord (by omega) (hc_X12_isWord G l hd) (hrPI rfl rfl) (hkc (b_X12_isWord_29 hd) hk0) 45 hA1 hI
  · cases h
set_option maxRecDepth 20000 in
theorem ca_X12_isWord (G : GT) (l : Launch) {d : Nat} (hd : 5 ≤ d) : CA G l 165 (true, true) d ad_X12_isWord := by
  intro O L σ as k o h hW hok
  unfold ad_X12_isWord at h
  split at h
  · obtain ⟨hq0, hA0⟩ := bif_s h
    obtain ⟨e0, hq1⟩ := beq_and hq0
    obtain ⟨e1, hq2⟩ := beq_and hq1
    subst e0
    subst e1
    obtain ⟨r, hr, hk⟩ := Option.bind_eq_some_iff.mp hA0
    exact ca_of (q := (dcPI L σ) r) (by decide) rfl (Nat.le_of_ble_eq_true rfl) hk (fun _ => rfl) (fun _ => rfl) (exs (sp := [28, 29]) (K := (kc 28 (A_X12_isWord_28 (f_X12_isWord_28)) (kc 29 (A_X12_isWord_29 (f_X12_isWord_29)) k0))) (L0 := L) (σ0 := σ) ok_X12_isWord rt_X12_isWord (by omega) (hc_X12_isWord G l hd) (hrPI rfl rfl) (hkc (b_X12_isWord_28 hd) (hkc (b_X12_isWord_29 hd) hk0)) 45 hr (inv0 hW hok))
  · cases h
def tt_X12_joins (pc : Nat) : TI := bif Nat.blt pc 58 then (bif Nat.blt pc 27 then (bif Nat.blt pc 12 then (bif Nat.blt pc 4 then (bif Nat.blt pc 2 then (bif Nat.blt pc 1 then (bif Nat.beq pc 0 then (.iconst 0, 1, (0, 0, 0), 0, 0, []) else TN) else (bif Nat.beq pc 1 then (.istore_n 2, 2, (2, 0, 0), 0, 0, []) else TN)) else (bif Nat.blt pc 3 then (bif Nat.beq pc 2 then (.iload_n 2, 3, (2, 0, 0), 0, 0, []) else TN) else (bif Nat.beq pc 3 then (.aload_n 0, 4, (0, 0, 0), 0, 0, []) else TN))) else (bif Nat.blt pc 10 then (bif Nat.blt pc 7 then (bif Nat.beq pc 4 then (.getfield 182, 7, (12, 13, 0), 0, 0, []) else TN) else (bif Nat.beq pc 7 then (.if_icmp .ge 110, 10, (117, 0, 0), 0, 0, []) else TN)) else (bif Nat.blt pc 11 then (bif Nat.beq pc 10 then (.iconst 0, 11, (0, 0, 0), 0, 0, []) else TN) else (bif Nat.beq pc 11 then (.istore_n 3, 12, (3, 0, 0), 0, 0, []) else TN)))) else (bif Nat.blt pc 20 then (bif Nat.blt pc 14 then (bif Nat.blt pc 13 then (bif Nat.beq pc 12 then (.iload_n 3, 13, (3, 0, 0), 0, 0, []) else TN) else (bif Nat.beq pc 13 then (.aload_n 0, 14, (0, 0, 0), 0, 0, []) else TN)) else (bif Nat.blt pc 17 then (bif Nat.beq pc 14 then (.getfield 150, 17, (12, 4, 0), 0, 0, []) else TN) else (bif Nat.beq pc 17 then (.if_icmp .ge 94, 20, (111, 0, 0), 0, 0, []) else TN))) else (bif Nat.blt pc 24 then (bif Nat.blt pc 21 then (bif Nat.beq pc 20 then (.aload_n 0, 21, (0, 0, 0), 0, 0, []) else TN) else (bif Nat.beq pc 21 then (.getfield 108, 24, (12, 43, 0), 0, 0, []) else TN)) else (bif Nat.blt pc 25 then (bif Nat.beq pc 24 then (.iload_n 2, 25, (2, 0, 0), 0, 0, []) else TN) else (bif Nat.blt pc 26 then (bif Nat.beq pc 25 then (.iaload, 26, (0, 0, 0), 0, 0, []) else TN) else (bif Nat.beq pc 26 then (.iconst (-1), 27, (0, 0, 0), -1, 0, []) else TN)))))) else (bif Nat.blt pc 41 then (bif Nat.blt pc 35 then (bif Nat.blt pc 31 then (bif Nat.blt pc 30 then (bif Nat.beq pc 27 then (.if_icmp .ne 84, 30, (111, 0, 0), 0, 0, []) else TN) else (bif Nat.beq pc 30 then (.aload_n 0, 31, (0, 0, 0), 0, 0, []) else TN)) else (bif Nat.blt pc 34 then (bif Nat.beq pc 31 then (.getfield 115, 34, (12, 45, 0), 0, 0, []) else TN) else (bif Nat.beq pc 34 then (.iload_n 3, 35, (3, 0, 0), 0, 0, []) else TN))) else (bif Nat.blt pc 39 then (bif Nat.blt pc 36 then (bif Nat.beq pc 35 then (.baload, 36, (0, 0, 0), 0, 0, []) else TN) else (bif Nat.beq pc 36 then (.ifCond .ne 69, 39, (105, 0, 0), 0, 0, []) else TN)) else (bif Nat.blt pc 40 then (bif Nat.beq pc 39 then (.aload_n 0, 40, (0, 0, 0), 0, 0, []) else TN) else (bif Nat.beq pc 40 then (.iload_n 3, 41, (3, 0, 0), 0, 0, []) else TN)))) else (bif Nat.blt pc 49 then (bif Nat.blt pc 45 then (bif Nat.blt pc 42 then (bif Nat.beq pc 41 then (.aload_n 0, 42, (0, 0, 0), 0, 0, []) else TN) else (bif Nat.beq pc 42 then (.getfield 166, 45, (12, 1, 0), 0, 0, []) else TN)) else (bif Nat.blt pc 48 then (bif Nat.beq pc 45 then (.invokevirtual 178, 48, (187, 2, 12), 0, 0, []) else TN) else (bif Nat.beq pc 48 then (.aload_n 0, 49, (0, 0, 0), 0, 0, []) else TN))) else (bif Nat.blt pc 53 then (bif Nat.blt pc 52 then (bif Nat.beq pc 49 then (.getfield 40, 52, (12, 15, 0), 0, 0, []) else TN) else (bif Nat.beq pc 52 then (.iload_n 2, 53, (2, 0, 0), 0, 0, []) else TN)) else (bif Nat.blt pc 54 then (bif Nat.beq pc 53 then (.iaload, 54, (0, 0, 0), 0, 0, []) else TN) else (bif Nat.blt pc 57 then (bif Nat.beq pc 54 then (.if_icmp .ne 51, 57, (105, 0, 0), 0, 0, []) else TN) else (bif Nat.beq pc 57 then (.aload_n 0, 58, (0, 0, 0), 0, 0, []) else TN))))))) else (bif Nat.blt pc 87 then (bif Nat.blt pc 72 then (bif Nat.blt pc 64 then (bif Nat.blt pc 62 then (bif Nat.blt pc 61 then (bif Nat.beq pc 58 then (.getfield 13, 61, (12, 5, 0), 0, 0, []) else TN) else (bif Nat.beq pc 61 then (.iload_n 3, 62, (3, 0, 0), 0, 0, []) else TN)) else (bif Nat.blt pc 63 then (bif Nat.beq pc 62 then (.iaload, 63, (0, 0, 0), 0, 0, []) else TN) else (bif Nat.beq pc 63 then (.aload_n 0, 64, (0, 0, 0), 0, 0, []) else TN))) else (bif Nat.blt pc 68 then (bif Nat.blt pc 67 then (bif Nat.beq pc 64 then (.getfield 37, 67, (12, 14, 0), 0, 0, []) else TN) else (bif Nat.beq pc 67 then (.iload_n 2, 68, (2, 0, 0), 0, 0, []) else TN)) else (bif Nat.blt pc 69 then (bif Nat.beq pc 68 then (.iaload, 69, (0, 0, 0), 0, 0, []) else TN) else (bif Nat.beq pc 69 then (.invokestatic 192, 72, (140, 2, 0), 0, 0, []) else TN)))) else (bif Nat.blt pc 80 then (bif Nat.blt pc 76 then (bif Nat.blt pc 73 then (bif Nat.beq pc 72 then (.iload_n 1, 73, (1, 0, 0), 0, 0, []) else TN) else (bif Nat.beq pc 73 then (.if_icmp .ne 32, 76, (105, 0, 0), 0, 0, []) else TN)) else (bif Nat.blt pc 77 then (bif Nat.beq pc 76 then (.aload_n 0, 77, (0, 0, 0), 0, 0, []) else TN) else (bif Nat.beq pc 77 then (.getfield 108, 80, (12, 43, 0), 0, 0, []) else TN))) else (bif Nat.blt pc 82 then (bif Nat.blt pc 81 then (bif Nat.beq pc 80 then (.iload_n 2, 81, (2, 0, 0), 0, 0, []) else TN) else (bif Nat.beq pc 81 then (.iload_n 3, 82, (3, 0, 0), 0, 0, []) else TN)) else (bif Nat.blt pc 83 then (bif Nat.beq pc 82 then (.iastore, 83, (0, 0, 0), 0, 0, []) else TN) else (bif Nat.blt pc 84 then (bif Nat.beq pc 83 then (.aload_n 0, 84, (0, 0, 0), 0, 0, []) else TN) else (bif Nat.beq pc 84 then (.getfield 111, 87, (12, 44, 0), 0, 0, []) else TN)))))) else (bif Nat.blt pc 99 then (bif Nat.blt pc 93 then (bif Nat.blt pc 89 then (bif Nat.blt pc 88 then (bif Nat.beq pc 87 then (.iload_n 2, 88, (2, 0, 0), 0, 0, []) else TN) else (bif Nat.beq pc 88 then (.iload_n 1, 89, (1, 0, 0), 0, 0, []) else TN)) else (bif Nat.blt pc 92 then (bif Nat.beq pc 89 then (.ifCond .ne 7, 92, (96, 0, 0), 0, 0, []) else TN) else (bif Nat.beq pc 92 then (.iconst 1, 93, (0, 0, 0), 1, 0, []) else TN))) else (bif Nat.blt pc 97 then (bif Nat.blt pc 96 then (bif Nat.beq pc 93 then (.goto 4, 96, (97, 0, 0), 0, 0, []) else TN) else (bif Nat.beq pc 96 then (.iconst 0, 97, (0, 0, 0), 0, 0, []) else TN)) else (bif Nat.blt pc 98 then (bif Nat.beq pc 97 then (.bastore, 98, (0, 0, 0), 0, 0, []) else TN) else (bif Nat.beq pc 98 then (.aload_n 0, 99, (0, 0, 0), 0, 0, []) else TN)))) else (bif Nat.blt pc 105 then (bif Nat.blt pc 103 then (bif Nat.blt pc 102 then (bif Nat.beq pc 99 then (.getfield 115, 102, (12, 45, 0), 0, 0, []) else TN) else (bif Nat.beq pc 102 then (.iload_n 3, 103, (3, 0, 0), 0, 0, []) else TN)) else (bif Nat.blt pc 104 then (bif Nat.beq pc 103 then (.iconst 1, 104, (0, 0, 0), 1, 0, []) else TN) else (bif Nat.beq pc 104 then (.bastore, 105, (0, 0, 0), 0, 0, []) else TN))) else (bif Nat.blt pc 111 then (bif Nat.blt pc 108 then (bif Nat.beq pc 105 then (.iinc 3 1, 108, (3, 0, 0), 1, 0, []) else TN) else (bif Nat.beq pc 108 then (.goto (-96), 111, (12, 0, 0), 0, 0, []) else TN)) else (bif Nat.blt pc 114 then (bif Nat.beq pc 111 then (.iinc 2 1, 114, (2, 0, 0), 1, 0, []) else TN) else (bif Nat.blt pc 117 then (bif Nat.beq pc 114 then (.goto (-112), 117, (2, 0, 0), 0, 0, []) else TN) else (bif Nat.beq pc 117 then (.return_, 118, (0, 0, 0), 0, 0, []) else TN)))))))
def tb_X12_joins (pc : Nat) : TI := bif Nat.ble 118 pc then TN else tt_X12_joins pc
theorem ok_X12_joins : tOK 12 (decide ("joins" = "<init>")) cX12_joins tb_X12_joins := tOK_of 118 tn_of (by decide +kernel)
def f_X12_joins_105 (c2 : Lay → Sto → Nat → Int32 → Int32 → Option Sto) (c12 : Lay → Sto → Nat → Int32 → Int32 → Int32 → Option Sto) (L : Lay) (σ : Sto) (a0 : Nat) (a1 : Int32) (a2 : Int32) (a3 : Int32) : Option Sto := c12 L σ a0 a1 a2 (a3 + 1)
def A_X12_joins_105 (c : Lay → Sto → Nat → Int32 → Int32 → Int32 → Option Sto) (lc : List (Option AV)) (st : List AV) (L : Lay) (σ : Sto) : Option Sto := match lc, st with
  | [some (.inr (.inr (.inl (ta0, some a0)))), some (.inl a1), some (.inl a2), some (.inl a3)], [] => bif Nat.beq ta0 12 && true then c L σ a0 a1 a2 a3 else none
  | _, _ => none
def f_X12_joins_97 (c2 : Lay → Sto → Nat → Int32 → Int32 → Option Sto) (c12 : Lay → Sto → Nat → Int32 → Int32 → Int32 → Option Sto) (L : Lay) (σ : Sto) (a0 : Nat) (a1 : Int32) (a2 : Int32) (a3 : Int32) (s0 : Int32) (s1 : Int32) (s2 : Option Nat) : Option Sto := s2.bind fun x1 => (wI L σ x1 s1 (nBo s0)).bind fun σ2 => (σ2.2.1 a0 45).bind fun x3 => (wI L σ2 x3 a3 (nBo 1)).bind fun σ4 => (f_X12_joins_105 c2 c12) L σ4 a0 a1 a2 a3
def A_X12_joins_97 (c : Lay → Sto → Nat → Int32 → Int32 → Int32 → Int32 → Int32 → Option Nat → Option Sto) (lc : List (Option AV)) (st : List AV) (L : Lay) (σ : Sto) : Option Sto := match lc, st with
  | [some (.inr (.inr (.inl (ta0, some a0)))), some (.inl a1), some (.inl a2), some (.inl a3)], [.inl s0, .inl s1, .inr (.inr (.inl (ts2, s2)))] => bif Nat.beq ta0 12 && (Nat.beq ts2 22 && true) then c L σ a0 a1 a2 a3 s0 s1 s2 else none
  | _, _ => none
def f_X12_joins_111 (c2 : Lay → Sto → Nat → Int32 → Int32 → Option Sto) (L : Lay) (σ : Sto) (a0 : Nat) (a1 : Int32) (a2 : Int32) : Option Sto := c2 L σ a0 a1 (a2 + 1)
def A_X12_joins_111 (c : Lay → Sto → Nat → Int32 → Int32 → Option Sto) (lc : List (Option AV)) (st : List AV) (L : Lay) (σ : Sto) : Option Sto := match lc, st with
  | [some (.inr (.inr (.inl (ta0, some a0)))), some (.inl a1), some (.inl a2), _], [] => bif Nat.beq ta0 12 && true then c L σ a0 a1 a2 else none
  | _, _ => none
def f_X12_joins_12 (c2 : Lay → Sto → Nat → Int32 → Int32 → Option Sto) : Nat → Lay → Sto → Nat → Int32 → Int32 → Int32 → Option Sto
  | 0 => fun _ _ _ _ _ _ => none
  | k + 1 => fun L σ a0 a1 a2 a3 => (if (σ.1 a0 4) ≤ a3 then (f_X12_joins_111 c2) L σ a0 a1 a2 else (σ.2.1 a0 43).bind fun x5 => (rI L σ x5 a2).bind fun v6 => (if v6 = (-1) then (σ.2.1 a0 45).bind fun x7 => (rI L σ x7 a3).bind fun v8 => (if v8 = 0 then (f_X12_ofOn L σ a0 a3 (σ.1 a0 1)).bind fun r9 => (σ.2.1 a0 15).bind fun x10 => (rI L σ x10 a2).bind fun v11 => (if r9 = v11 then (σ.2.1 a0 5).bind fun x12 => (rI L σ x12 a3).bind fun v13 => (σ.2.1 a0 14).bind fun x14 => (rI L σ x14 a2).bind fun v15 => (f_X12_figuresApart L σ v13 v15).bind fun r16 => (if r16 = a1 then (σ.2.1 a0 43).bind fun x17 => (wI L σ x17 a2 a3).bind fun σ18 => (if a1 = 0 then (f_X12_joins_97 c2 (f_X12_joins_12 c2 k)) L σ18 a0 a1 a2 a3 1 a2 (σ18.2.1 a0 44) else (f_X12_joins_97 c2 (f_X12_joins_12 c2 k)) L σ18 a0 a1 a2 a3 0 a2 (σ18.2.1 a0 44)) else (f_X12_joins_105 c2 (f_X12_joins_12 c2 k)) L σ a0 a1 a2 a3) else (f_X12_joins_105 c2 (f_X12_joins_12 c2 k)) L σ a0 a1 a2 a3) else (f_X12_joins_105 c2 (f_X12_joins_12 c2 k)) L σ a0 a1 a2 a3) else (f_X12_joins_111 c2) L σ a0 a1 a2))
def A_X12_joins_12 (c : Lay → Sto → Nat → Int32 → Int32 → Int32 → Option Sto) (lc : List (Option AV)) (st : List AV) (L : Lay) (σ : Sto) : Option Sto := match lc, st with
  | [some (.inr (.inr (.inl (ta0, some a0)))), some (.inl a1), some (.inl a2), some (.inl a3)], [] => bif Nat.beq ta0 12 && true then c L σ a0 a1 a2 a3 else none
  | _, _ => none
def f_X12_joins_2 : Nat → Lay → Sto → Nat → Int32 → Int32 → Option Sto
  | 0 => fun _ _ _ _ _ => none
  | k + 1 => fun L σ a0 a1 a2 => (if (σ.1 a0 13) ≤ a2 then some σ else (f_X12_joins_12 (f_X12_joins_2 k) FU) L σ a0 a1 a2 0)
def A_X12_joins_2 (c : Lay → Sto → Nat → Int32 → Int32 → Option Sto) (lc : List (Option AV)) (st : List AV) (L : Lay) (σ : Sto) : Option Sto := match lc, st with
  | [some (.inr (.inr (.inl (ta0, some a0)))), some (.inl a1), some (.inl a2), _], [] => bif Nat.beq ta0 12 && true then c L σ a0 a1 a2 else none
  | _, _ => none
def f_X12_joins (L : Lay) (σ : Sto) (a0 : Nat) (a1 : Int32) : Option Sto := (f_X12_joins_2 FU) L σ a0 a1 0
def ad_X12_joins : ADT := fun O L σ as k => match as with
  | [.inr (.inr (.inl (ta0, some a0))), .inl a1] => bif Nat.beq ta0 12 && true then (f_X12_joins L σ a0 a1).bind fun σ2 => k none L σ2 else none
  | _ => none
abbrev cl_X12_joins {O : Type} : CLT O := (clc 187 ad_X12_ofOn (clc 140 ad_X12_figuresApart cl0))
theorem hc_X12_joins (G : GT) (l : Launch) {d : Nat} (hd : 2 ≤ d) {O : Type} : HCL G l (true, false) d (cl_X12_joins (O := O)) := (hclc (ca_X12_ofOn G l (d := 1) (Nat.le_refl _)) (fun _ => rfl) (fun e => by cases e) (by omega) (hclc (ca_X12_figuresApart G l (d := 1) (Nat.le_refl _)) (fun _ => rfl) (fun e => by cases e) (by omega) hcl0))
theorem rt_X12_joins : retOK (6, 0) none := ⟨fun h => absurd h (by decide), fun h => absurd h (by decide), fun _ => rfl⟩
set_option maxRecDepth 20000 in
theorem b_X12_joins_105 {G : GT} {l : Launch} {d : Nat} {L0 : Lay} {σ0 : Sto} (hd : 2 ≤ d) {c2 : Lay → Sto → Nat → Int32 → Int32 → Option Sto} (h2 : HF G l 12 "joins" cX12_joins 4 none d L0 σ0 (true, false) (dcV L0) 2 (A_X12_joins_2 c2)) {c12 : Lay → Sto → Nat → Int32 → Int32 → Int32 → Option Sto} (h12 : HF G l 12 "joins" cX12_joins 4 none d L0 σ0 (true, false) (dcV L0) 12 (A_X12_joins_12 c12)) : HF G l 12 "joins" cX12_joins 4 none d L0 σ0 (true, false) (dcV L0) 105 (A_X12_joins_105 (f_X12_joins_105 c2 c12)) := by
  intro lc st L σ o h hI
  unfold A_X12_joins_105 at h
  split at h
  · obtain ⟨hq0, hA1⟩ := bif_s h
    obtain ⟨e0, hq1⟩ := beq_and hq0
    subst e0
    exact exs (sp := [12]) (K := (kc 12 (A_X12_joins_12 c12) k0)) ok_X12_joins rt_X12_joins (by omega) (hc_X12_joins G l hd) (hrV rfl) (hkc h12 hk0) 71 hA1 hI
  · cases h
set_option maxRecDepth 20000 in
theorem b_X12_joins_97 {G : GT} {l : Launch} {d : Nat} {L0 : Lay} {σ0 : Sto} (hd : 2 ≤ d) {c2 : Lay → Sto → Nat → Int32 → Int32 → Option Sto} (h2 : HF G l 12 "joins" cX12_joins 4 none d L0 σ0 (true, false) (dcV L0) 2 (A_X12_joins_2 c2)) {c12 : Lay → Sto → Nat → Int32 → Int32 → Int32 → Option Sto} (h12 : HF G l 12 "joins" cX12_joins 4 none d L0 σ0 (true, false) (dcV L0) 12 (A_X12_joins_12 c12)) : HF G l 12 "joins" cX12_joins 4 none d L0 σ0 (true, false) (dcV L0) 97 (A_X12_joins_97 (f_X12_joins_97 c2 c12)) := by
  intro lc st L σ o h hI
  unfold A_X12_joins_97 at h
  split at h
  · obtain ⟨hq0, hA1⟩ := bif_s h
    obtain ⟨e0, hq1⟩ := beq_and hq0
    obtain ⟨e1, hq2⟩ := beq_and hq1
    subst e0
    subst e1
    exact exs (sp := [105]) (K := (kc 105 (A_X12_joins_105 (f_X12_joins_105 c2 c12)) k0)) ok_X12_joins rt_X12_joins (by omega) (hc_X12_joins G l hd) (hrV rfl) (hkc (b_X12_joins_105 hd h2 h12) hk0) 71 hA1 hI
  · cases h
set_option maxRecDepth 20000 in
theorem b_X12_joins_111 {G : GT} {l : Launch} {d : Nat} {L0 : Lay} {σ0 : Sto} (hd : 2 ≤ d) {c2 : Lay → Sto → Nat → Int32 → Int32 → Option Sto} (h2 : HF G l 12 "joins" cX12_joins 4 none d L0 σ0 (true, false) (dcV L0) 2 (A_X12_joins_2 c2)) : HF G l 12 "joins" cX12_joins 4 none d L0 σ0 (true, false) (dcV L0) 111 (A_X12_joins_111 (f_X12_joins_111 c2)) := by
  intro lc st L σ o h hI
  unfold A_X12_joins_111 at h
  split at h
  · obtain ⟨hq0, hA1⟩ := bif_s h
    obtain ⟨e0, hq1⟩ := beq_and hq0
    subst e0
    exact exs (sp := [2]) (K := (kc 2 (A_X12_joins_2 c2) k0)) ok_X12_joins rt_X12_joins (by omega) (hc_X12_joins G l hd) (hrV rfl) (hkc h2 hk0) 71 hA1 hI
  · cases h
set_option maxRecDepth 20000 in
theorem b_X12_joins_12 {G : GT} {l : Launch} {d : Nat} {L0 : Lay} {σ0 : Sto} (hd : 2 ≤ d) {c2 : Lay → Sto → Nat → Int32 → Int32 → Option Sto} (h2 : HF G l 12 "joins" cX12_joins 4 none d L0 σ0 (true, false) (dcV L0) 2 (A_X12_joins_2 c2)) : ∀ k : Nat, HF G l 12 "joins" cX12_joins 4 none d L0 σ0 (true, false) (dcV L0) 12 (A_X12_joins_12 (f_X12_joins_12 c2 k))
  | 0 => by
    intro lc st L σ o h hI
    unfold A_X12_joins_12 at h
    split at h
    · obtain ⟨_, hA1⟩ := bif_s h
      cases hA1
    · cases h
  | k + 1 => by
    have ih := b_X12_joins_12 (G := G) (l := l) (d := d) (L0 := L0) (σ0 := σ0) hd h2 k
    intro lc st L σ o h hI
    unfold A_X12_joins_12 at h
    split at h
    · obtain ⟨hq0, hA1⟩ := bif_s h
      obtain ⟨e0, hq1⟩ := beq_and hq0
      subst e0
      exact exs (sp := [97, 105, 111]) (K := (kc 97 (A_X12_joins_97 (f_X12_joins_97 c2 (f_X12_joins_12 c2 k))) (kc 105 (A_X12_joins_105 (f_X12_joins_105 c2 (f_X12_joins_12 c2 k))) (kc 111 (A_X12_joins_111 (f_X12_joins_111 c2)) k0)))) ok_X12_joins rt_X12_joins (by omega) (hc_X12_joins G l hd) (hrV rfl) (hkc (b_X12_joins_97 hd h2 ih) (hkc (b_X12_joins_105 hd h2 ih) (hkc (b_X12_joins_111 hd h2) hk0))) 71 hA1 hI
    · cases h
set_option maxRecDepth 20000 in
theorem b_X12_joins_2 {G : GT} {l : Launch} {d : Nat} {L0 : Lay} {σ0 : Sto} (hd : 2 ≤ d) : ∀ k : Nat, HF G l 12 "joins" cX12_joins 4 none d L0 σ0 (true, false) (dcV L0) 2 (A_X12_joins_2 (f_X12_joins_2 k))
  | 0 => by
    intro lc st L σ o h hI
    unfold A_X12_joins_2 at h
    split at h
    · obtain ⟨_, hA1⟩ := bif_s h
      cases hA1
    · cases h
  | k + 1 => by
    have ih := b_X12_joins_2 (G := G) (l := l) (d := d) (L0 := L0) (σ0 := σ0) hd k
    intro lc st L σ o h hI
    unfold A_X12_joins_2 at h
    split at h
    · obtain ⟨hq0, hA1⟩ := bif_s h
      obtain ⟨e0, hq1⟩ := beq_and hq0
      subst e0
      exact exs (sp := [12]) (K := (kc 12 (A_X12_joins_12 (f_X12_joins_12 (f_X12_joins_2 k) FU)) k0)) ok_X12_joins rt_X12_joins (by omega) (hc_X12_joins G l hd) (hrV rfl) (hkc (b_X12_joins_12 hd ih FU) hk0) 71 hA1 hI
    · cases h
set_option maxRecDepth 20000 in
theorem ca_X12_joins (G : GT) (l : Launch) {d : Nat} (hd : 2 ≤ d) : CA G l 167 (true, false) d ad_X12_joins := by
  intro O L σ as k o h hW hok
  unfold ad_X12_joins at h
  split at h
  · obtain ⟨hq0, hA0⟩ := bif_s h
    obtain ⟨e0, hq1⟩ := beq_and hq0
    subst e0
    obtain ⟨r, hr, hk⟩ := Option.bind_eq_some_iff.mp hA0
    exact ca_of (q := (dcV L) r) (by decide) rfl (Nat.le_of_ble_eq_true rfl) hk (fun _ => rfl) (fun e => by cases e) (exs (sp := [2]) (K := (kc 2 (A_X12_joins_2 (f_X12_joins_2 FU)) k0)) (L0 := L) (σ0 := σ) ok_X12_joins rt_X12_joins (by omega) (hc_X12_joins G l hd) (hrV rfl) (hkc (b_X12_joins_2 hd FU) hk0) 71 hr (inv0 hW hok))
  · cases h
def tt_X12_joinsAll (pc : Nat) : TI := bif Nat.blt pc 19 then (bif Nat.blt pc 9 then (bif Nat.blt pc 3 then (bif Nat.blt pc 1 then (bif Nat.beq pc 0 then (.iconst 0, 1, (0, 0, 0), 0, 0, []) else TN) else (bif Nat.blt pc 2 then (bif Nat.beq pc 1 then (.istore_n 1, 2, (1, 0, 0), 0, 0, []) else TN) else (bif Nat.beq pc 2 then (.iload_n 1, 3, (1, 0, 0), 0, 0, []) else TN))) else (bif Nat.blt pc 5 then (bif Nat.beq pc 3 then (.bipush 40, 5, (0, 0, 0), 40, 0, []) else TN) else (bif Nat.blt pc 8 then (bif Nat.beq pc 5 then (.if_icmp .ge 23, 8, (28, 0, 0), 0, 0, []) else TN) else (bif Nat.beq pc 8 then (.aload_n 0, 9, (0, 0, 0), 0, 0, []) else TN)))) else (bif Nat.blt pc 14 then (bif Nat.blt pc 12 then (bif Nat.beq pc 9 then (.getfield 108, 12, (12, 43, 0), 0, 0, []) else TN) else (bif Nat.blt pc 13 then (bif Nat.beq pc 12 then (.iload_n 1, 13, (1, 0, 0), 0, 0, []) else TN) else (bif Nat.beq pc 13 then (.iconst (-1), 14, (0, 0, 0), -1, 0, []) else TN))) else (bif Nat.blt pc 15 then (bif Nat.beq pc 14 then (.iastore, 15, (0, 0, 0), 0, 0, []) else TN) else (bif Nat.blt pc 16 then (bif Nat.beq pc 15 then (.aload_n 0, 16, (0, 0, 0), 0, 0, []) else TN) else (bif Nat.beq pc 16 then (.getfield 115, 19, (12, 45, 0), 0, 0, []) else TN))))) else (bif Nat.blt pc 29 then (bif Nat.blt pc 22 then (bif Nat.blt pc 20 then (bif Nat.beq pc 19 then (.iload_n 1, 20, (1, 0, 0), 0, 0, []) else TN) else (bif Nat.blt pc 21 then (bif Nat.beq pc 20 then (.iconst 0, 21, (0, 0, 0), 0, 0, []) else TN) else (bif Nat.beq pc 21 then (.bastore, 22, (0, 0, 0), 0, 0, []) else TN))) else (bif Nat.blt pc 25 then (bif Nat.beq pc 22 then (.iinc 1 1, 25, (1, 0, 0), 1, 0, []) else TN) else (bif Nat.blt pc 28 then (bif Nat.beq pc 25 then (.goto (-23), 28, (2, 0, 0), 0, 0, []) else TN) else (bif Nat.beq pc 28 then (.aload_n 0, 29, (0, 0, 0), 0, 0, []) else TN)))) else (bif Nat.blt pc 34 then (bif Nat.blt pc 30 then (bif Nat.beq pc 29 then (.iconst 0, 30, (0, 0, 0), 0, 0, []) else TN) else (bif Nat.blt pc 33 then (bif Nat.beq pc 30 then (.invokevirtual 195, 33, (167, 1, 12), 0, 0, []) else TN) else (bif Nat.beq pc 33 then (.aload_n 0, 34, (0, 0, 0), 0, 0, []) else TN))) else (bif Nat.blt pc 35 then (bif Nat.beq pc 34 then (.iconst 1, 35, (0, 0, 0), 1, 0, []) else TN) else (bif Nat.blt pc 38 then (bif Nat.beq pc 35 then (.invokevirtual 195, 38, (167, 1, 12), 0, 0, []) else TN) else (bif Nat.beq pc 38 then (.return_, 39, (0, 0, 0), 0, 0, []) else TN)))))
def tb_X12_joinsAll (pc : Nat) : TI := bif Nat.ble 39 pc then TN else tt_X12_joinsAll pc
theorem ok_X12_joinsAll : tOK 12 (decide ("joinsAll" = "<init>")) cX12_joinsAll tb_X12_joinsAll := tOK_of 39 tn_of (by decide +kernel)
def f_X12_joinsAll_2 : Nat → Lay → Sto → Nat → Int32 → Option Sto
  | 0 => fun _ _ _ _ => none
  | k + 1 => fun L σ a0 a1 => (if 40 ≤ a1 then (f_X12_joins L σ a0 0).bind fun σ1 => (f_X12_joins L σ1 a0 1).bind fun σ2 => some σ2 else (σ.2.1 a0 43).bind fun x3 => (wI L σ x3 a1 (-1)).bind fun σ4 => (σ4.2.1 a0 45).bind fun x5 => (wI L σ4 x5 a1 (nBo 0)).bind fun σ6 => (f_X12_joinsAll_2 k) L σ6 a0 (a1 + 1))
def A_X12_joinsAll_2 (c : Lay → Sto → Nat → Int32 → Option Sto) (lc : List (Option AV)) (st : List AV) (L : Lay) (σ : Sto) : Option Sto := match lc, st with
  | [some (.inr (.inr (.inl (ta0, some a0)))), some (.inl a1)], [] => bif Nat.beq ta0 12 && true then c L σ a0 a1 else none
  | _, _ => none
def f_X12_joinsAll (L : Lay) (σ : Sto) (a0 : Nat) : Option Sto := (f_X12_joinsAll_2 FU) L σ a0 0
def ad_X12_joinsAll : ADT := fun O L σ as k => match as with
  | [.inr (.inr (.inl (ta0, some a0)))] => bif Nat.beq ta0 12 && true then (f_X12_joinsAll L σ a0).bind fun σ2 => k none L σ2 else none
  | _ => none
abbrev cl_X12_joinsAll {O : Type} : CLT O := (clc 167 ad_X12_joins cl0)
theorem hc_X12_joinsAll (G : GT) (l : Launch) {d : Nat} (hd : 3 ≤ d) {O : Type} : HCL G l (true, false) d (cl_X12_joinsAll (O := O)) := (hclc (ca_X12_joins G l (d := 2) (Nat.le_refl _)) (fun _ => rfl) (fun e => by cases e) (by omega) hcl0)
theorem rt_X12_joinsAll : retOK (6, 0) none := ⟨fun h => absurd h (by decide), fun h => absurd h (by decide), fun _ => rfl⟩
set_option maxRecDepth 20000 in
theorem b_X12_joinsAll_2 {G : GT} {l : Launch} {d : Nat} {L0 : Lay} {σ0 : Sto} (hd : 3 ≤ d) : ∀ k : Nat, HF G l 12 "joinsAll" cX12_joinsAll 2 none d L0 σ0 (true, false) (dcV L0) 2 (A_X12_joinsAll_2 (f_X12_joinsAll_2 k))
  | 0 => by
    intro lc st L σ o h hI
    unfold A_X12_joinsAll_2 at h
    split at h
    · obtain ⟨_, hA1⟩ := bif_s h
      cases hA1
    · cases h
  | k + 1 => by
    have ih := b_X12_joinsAll_2 (G := G) (l := l) (d := d) (L0 := L0) (σ0 := σ0) hd k
    intro lc st L σ o h hI
    unfold A_X12_joinsAll_2 at h
    split at h
    · obtain ⟨hq0, hA1⟩ := bif_s h
      obtain ⟨e0, hq1⟩ := beq_and hq0
      subst e0
      exact exs (sp := [2]) (K := (kc 2 (A_X12_joinsAll_2 (f_X12_joinsAll_2 k)) k0)) ok_X12_joinsAll rt_X12_joinsAll (by omega) (hc_X12_joinsAll G l hd) (hrV rfl) (hkc ih hk0) 27 hA1 hI
    · cases h
set_option maxRecDepth 20000 in
theorem ca_X12_joinsAll (G : GT) (l : Launch) {d : Nat} (hd : 3 ≤ d) : CA G l 168 (true, false) d ad_X12_joinsAll := by
  intro O L σ as k o h hW hok
  unfold ad_X12_joinsAll at h
  split at h
  · obtain ⟨hq0, hA0⟩ := bif_s h
    obtain ⟨e0, hq1⟩ := beq_and hq0
    subst e0
    obtain ⟨r, hr, hk⟩ := Option.bind_eq_some_iff.mp hA0
    exact ca_of (q := (dcV L) r) (by decide) rfl (Nat.le_of_ble_eq_true rfl) hk (fun _ => rfl) (fun e => by cases e) (exs (sp := [2]) (K := (kc 2 (A_X12_joinsAll_2 (f_X12_joinsAll_2 FU)) k0)) (L0 := L) (σ0 := σ) ok_X12_joinsAll rt_X12_joinsAll (by omega) (hc_X12_joinsAll G l hd) (hrV rfl) (hkc (b_X12_joinsAll_2 hd FU) hk0) 27 hr (inv0 hW hok))
  · cases h
def tt_X12_joined (pc : Nat) : TI := bif Nat.blt pc 21 then (bif Nat.blt pc 8 then (bif Nat.blt pc 3 then (bif Nat.blt pc 1 then (bif Nat.beq pc 0 then (.iload_n 1, 1, (1, 0, 0), 0, 0, []) else TN) else (bif Nat.blt pc 2 then (bif Nat.beq pc 1 then (.iconst 0, 2, (0, 0, 0), 0, 0, []) else TN) else (bif Nat.beq pc 2 then (.aload_n 0, 3, (0, 0, 0), 0, 0, []) else TN))) else (bif Nat.blt pc 6 then (bif Nat.beq pc 3 then (.getfield 182, 6, (12, 13, 0), 0, 0, []) else TN) else (bif Nat.blt pc 7 then (bif Nat.beq pc 6 then (.iconst 1, 7, (0, 0, 0), 1, 0, []) else TN) else (bif Nat.beq pc 7 then (.isub, 8, (0, 0, 0), 0, 0, []) else TN)))) else (bif Nat.blt pc 16 then (bif Nat.blt pc 11 then (bif Nat.beq pc 8 then (.invokestatic 146, 11, (147, 3, 0), 0, 0, []) else TN) else (bif Nat.blt pc 14 then (bif Nat.beq pc 11 then (.ifCond .ne 6, 14, (17, 0, 0), 0, 0, []) else TN) else (bif Nat.beq pc 14 then (.ldc 156, 16, (0, 0, 0), -1000000001, 0, []) else TN))) else (bif Nat.blt pc 17 then (bif Nat.beq pc 16 then (.ireturn, 17, (0, 0, 0), 0, 0, []) else TN) else (bif Nat.blt pc 18 then (bif Nat.beq pc 17 then (.aload_n 0, 18, (0, 0, 0), 0, 0, []) else TN) else (bif Nat.beq pc 18 then (.invokevirtual 199, 21, (168, 0, 12), 0, 0, []) else TN))))) else (bif Nat.blt pc 31 then (bif Nat.blt pc 26 then (bif Nat.blt pc 22 then (bif Nat.beq pc 21 then (.aload_n 0, 22, (0, 0, 0), 0, 0, []) else TN) else (bif Nat.blt pc 25 then (bif Nat.beq pc 22 then (.getfield 108, 25, (12, 43, 0), 0, 0, []) else TN) else (bif Nat.beq pc 25 then (.iload_n 1, 26, (1, 0, 0), 0, 0, []) else TN))) else (bif Nat.blt pc 27 then (bif Nat.beq pc 26 then (.iaload, 27, (0, 0, 0), 0, 0, []) else TN) else (bif Nat.blt pc 28 then (bif Nat.beq pc 27 then (.iconst (-1), 28, (0, 0, 0), -1, 0, []) else TN) else (bif Nat.beq pc 28 then (.if_icmp .ne 8, 31, (36, 0, 0), 0, 0, []) else TN)))) else (bif Nat.blt pc 37 then (bif Nat.blt pc 33 then (bif Nat.beq pc 31 then (.ldc 177, 33, (0, 0, 0), -1000000005, 0, []) else TN) else (bif Nat.blt pc 36 then (bif Nat.beq pc 33 then (.goto 9, 36, (42, 0, 0), 0, 0, []) else TN) else (bif Nat.beq pc 36 then (.aload_n 0, 37, (0, 0, 0), 0, 0, []) else TN))) else (bif Nat.blt pc 41 then (bif Nat.blt pc 40 then (bif Nat.beq pc 37 then (.getfield 108, 40, (12, 43, 0), 0, 0, []) else TN) else (bif Nat.beq pc 40 then (.iload_n 1, 41, (1, 0, 0), 0, 0, []) else TN)) else (bif Nat.blt pc 42 then (bif Nat.beq pc 41 then (.iaload, 42, (0, 0, 0), 0, 0, []) else TN) else (bif Nat.beq pc 42 then (.ireturn, 43, (0, 0, 0), 0, 0, []) else TN)))))
def tb_X12_joined (pc : Nat) : TI := bif Nat.ble 43 pc then TN else tt_X12_joined pc
theorem ok_X12_joined : tOK 12 (decide ("joined" = "<init>")) cX12_joined tb_X12_joined := tOK_of 43 tn_of (by decide +kernel)
def f_X12_joined (L : Lay) (σ : Sto) (a0 : Nat) (a1 : Int32) : Option (Int32 × Sto) := (f_X12_in L σ a1 0 ((σ.1 a0 13) - 1)).bind fun r1 => (if r1 = 0 then some ((-1000000001), σ) else (f_X12_joinsAll L σ a0).bind fun σ2 => (σ2.2.1 a0 43).bind fun x3 => (rI L σ2 x3 a1).bind fun v4 => (if v4 = (-1) then some ((-1000000005), σ2) else (σ2.2.1 a0 43).bind fun x5 => (rI L σ2 x5 a1).bind fun v6 => some (v6, σ2)))
def ad_X12_joined : ADT := fun O L σ as k => match as with
  | [.inr (.inr (.inl (ta0, some a0))), .inl a1] => bif Nat.beq ta0 12 && true then (f_X12_joined L σ a0 a1).bind fun r => k (some (vI r.1)) L r.2 else none
  | _ => none
abbrev cl_X12_joined {O : Type} : CLT O := (clc 147 ad_X12_in (clc 168 ad_X12_joinsAll cl0))
theorem hc_X12_joined (G : GT) (l : Launch) {d : Nat} (hd : 4 ≤ d) {O : Type} : HCL G l (true, false) d (cl_X12_joined (O := O)) := (hclc (ca_X12_in G l (d := 1) (Nat.le_refl _)) (fun _ => rfl) (fun e => by cases e) (by omega) (hclc (ca_X12_joinsAll G l (d := 3) (Nat.le_refl _)) (fun _ => rfl) (fun e => by cases e) (by omega) hcl0))
theorem rt_X12_joined : retOK (0, 0) (some .int) := ⟨fun _ => rfl, fun h => absurd h (by decide), fun h => absurd h (by decide)⟩
set_option maxRecDepth 20000 in
theorem ca_X12_joined (G : GT) (l : Launch) {d : Nat} (hd : 4 ≤ d) : CA G l 166 (true, false) d ad_X12_joined := by
  intro O L σ as k o h hW hok
  unfold ad_X12_joined at h
  split at h
  · obtain ⟨hq0, hA0⟩ := bif_s h
    obtain ⟨e0, hq1⟩ := beq_and hq0
    subst e0
    obtain ⟨r, hr, hk⟩ := Option.bind_eq_some_iff.mp hA0
    exact ca_of (q := (dcI L) r) (by decide) rfl (Nat.le_of_ble_eq_true rfl) hk (fun _ => rfl) (fun e => by cases e) (exs (sp := []) (K := k0) (L0 := L) (σ0 := σ) ok_X12_joined rt_X12_joined (by omega) (hc_X12_joined G l hd) (hrI rfl) hk0 28 hr (inv0 hW hok))
  · cases h
def tt_X12_reads (pc : Nat) : TI := bif Nat.blt pc 20 then (bif Nat.blt pc 9 then (bif Nat.blt pc 2 then (bif Nat.blt pc 1 then (bif Nat.beq pc 0 then (.aload_n 0, 1, (0, 0, 0), 0, 0, []) else TN) else (bif Nat.beq pc 1 then (.aload_n 0, 2, (0, 0, 0), 0, 0, []) else TN)) else (bif Nat.blt pc 3 then (bif Nat.beq pc 2 then (.aload_n 1, 3, (1, 0, 0), 0, 0, []) else TN) else (bif Nat.blt pc 6 then (bif Nat.beq pc 3 then (.invokevirtual 324, 6, (165, 1, 12), 0, 0, []) else TN) else (bif Nat.beq pc 6 then (.invokevirtual 287, 9, (209, 1, 12), 0, 0, []) else TN)))) else (bif Nat.blt pc 13 then (bif Nat.blt pc 10 then (bif Nat.beq pc 9 then (.aload_n 0, 10, (0, 0, 0), 0, 0, []) else TN) else (bif Nat.beq pc 10 then (.getfield 268, 13, (12, 56, 0), 0, 0, []) else TN)) else (bif Nat.blt pc 16 then (bif Nat.beq pc 13 then (.ifCond .ne 23, 16, (36, 0, 0), 0, 0, []) else TN) else (bif Nat.blt pc 17 then (bif Nat.beq pc 16 then (.aload_n 0, 17, (0, 0, 0), 0, 0, []) else TN) else (bif Nat.beq pc 17 then (.getfield 67, 20, (12, 28, 0), 0, 0, []) else TN))))) else (bif Nat.blt pc 27 then (bif Nat.blt pc 22 then (bif Nat.blt pc 21 then (bif Nat.beq pc 20 then (.iload_n 2, 21, (2, 0, 0), 0, 0, []) else TN) else (bif Nat.beq pc 21 then (.aload_n 0, 22, (0, 0, 0), 0, 0, []) else TN)) else (bif Nat.blt pc 25 then (bif Nat.beq pc 22 then (.getfield 256, 25, (12, 54, 0), 0, 0, []) else TN) else (bif Nat.blt pc 26 then (bif Nat.beq pc 25 then (.iastore, 26, (0, 0, 0), 0, 0, []) else TN) else (bif Nat.beq pc 26 then (.aload_n 0, 27, (0, 0, 0), 0, 0, []) else TN)))) else (bif Nat.blt pc 32 then (bif Nat.blt pc 28 then (bif Nat.beq pc 27 then (.iload_n 2, 28, (2, 0, 0), 0, 0, []) else TN) else (bif Nat.blt pc 31 then (bif Nat.beq pc 28 then (.putfield 309, 31, (12, 57, 0), 0, 0, []) else TN) else (bif Nat.beq pc 31 then (.aload_n 0, 32, (0, 0, 0), 0, 0, []) else TN))) else (bif Nat.blt pc 35 then (bif Nat.beq pc 32 then (.invokevirtual 303, 35, (190, 0, 12), 0, 0, []) else TN) else (bif Nat.blt pc 36 then (bif Nat.beq pc 35 then (.istore_n 3, 36, (3, 0, 0), 0, 0, []) else TN) else (bif Nat.beq pc 36 then (.return_, 37, (0, 0, 0), 0, 0, []) else TN)))))
def tb_X12_reads (pc : Nat) : TI := bif Nat.ble 37 pc then TN else tt_X12_reads pc
theorem ok_X12_reads : tOK 12 (decide ("reads" = "<init>")) cX12_reads tb_X12_reads := tOK_of 37 tn_of (by decide +kernel)
def f_X12_reads (L : Lay) (σ : Sto) (a0 : Nat) (a1 : Nat) (a2 : Int32) : Option Sto := (f_X12_isWord L σ a0 a1).bind fun r1 => (f_X12_takes L σ a0 r1).bind fun σ2 => (if (σ2.1 a0 56) = 0 then (σ2.2.1 a0 28).bind fun x3 => (wI L σ2 x3 a2 (σ2.1 a0 54)).bind fun σ4 => (putI σ4 a0 57 a2).bind fun σ5 => (f_X12_or L σ5 a0).bind fun r6 => some r6.2 else some σ2)
def ad_X12_reads : ADT := fun O L σ as k => match as with
  | [.inr (.inr (.inl (ta0, some a0))), .inr (.inr (.inr (ta1, a1))), .inl a2] => bif Nat.beq ta0 12 && (Nat.beq ta1 0 && true) then (f_X12_reads L σ a0 a1 a2).bind fun σ2 => k none L σ2 else none
  | _ => none
abbrev cl_X12_reads {O : Type} : CLT O := (clc 165 ad_X12_isWord (clc 209 ad_X12_takes (clc 190 ad_X12_or cl0)))
theorem hc_X12_reads (G : GT) (l : Launch) {d : Nat} (hd : 107 ≤ d) {O : Type} : HCL G l (true, false) d (cl_X12_reads (O := O)) := (hclc (ca_X12_isWord G l (d := 5) (Nat.le_refl _)) (fun _ => rfl) (fun e => by cases e) (by omega) (hclc (ca_X12_takes G l (d := 4) (Nat.le_refl _)) (fun _ => rfl) (fun e => by cases e) (by omega) (hclc (ca_X12_or G l (d := 106) (Nat.le_refl _)) (fun _ => rfl) (fun e => by cases e) (by omega) hcl0)))
theorem rt_X12_reads : retOK (6, 0) none := ⟨fun h => absurd h (by decide), fun h => absurd h (by decide), fun _ => rfl⟩
set_option maxRecDepth 20000 in
theorem ca_X12_reads (G : GT) (l : Launch) {d : Nat} (hd : 107 ≤ d) : CA G l 197 (true, false) d ad_X12_reads := by
  intro O L σ as k o h hW hok
  unfold ad_X12_reads at h
  split at h
  · obtain ⟨hq0, hA0⟩ := bif_s h
    obtain ⟨e0, hq1⟩ := beq_and hq0
    obtain ⟨e1, hq2⟩ := beq_and hq1
    subst e0
    subst e1
    obtain ⟨r, hr, hk⟩ := Option.bind_eq_some_iff.mp hA0
    exact ca_of (q := (dcV L) r) (by decide) rfl (Nat.le_of_ble_eq_true rfl) hk (fun _ => rfl) (fun e => by cases e) (exs (sp := []) (K := k0) (L0 := L) (σ0 := σ) ok_X12_reads rt_X12_reads (by omega) (hc_X12_reads G l hd) (hrV rfl) hk0 24 hr (inv0 hW hok))
  · cases h
def tt_X12_law (pc : Nat) : TI := bif Nat.blt pc 103 then (bif Nat.blt pc 46 then (bif Nat.blt pc 22 then (bif Nat.blt pc 11 then (bif Nat.blt pc 3 then (bif Nat.blt pc 1 then (bif Nat.beq pc 0 then (.iconst 0, 1, (0, 0, 0), 0, 0, []) else TN) else (bif Nat.blt pc 2 then (bif Nat.beq pc 1 then (.istore_n 1, 2, (1, 0, 0), 0, 0, []) else TN) else (bif Nat.beq pc 2 then (.iload_n 1, 3, (1, 0, 0), 0, 0, []) else TN))) else (bif Nat.blt pc 7 then (bif Nat.blt pc 4 then (bif Nat.beq pc 3 then (.iconst 3, 4, (0, 0, 0), 3, 0, []) else TN) else (bif Nat.beq pc 4 then (.if_icmp .ge 21, 7, (25, 0, 0), 0, 0, []) else TN)) else (bif Nat.blt pc 8 then (bif Nat.beq pc 7 then (.aload_n 0, 8, (0, 0, 0), 0, 0, []) else TN) else (bif Nat.beq pc 8 then (.getfield 133, 11, (12, 61, 0), 0, 0, []) else TN)))) else (bif Nat.blt pc 16 then (bif Nat.blt pc 12 then (bif Nat.beq pc 11 then (.iload_n 1, 12, (1, 0, 0), 0, 0, []) else TN) else (bif Nat.blt pc 13 then (bif Nat.beq pc 12 then (.aload_n 0, 13, (0, 0, 0), 0, 0, []) else TN) else (bif Nat.beq pc 13 then (.getfield 67, 16, (12, 28, 0), 0, 0, []) else TN))) else (bif Nat.blt pc 18 then (bif Nat.blt pc 17 then (bif Nat.beq pc 16 then (.iload_n 1, 17, (1, 0, 0), 0, 0, []) else TN) else (bif Nat.beq pc 17 then (.iaload, 18, (0, 0, 0), 0, 0, []) else TN)) else (bif Nat.blt pc 19 then (bif Nat.beq pc 18 then (.iastore, 19, (0, 0, 0), 0, 0, []) else TN) else (bif Nat.beq pc 19 then (.iinc 1 1, 22, (1, 0, 0), 1, 0, []) else TN))))) else (bif Nat.blt pc 35 then (bif Nat.blt pc 27 then (bif Nat.blt pc 25 then (bif Nat.beq pc 22 then (.goto (-20), 25, (2, 0, 0), 0, 0, []) else TN) else (bif Nat.blt pc 26 then (bif Nat.beq pc 25 then (.aload_n 0, 26, (0, 0, 0), 0, 0, []) else TN) else (bif Nat.beq pc 26 then (.iconst 0, 27, (0, 0, 0), 0, 0, []) else TN))) else (bif Nat.blt pc 31 then (bif Nat.blt pc 30 then (bif Nat.beq pc 27 then (.putfield 243, 30, (12, 52, 0), 0, 0, []) else TN) else (bif Nat.beq pc 30 then (.aload_n 0, 31, (0, 0, 0), 0, 0, []) else TN)) else (bif Nat.blt pc 32 then (bif Nat.beq pc 31 then (.iconst 0, 32, (0, 0, 0), 0, 0, []) else TN) else (bif Nat.beq pc 32 then (.putfield 268, 35, (12, 56, 0), 0, 0, []) else TN)))) else (bif Nat.blt pc 40 then (bif Nat.blt pc 36 then (bif Nat.beq pc 35 then (.aload_n 0, 36, (0, 0, 0), 0, 0, []) else TN) else (bif Nat.blt pc 37 then (bif Nat.beq pc 36 then (.iconst 0, 37, (0, 0, 0), 0, 0, []) else TN) else (bif Nat.beq pc 37 then (.putfield 250, 40, (12, 53, 0), 0, 0, []) else TN))) else (bif Nat.blt pc 42 then (bif Nat.blt pc 41 then (bif Nat.beq pc 40 then (.aload_n 0, 41, (0, 0, 0), 0, 0, []) else TN) else (bif Nat.beq pc 41 then (.iconst 0, 42, (0, 0, 0), 0, 0, []) else TN)) else (bif Nat.blt pc 45 then (bif Nat.beq pc 42 then (.putfield 253, 45, (12, 55, 0), 0, 0, []) else TN) else (bif Nat.beq pc 45 then (.aload_n 0, 46, (0, 0, 0), 0, 0, []) else TN)))))) else (bif Nat.blt pc 72 then (bif Nat.blt pc 57 then (bif Nat.blt pc 51 then (bif Nat.blt pc 47 then (bif Nat.beq pc 46 then (.iconst 0, 47, (0, 0, 0), 0, 0, []) else TN) else (bif Nat.blt pc 50 then (bif Nat.beq pc 47 then (.putfield 297, 50, (12, 58, 0), 0, 0, []) else TN) else (bif Nat.beq pc 50 then (.aload_n 0, 51, (0, 0, 0), 0, 0, []) else TN))) else (bif Nat.blt pc 55 then (bif Nat.blt pc 52 then (bif Nat.beq pc 51 then (.iconst 0, 52, (0, 0, 0), 0, 0, []) else TN) else (bif Nat.beq pc 52 then (.putfield 294, 55, (12, 59, 0), 0, 0, []) else TN)) else (bif Nat.blt pc 56 then (bif Nat.beq pc 55 then (.aload_n 0, 56, (0, 0, 0), 0, 0, []) else TN) else (bif Nat.beq pc 56 then (.iconst 0, 57, (0, 0, 0), 0, 0, []) else TN)))) else (bif Nat.blt pc 64 then (bif Nat.blt pc 60 then (bif Nat.beq pc 57 then (.putfield 284, 60, (12, 60, 0), 0, 0, []) else TN) else (bif Nat.blt pc 61 then (bif Nat.beq pc 60 then (.aload_n 0, 61, (0, 0, 0), 0, 0, []) else TN) else (bif Nat.beq pc 61 then (.invokevirtual 281, 64, (182, 0, 12), 0, 0, []) else TN))) else (bif Nat.blt pc 68 then (bif Nat.blt pc 65 then (bif Nat.beq pc 64 then (.aload_n 0, 65, (0, 0, 0), 0, 0, []) else TN) else (bif Nat.beq pc 65 then (.ldc_w 328, 68, (1, 5, 0), 0, 0, []) else TN)) else (bif Nat.blt pc 69 then (bif Nat.beq pc 68 then (.iconst 0, 69, (0, 0, 0), 0, 0, []) else TN) else (bif Nat.beq pc 69 then (.invokevirtual 330, 72, (197, 2, 12), 0, 0, []) else TN))))) else (bif Nat.blt pc 85 then (bif Nat.blt pc 77 then (bif Nat.blt pc 73 then (bif Nat.beq pc 72 then (.aload_n 0, 73, (0, 0, 0), 0, 0, []) else TN) else (bif Nat.blt pc 76 then (bif Nat.beq pc 73 then (.ldc_w 334, 76, (1, 6, 0), 0, 0, []) else TN) else (bif Nat.beq pc 76 then (.iconst 1, 77, (0, 0, 0), 1, 0, []) else TN))) else (bif Nat.blt pc 81 then (bif Nat.blt pc 80 then (bif Nat.beq pc 77 then (.invokevirtual 330, 80, (197, 2, 12), 0, 0, []) else TN) else (bif Nat.beq pc 80 then (.aload_n 0, 81, (0, 0, 0), 0, 0, []) else TN)) else (bif Nat.blt pc 84 then (bif Nat.beq pc 81 then (.ldc_w 336, 84, (1, 7, 0), 0, 0, []) else TN) else (bif Nat.beq pc 84 then (.iconst 2, 85, (0, 0, 0), 2, 0, []) else TN)))) else (bif Nat.blt pc 93 then (bif Nat.blt pc 89 then (bif Nat.blt pc 88 then (bif Nat.beq pc 85 then (.invokevirtual 330, 88, (197, 2, 12), 0, 0, []) else TN) else (bif Nat.beq pc 88 then (.aload_n 0, 89, (0, 0, 0), 0, 0, []) else TN)) else (bif Nat.blt pc 90 then (bif Nat.beq pc 89 then (.aload_n 0, 90, (0, 0, 0), 0, 0, []) else TN) else (bif Nat.beq pc 90 then (.getfield 268, 93, (12, 56, 0), 0, 0, []) else TN))) else (bif Nat.blt pc 97 then (bif Nat.blt pc 96 then (bif Nat.beq pc 93 then (.ifCond .ne 10, 96, (103, 0, 0), 0, 0, []) else TN) else (bif Nat.beq pc 96 then (.aload_n 0, 97, (0, 0, 0), 0, 0, []) else TN)) else (bif Nat.blt pc 100 then (bif Nat.beq pc 97 then (.getfield 250, 100, (12, 53, 0), 0, 0, []) else TN) else (bif Nat.beq pc 100 then (.ifCond .eq 7, 103, (107, 0, 0), 0, 0, []) else TN))))))) else (bif Nat.blt pc 153 then (bif Nat.blt pc 129 then (bif Nat.blt pc 116 then (bif Nat.blt pc 108 then (bif Nat.blt pc 104 then (bif Nat.beq pc 103 then (.iconst 1, 104, (0, 0, 0), 1, 0, []) else TN) else (bif Nat.blt pc 107 then (bif Nat.beq pc 104 then (.goto 4, 107, (108, 0, 0), 0, 0, []) else TN) else (bif Nat.beq pc 107 then (.iconst 0, 108, (0, 0, 0), 0, 0, []) else TN))) else (bif Nat.blt pc 112 then (bif Nat.blt pc 111 then (bif Nat.beq pc 108 then (.putfield 268, 111, (12, 56, 0), 0, 0, []) else TN) else (bif Nat.beq pc 111 then (.aload_n 0, 112, (0, 0, 0), 0, 0, []) else TN)) else (bif Nat.blt pc 115 then (bif Nat.beq pc 112 then (.getfield 237, 115, (12, 25, 0), 0, 0, []) else TN) else (bif Nat.beq pc 115 then (.istore_n 1, 116, (1, 0, 0), 0, 0, []) else TN)))) else (bif Nat.blt pc 121 then (bif Nat.blt pc 117 then (bif Nat.beq pc 116 then (.aload_n 0, 117, (0, 0, 0), 0, 0, []) else TN) else (bif Nat.blt pc 118 then (bif Nat.beq pc 117 then (.iconst 0, 118, (0, 0, 0), 0, 0, []) else TN) else (bif Nat.beq pc 118 then (.putfield 237, 121, (12, 25, 0), 0, 0, []) else TN))) else (bif Nat.blt pc 125 then (bif Nat.blt pc 122 then (bif Nat.beq pc 121 then (.aload_n 0, 122, (0, 0, 0), 0, 0, []) else TN) else (bif Nat.beq pc 122 then (.getfield 268, 125, (12, 56, 0), 0, 0, []) else TN)) else (bif Nat.blt pc 128 then (bif Nat.beq pc 125 then (.ifCond .eq 36, 128, (161, 0, 0), 0, 0, []) else TN) else (bif Nat.beq pc 128 then (.iconst 0, 129, (0, 0, 0), 0, 0, []) else TN))))) else (bif Nat.blt pc 140 then (bif Nat.blt pc 132 then (bif Nat.blt pc 130 then (bif Nat.beq pc 129 then (.istore_n 2, 130, (2, 0, 0), 0, 0, []) else TN) else (bif Nat.blt pc 131 then (bif Nat.beq pc 130 then (.iload_n 2, 131, (2, 0, 0), 0, 0, []) else TN) else (bif Nat.beq pc 131 then (.iconst 3, 132, (0, 0, 0), 3, 0, []) else TN))) else (bif Nat.blt pc 136 then (bif Nat.blt pc 135 then (bif Nat.beq pc 132 then (.if_icmp .ge 21, 135, (153, 0, 0), 0, 0, []) else TN) else (bif Nat.beq pc 135 then (.aload_n 0, 136, (0, 0, 0), 0, 0, []) else TN)) else (bif Nat.blt pc 139 then (bif Nat.beq pc 136 then (.getfield 67, 139, (12, 28, 0), 0, 0, []) else TN) else (bif Nat.beq pc 139 then (.iload_n 2, 140, (2, 0, 0), 0, 0, []) else TN)))) else (bif Nat.blt pc 145 then (bif Nat.blt pc 141 then (bif Nat.beq pc 140 then (.aload_n 0, 141, (0, 0, 0), 0, 0, []) else TN) else (bif Nat.blt pc 144 then (bif Nat.beq pc 141 then (.getfield 133, 144, (12, 61, 0), 0, 0, []) else TN) else (bif Nat.beq pc 144 then (.iload_n 2, 145, (2, 0, 0), 0, 0, []) else TN))) else (bif Nat.blt pc 147 then (bif Nat.blt pc 146 then (bif Nat.beq pc 145 then (.iaload, 146, (0, 0, 0), 0, 0, []) else TN) else (bif Nat.beq pc 146 then (.iastore, 147, (0, 0, 0), 0, 0, []) else TN)) else (bif Nat.blt pc 150 then (bif Nat.beq pc 147 then (.iinc 2 1, 150, (2, 0, 0), 1, 0, []) else TN) else (bif Nat.beq pc 150 then (.goto (-20), 153, (130, 0, 0), 0, 0, []) else TN)))))) else (bif Nat.blt pc 174 then (bif Nat.blt pc 163 then (bif Nat.blt pc 159 then (bif Nat.blt pc 155 then (bif Nat.beq pc 153 then (.bipush (-100), 155, (0, 0, 0), -100, 0, []) else TN) else (bif Nat.blt pc 156 then (bif Nat.beq pc 155 then (.aload_n 0, 156, (0, 0, 0), 0, 0, []) else TN) else (bif Nat.beq pc 156 then (.getfield 256, 159, (12, 54, 0), 0, 0, []) else TN))) else (bif Nat.blt pc 161 then (bif Nat.blt pc 160 then (bif Nat.beq pc 159 then (.isub, 160, (0, 0, 0), 0, 0, []) else TN) else (bif Nat.beq pc 160 then (.ireturn, 161, (0, 0, 0), 0, 0, []) else TN)) else (bif Nat.blt pc 162 then (bif Nat.beq pc 161 then (.iconst 0, 162, (0, 0, 0), 0, 0, []) else TN) else (bif Nat.beq pc 162 then (.istore_n 2, 163, (2, 0, 0), 0, 0, []) else TN)))) else (bif Nat.blt pc 168 then (bif Nat.blt pc 164 then (bif Nat.beq pc 163 then (.iload_n 2, 164, (2, 0, 0), 0, 0, []) else TN) else (bif Nat.blt pc 165 then (bif Nat.beq pc 164 then (.iload_n 1, 165, (1, 0, 0), 0, 0, []) else TN) else (bif Nat.beq pc 165 then (.if_icmp .ge 21, 168, (186, 0, 0), 0, 0, []) else TN))) else (bif Nat.blt pc 172 then (bif Nat.blt pc 169 then (bif Nat.beq pc 168 then (.aload_n 0, 169, (0, 0, 0), 0, 0, []) else TN) else (bif Nat.beq pc 169 then (.getfield 64, 172, (12, 24, 0), 0, 0, []) else TN)) else (bif Nat.blt pc 173 then (bif Nat.beq pc 172 then (.iload_n 2, 173, (2, 0, 0), 0, 0, []) else TN) else (bif Nat.beq pc 173 then (.aload_n 0, 174, (0, 0, 0), 0, 0, []) else TN))))) else (bif Nat.blt pc 187 then (bif Nat.blt pc 179 then (bif Nat.blt pc 177 then (bif Nat.beq pc 174 then (.getfield 61, 177, (12, 23, 0), 0, 0, []) else TN) else (bif Nat.blt pc 178 then (bif Nat.beq pc 177 then (.iload_n 2, 178, (2, 0, 0), 0, 0, []) else TN) else (bif Nat.beq pc 178 then (.iaload, 179, (0, 0, 0), 0, 0, []) else TN))) else (bif Nat.blt pc 183 then (bif Nat.blt pc 180 then (bif Nat.beq pc 179 then (.iastore, 180, (0, 0, 0), 0, 0, []) else TN) else (bif Nat.beq pc 180 then (.iinc 2 1, 183, (2, 0, 0), 1, 0, []) else TN)) else (bif Nat.blt pc 186 then (bif Nat.beq pc 183 then (.goto (-20), 186, (163, 0, 0), 0, 0, []) else TN) else (bif Nat.beq pc 186 then (.aload_n 0, 187, (0, 0, 0), 0, 0, []) else TN)))) else (bif Nat.blt pc 193 then (bif Nat.blt pc 191 then (bif Nat.blt pc 188 then (bif Nat.beq pc 187 then (.iload_n 1, 188, (1, 0, 0), 0, 0, []) else TN) else (bif Nat.beq pc 188 then (.putfield 247, 191, (12, 26, 0), 0, 0, []) else TN)) else (bif Nat.blt pc 192 then (bif Nat.beq pc 191 then (.aload_n 0, 192, (0, 0, 0), 0, 0, []) else TN) else (bif Nat.beq pc 192 then (.iconst 1, 193, (0, 0, 0), 1, 0, []) else TN))) else (bif Nat.blt pc 197 then (bif Nat.blt pc 196 then (bif Nat.beq pc 193 then (.putfield 338, 196, (12, 27, 0), 0, 0, []) else TN) else (bif Nat.beq pc 196 then (.aload_n 0, 197, (0, 0, 0), 0, 0, []) else TN)) else (bif Nat.blt pc 200 then (bif Nat.beq pc 197 then (.getfield 284, 200, (12, 60, 0), 0, 0, []) else TN) else (bif Nat.beq pc 200 then (.ireturn, 201, (0, 0, 0), 0, 0, []) else TN)))))))
def tb_X12_law (pc : Nat) : TI := bif Nat.ble 201 pc then TN else tt_X12_law pc
theorem ok_X12_law : tOK 12 (decide ("law" = "<init>")) cX12_law tb_X12_law := tOK_of 201 tn_of (by decide +kernel)
def f_X12_law_130 : Nat → Lay → Sto → Nat → Int32 → Int32 → Option (Int32 × Sto)
  | 0 => fun _ _ _ _ _ => none
  | k + 1 => fun L σ a0 a1 a2 => (if 3 ≤ a2 then some (((-100) - (σ.1 a0 54)), σ) else (σ.2.1 a0 61).bind fun x1 => (rI L σ x1 a2).bind fun v2 => (σ.2.1 a0 28).bind fun x3 => (wI L σ x3 a2 v2).bind fun σ4 => (f_X12_law_130 k) L σ4 a0 a1 (a2 + 1))
def A_X12_law_130 (c : Lay → Sto → Nat → Int32 → Int32 → Option (Int32 × Sto)) (lc : List (Option AV)) (st : List AV) (L : Lay) (σ : Sto) : Option (Int32 × Sto) := match lc, st with
  | [some (.inr (.inr (.inl (ta0, some a0)))), some (.inl a1), some (.inl a2)], [] => bif Nat.beq ta0 12 && true then c L σ a0 a1 a2 else none
  | _, _ => none
def f_X12_law_163 : Nat → Lay → Sto → Nat → Int32 → Int32 → Option (Int32 × Sto)
  | 0 => fun _ _ _ _ _ => none
  | k + 1 => fun L σ a0 a1 a2 => (if a1 ≤ a2 then (putI σ a0 26 a1).bind fun σ5 => ((ckN 1 1).bind fun _ => putI σ5 a0 27 1).bind fun σ6 => some ((σ6.1 a0 60), σ6) else (σ.2.1 a0 23).bind fun x7 => (rI L σ x7 a2).bind fun v8 => (σ.2.1 a0 24).bind fun x9 => (wI L σ x9 a2 v8).bind fun σ10 => (f_X12_law_163 k) L σ10 a0 a1 (a2 + 1))
def A_X12_law_163 (c : Lay → Sto → Nat → Int32 → Int32 → Option (Int32 × Sto)) (lc : List (Option AV)) (st : List AV) (L : Lay) (σ : Sto) : Option (Int32 × Sto) := match lc, st with
  | [some (.inr (.inr (.inl (ta0, some a0)))), some (.inl a1), some (.inl a2)], [] => bif Nat.beq ta0 12 && true then c L σ a0 a1 a2 else none
  | _, _ => none
def f_X12_law_108 (L : Lay) (σ : Sto) (a0 : Nat) (s0 : Int32) (s1 : Nat) : Option (Int32 × Sto) := ((ckN 1 s0).bind fun _ => putI σ s1 56 s0).bind fun σ11 => (putI σ11 a0 25 0).bind fun σ12 => (if (σ12.1 a0 56) = 0 then (f_X12_law_163 FU) L σ12 a0 (σ11.1 a0 25) 0 else (f_X12_law_130 FU) L σ12 a0 (σ11.1 a0 25) 0)
def A_X12_law_108 (c : Lay → Sto → Nat → Int32 → Nat → Option (Int32 × Sto)) (lc : List (Option AV)) (st : List AV) (L : Lay) (σ : Sto) : Option (Int32 × Sto) := match lc, st with
  | [some (.inr (.inr (.inl (ta0, some a0)))), _, _], [.inl s0, .inr (.inr (.inl (ts1, some s1)))] => bif Nat.beq ta0 12 && (Nat.beq ts1 12 && true) then c L σ a0 s0 s1 else none
  | _, _ => none
def f_X12_law_103 (L : Lay) (σ : Sto) (a0 : Nat) (s0 : Nat) : Option (Int32 × Sto) := (f_X12_law_108) L σ a0 1 s0
def A_X12_law_103 (c : Lay → Sto → Nat → Nat → Option (Int32 × Sto)) (lc : List (Option AV)) (st : List AV) (L : Lay) (σ : Sto) : Option (Int32 × Sto) := match lc, st with
  | [some (.inr (.inr (.inl (ta0, some a0)))), _, _], [.inr (.inr (.inl (ts0, some s0)))] => bif Nat.beq ta0 12 && (Nat.beq ts0 12 && true) then c L σ a0 s0 else none
  | _, _ => none
def f_X12_law_2 : Nat → Lay → Sto → Nat → Int32 → Option (Int32 × Sto)
  | 0 => fun _ _ _ _ => none
  | k + 1 => fun L σ a0 a1 => (if 3 ≤ a1 then ((ckN 1 0).bind fun _ => putI σ a0 52 0).bind fun σ13 => ((ckN 1 0).bind fun _ => putI σ13 a0 56 0).bind fun σ14 => (putI σ14 a0 53 0).bind fun σ15 => (putI σ15 a0 55 0).bind fun σ16 => (putI σ16 a0 58 0).bind fun σ17 => (putI σ17 a0 59 0).bind fun σ18 => (putI σ18 a0 60 0).bind fun σ19 => (f_X12_next L σ19 a0).bind fun σ20 => (f_X12_reads L σ20 a0 5 0).bind fun σ21 => (f_X12_reads L σ21 a0 6 1).bind fun σ22 => (f_X12_reads L σ22 a0 7 2).bind fun σ23 => (if (σ23.1 a0 56) = 0 then (if (σ23.1 a0 53) = 0 then (f_X12_law_108) L σ23 a0 0 a0 else (f_X12_law_103) L σ23 a0 a0) else (f_X12_law_103) L σ23 a0 a0) else (σ.2.1 a0 28).bind fun x24 => (rI L σ x24 a1).bind fun v25 => (σ.2.1 a0 61).bind fun x26 => (wI L σ x26 a1 v25).bind fun σ27 => (f_X12_law_2 k) L σ27 a0 (a1 + 1))
def A_X12_law_2 (c : Lay → Sto → Nat → Int32 → Option (Int32 × Sto)) (lc : List (Option AV)) (st : List AV) (L : Lay) (σ : Sto) : Option (Int32 × Sto) := match lc, st with
  | [some (.inr (.inr (.inl (ta0, some a0)))), some (.inl a1), _], [] => bif Nat.beq ta0 12 && true then c L σ a0 a1 else none
  | _, _ => none
def f_X12_law (L : Lay) (σ : Sto) (a0 : Nat) : Option (Int32 × Sto) := (f_X12_law_2 FU) L σ a0 0
def ad_X12_law : ADT := fun O L σ as k => match as with
  | [.inr (.inr (.inl (ta0, some a0)))] => bif Nat.beq ta0 12 && true then (f_X12_law L σ a0).bind fun r => k (some (vI r.1)) L r.2 else none
  | _ => none
abbrev cl_X12_law {O : Type} : CLT O := (clc 182 ad_X12_next (clc 197 ad_X12_reads cl0))
theorem hc_X12_law (G : GT) (l : Launch) {d : Nat} (hd : 108 ≤ d) {O : Type} : HCL G l (true, false) d (cl_X12_law (O := O)) := (hclc (ca_X12_next G l (d := 3) (Nat.le_refl _)) (fun _ => rfl) (fun e => by cases e) (by omega) (hclc (ca_X12_reads G l (d := 107) (Nat.le_refl _)) (fun _ => rfl) (fun e => by cases e) (by omega) hcl0))
theorem rt_X12_law : retOK (0, 0) (some .int) := ⟨fun _ => rfl, fun h => absurd h (by decide), fun h => absurd h (by decide)⟩
set_option maxRecDepth 20000 in
theorem b_X12_law_130 {G : GT} {l : Launch} {d : Nat} {L0 : Lay} {σ0 : Sto} (hd : 108 ≤ d) : ∀ k : Nat, HF G l 12 "law" cX12_law 3 (some .int) d L0 σ0 (true, false) (dcI L0) 130 (A_X12_law_130 (f_X12_law_130 k))
  | 0 => by
    intro lc st L σ o h hI
    unfold A_X12_law_130 at h
    split at h
    · obtain ⟨_, hA1⟩ := bif_s h
      cases hA1
    · cases h
  | k + 1 => by
    have ih := b_X12_law_130 (G := G) (l := l) (d := d) (L0 := L0) (σ0 := σ0) hd k
    intro lc st L σ o h hI
    unfold A_X12_law_130 at h
    split at h
    · obtain ⟨hq0, hA1⟩ := bif_s h
      obtain ⟨e0, hq1⟩ := beq_and hq0
      subst e0
      exact exs (sp := [130]) (K := (kc 130 (A_X12_law_130 (f_X12_law_130 k)) k0)) ok_X12_law rt_X12_law (by omega) (hc_X12_law G l hd) (hrI rfl) (hkc ih hk0) 117 hA1 hI
    · cases h
set_option maxRecDepth 20000 in
theorem b_X12_law_163 {G : GT} {l : Launch} {d : Nat} {L0 : Lay} {σ0 : Sto} (hd : 108 ≤ d) : ∀ k : Nat, HF G l 12 "law" cX12_law 3 (some .int) d L0 σ0 (true, false) (dcI L0) 163 (A_X12_law_163 (f_X12_law_163 k))
  | 0 => by
    intro lc st L σ o h hI
    unfold A_X12_law_163 at h
    split at h
    · obtain ⟨_, hA1⟩ := bif_s h
      cases hA1
    · cases h
  | k + 1 => by
    have ih := b_X12_law_163 (G := G) (l := l) (d := d) (L0 := L0) (σ0 := σ0) hd k
    intro lc st L σ o h hI
    unfold A_X12_law_163 at h
    split at h
    · obtain ⟨hq0, hA1⟩ := bif_s h
      obtain ⟨e0, hq1⟩ := beq_and hq0
      subst e0
      exact exs (sp := [163]) (K := (kc 163 (A_X12_law_163 (f_X12_law_163 k)) k0)) ok_X12_law rt_X12_law (by omega) (hc_X12_law G l hd) (hrI rfl) (hkc ih hk0) 117 hA1 hI
    · cases h
set_option maxRecDepth 20000 in
theorem b_X12_law_108 {G : GT} {l : Launch} {d : Nat} {L0 : Lay} {σ0 : Sto} (hd : 108 ≤ d) : HF G l 12 "law" cX12_law 3 (some .int) d L0 σ0 (true, false) (dcI L0) 108 (A_X12_law_108 f_X12_law_108) := by
  intro lc st L σ o h hI
  unfold A_X12_law_108 at h
  split at h
  · obtain ⟨hq0, hA1⟩ := bif_s h
    obtain ⟨e0, hq1⟩ := beq_and hq0
    obtain ⟨e1, hq2⟩ := beq_and hq1
    subst e0
    subst e1
    exact exs (sp := [130, 163]) (K := (kc 130 (A_X12_law_130 (f_X12_law_130 FU)) (kc 163 (A_X12_law_163 (f_X12_law_163 FU)) k0))) ok_X12_law rt_X12_law (by omega) (hc_X12_law G l hd) (hrI rfl) (hkc (b_X12_law_130 hd FU) (hkc (b_X12_law_163 hd FU) hk0)) 117 hA1 hI
  · cases h
set_option maxRecDepth 20000 in
theorem b_X12_law_103 {G : GT} {l : Launch} {d : Nat} {L0 : Lay} {σ0 : Sto} (hd : 108 ≤ d) : HF G l 12 "law" cX12_law 3 (some .int) d L0 σ0 (true, false) (dcI L0) 103 (A_X12_law_103 f_X12_law_103) := by
  intro lc st L σ o h hI
  unfold A_X12_law_103 at h
  split at h
  · obtain ⟨hq0, hA1⟩ := bif_s h
    obtain ⟨e0, hq1⟩ := beq_and hq0
    obtain ⟨e1, hq2⟩ := beq_and hq1
    subst e0
    subst e1
    exact exs (sp := [108]) (K := (kc 108 (A_X12_law_108 (f_X12_law_108)) k0)) ok_X12_law rt_X12_law (by omega) (hc_X12_law G l hd) (hrI rfl) (hkc (b_X12_law_108 hd) hk0) 117 hA1 hI
  · cases h
set_option maxRecDepth 20000 in
theorem b_X12_law_2 {G : GT} {l : Launch} {d : Nat} {L0 : Lay} {σ0 : Sto} (hd : 108 ≤ d) : ∀ k : Nat, HF G l 12 "law" cX12_law 3 (some .int) d L0 σ0 (true, false) (dcI L0) 2 (A_X12_law_2 (f_X12_law_2 k))
  | 0 => by
    intro lc st L σ o h hI
    unfold A_X12_law_2 at h
    split at h
    · obtain ⟨_, hA1⟩ := bif_s h
      cases hA1
    · cases h
  | k + 1 => by
    have ih := b_X12_law_2 (G := G) (l := l) (d := d) (L0 := L0) (σ0 := σ0) hd k
    intro lc st L σ o h hI
    unfold A_X12_law_2 at h
    split at h
    · obtain ⟨hq0, hA1⟩ := bif_s h
      obtain ⟨e0, hq1⟩ := beq_and hq0
      subst e0
      exact exs (sp := [2, 103, 108]) (K := (kc 2 (A_X12_law_2 (f_X12_law_2 k)) (kc 103 (A_X12_law_103 (f_X12_law_103)) (kc 108 (A_X12_law_108 (f_X12_law_108)) k0)))) ok_X12_law rt_X12_law (by omega) (hc_X12_law G l hd) (hrI rfl) (hkc ih (hkc (b_X12_law_103 hd) (hkc (b_X12_law_108 hd) hk0))) 117 hA1 hI
    · cases h
set_option maxRecDepth 20000 in
theorem ca_X12_law (G : GT) (l : Launch) {d : Nat} (hd : 108 ≤ d) : CA G l 170 (true, false) d ad_X12_law := by
  intro O L σ as k o h hW hok
  unfold ad_X12_law at h
  split at h
  · obtain ⟨hq0, hA0⟩ := bif_s h
    obtain ⟨e0, hq1⟩ := beq_and hq0
    subst e0
    obtain ⟨r, hr, hk⟩ := Option.bind_eq_some_iff.mp hA0
    exact ca_of (q := (dcI L) r) (by decide) rfl (Nat.le_of_ble_eq_true rfl) hk (fun _ => rfl) (fun e => by cases e) (exs (sp := [2]) (K := (kc 2 (A_X12_law_2 (f_X12_law_2 FU)) k0)) (L0 := L) (σ0 := σ) ok_X12_law rt_X12_law (by omega) (hc_X12_law G l hd) (hrI rfl) (hkc (b_X12_law_2 hd FU) hk0) 117 hr (inv0 hW hok))
  · cases h
def tt_X12_lay (pc : Nat) : TI := bif Nat.blt pc 48 then (bif Nat.blt pc 24 then (bif Nat.blt pc 14 then (bif Nat.blt pc 7 then (bif Nat.blt pc 1 then (bif Nat.beq pc 0 then (.iload_n 1, 1, (1, 0, 0), 0, 0, []) else TN) else (bif Nat.blt pc 4 then (bif Nat.beq pc 1 then (.invokestatic 185, 4, (161, 1, 0), 0, 0, []) else TN) else (bif Nat.beq pc 4 then (.ifCond .ne 6, 7, (10, 0, 0), 0, 0, []) else TN))) else (bif Nat.blt pc 10 then (bif Nat.blt pc 9 then (bif Nat.beq pc 7 then (.ldc 156, 9, (0, 0, 0), -1000000001, 0, []) else TN) else (bif Nat.beq pc 9 then (.ireturn, 10, (0, 0, 0), 0, 0, []) else TN)) else (bif Nat.blt pc 11 then (bif Nat.beq pc 10 then (.aload_n 0, 11, (0, 0, 0), 0, 0, []) else TN) else (bif Nat.beq pc 11 then (.getfield 101, 14, (12, 41, 0), 0, 0, []) else TN)))) else (bif Nat.blt pc 17 then (bif Nat.blt pc 15 then (bif Nat.beq pc 14 then (.iload_n 1, 15, (1, 0, 0), 0, 0, []) else TN) else (bif Nat.blt pc 16 then (bif Nat.beq pc 15 then (.iaload, 16, (0, 0, 0), 0, 0, []) else TN) else (bif Nat.beq pc 16 then (.iconst (-1), 17, (0, 0, 0), -1, 0, []) else TN))) else (bif Nat.blt pc 22 then (bif Nat.blt pc 20 then (bif Nat.beq pc 17 then (.if_icmp .ne 6, 20, (23, 0, 0), 0, 0, []) else TN) else (bif Nat.beq pc 20 then (.ldc 188, 22, (0, 0, 0), -1000000011, 0, []) else TN)) else (bif Nat.blt pc 23 then (bif Nat.beq pc 22 then (.ireturn, 23, (0, 0, 0), 0, 0, []) else TN) else (bif Nat.beq pc 23 then (.aload_n 0, 24, (0, 0, 0), 0, 0, []) else TN))))) else (bif Nat.blt pc 38 then (bif Nat.blt pc 29 then (bif Nat.blt pc 27 then (bif Nat.beq pc 24 then (.getfield 101, 27, (12, 41, 0), 0, 0, []) else TN) else (bif Nat.blt pc 28 then (bif Nat.beq pc 27 then (.iload_n 1, 28, (1, 0, 0), 0, 0, []) else TN) else (bif Nat.beq pc 28 then (.iaload, 29, (0, 0, 0), 0, 0, []) else TN))) else (bif Nat.blt pc 34 then (bif Nat.blt pc 31 then (bif Nat.beq pc 29 then (.bipush 12, 31, (0, 0, 0), 12, 0, []) else TN) else (bif Nat.beq pc 31 then (.if_icmp .ge 12, 34, (43, 0, 0), 0, 0, []) else TN)) else (bif Nat.blt pc 35 then (bif Nat.beq pc 34 then (.aload_n 0, 35, (0, 0, 0), 0, 0, []) else TN) else (bif Nat.beq pc 35 then (.getfield 101, 38, (12, 41, 0), 0, 0, []) else TN)))) else (bif Nat.blt pc 43 then (bif Nat.blt pc 39 then (bif Nat.beq pc 38 then (.iload_n 1, 39, (1, 0, 0), 0, 0, []) else TN) else (bif Nat.blt pc 40 then (bif Nat.beq pc 39 then (.iaload, 40, (0, 0, 0), 0, 0, []) else TN) else (bif Nat.beq pc 40 then (.goto 5, 43, (45, 0, 0), 0, 0, []) else TN))) else (bif Nat.blt pc 46 then (bif Nat.blt pc 45 then (bif Nat.beq pc 43 then (.bipush 12, 45, (0, 0, 0), 12, 0, []) else TN) else (bif Nat.beq pc 45 then (.istore_n 2, 46, (2, 0, 0), 0, 0, []) else TN)) else (bif Nat.blt pc 47 then (bif Nat.beq pc 46 then (.iconst 0, 47, (0, 0, 0), 0, 0, []) else TN) else (bif Nat.beq pc 47 then (.istore_n 3, 48, (3, 0, 0), 0, 0, []) else TN)))))) else (bif Nat.blt pc 70 then (bif Nat.blt pc 60 then (bif Nat.blt pc 53 then (bif Nat.blt pc 49 then (bif Nat.beq pc 48 then (.iload_n 3, 49, (3, 0, 0), 0, 0, []) else TN) else (bif Nat.blt pc 50 then (bif Nat.beq pc 49 then (.iload_n 2, 50, (2, 0, 0), 0, 0, []) else TN) else (bif Nat.beq pc 50 then (.if_icmp .ge 46, 53, (96, 0, 0), 0, 0, []) else TN))) else (bif Nat.blt pc 57 then (bif Nat.blt pc 54 then (bif Nat.beq pc 53 then (.aload_n 0, 54, (0, 0, 0), 0, 0, []) else TN) else (bif Nat.beq pc 54 then (.getfield 104, 57, (12, 42, 0), 0, 0, []) else TN)) else (bif Nat.blt pc 59 then (bif Nat.beq pc 57 then (.bipush 40, 59, (0, 0, 0), 40, 0, []) else TN) else (bif Nat.beq pc 59 then (.iload_n 1, 60, (1, 0, 0), 0, 0, []) else TN)))) else (bif Nat.blt pc 63 then (bif Nat.blt pc 61 then (bif Nat.beq pc 60 then (.imul, 61, (0, 0, 0), 0, 0, []) else TN) else (bif Nat.blt pc 62 then (bif Nat.beq pc 61 then (.iload_n 3, 62, (3, 0, 0), 0, 0, []) else TN) else (bif Nat.beq pc 62 then (.iadd, 63, (0, 0, 0), 0, 0, []) else TN))) else (bif Nat.blt pc 66 then (bif Nat.blt pc 64 then (bif Nat.beq pc 63 then (.saload, 64, (0, 0, 0), 0, 0, []) else TN) else (bif Nat.beq pc 64 then (.istore 4, 66, (4, 0, 0), 0, 0, []) else TN)) else (bif Nat.blt pc 67 then (bif Nat.beq pc 66 then (.aload_n 0, 67, (0, 0, 0), 0, 0, []) else TN) else (bif Nat.beq pc 67 then (.getfield 85, 70, (12, 35, 0), 0, 0, []) else TN))))) else (bif Nat.blt pc 85 then (bif Nat.blt pc 74 then (bif Nat.blt pc 71 then (bif Nat.beq pc 70 then (.iload_n 3, 71, (3, 0, 0), 0, 0, []) else TN) else (bif Nat.blt pc 73 then (bif Nat.beq pc 71 then (.iload 4, 73, (4, 0, 0), 0, 0, []) else TN) else (bif Nat.beq pc 73 then (.iconst 0, 74, (0, 0, 0), 0, 0, []) else TN))) else (bif Nat.blt pc 80 then (bif Nat.blt pc 77 then (bif Nat.beq pc 74 then (.sipush 999, 77, (0, 0, 0), 999, 0, []) else TN) else (bif Nat.beq pc 77 then (.invokestatic 146, 80, (147, 3, 0), 0, 0, []) else TN)) else (bif Nat.blt pc 83 then (bif Nat.beq pc 80 then (.ifCond .eq 8, 83, (88, 0, 0), 0, 0, []) else TN) else (bif Nat.beq pc 83 then (.iload 4, 85, (4, 0, 0), 0, 0, []) else TN)))) else (bif Nat.blt pc 90 then (bif Nat.blt pc 88 then (bif Nat.beq pc 85 then (.goto 4, 88, (89, 0, 0), 0, 0, []) else TN) else (bif Nat.blt pc 89 then (bif Nat.beq pc 88 then (.iconst 0, 89, (0, 0, 0), 0, 0, []) else TN) else (bif Nat.beq pc 89 then (.iastore, 90, (0, 0, 0), 0, 0, []) else TN))) else (bif Nat.blt pc 96 then (bif Nat.blt pc 93 then (bif Nat.beq pc 90 then (.iinc 3 1, 93, (3, 0, 0), 1, 0, []) else TN) else (bif Nat.beq pc 93 then (.goto (-45), 96, (48, 0, 0), 0, 0, []) else TN)) else (bif Nat.blt pc 97 then (bif Nat.beq pc 96 then (.iload_n 2, 97, (2, 0, 0), 0, 0, []) else TN) else (bif Nat.beq pc 97 then (.ireturn, 98, (0, 0, 0), 0, 0, []) else TN))))))
def tb_X12_lay (pc : Nat) : TI := bif Nat.ble 98 pc then TN else tt_X12_lay pc
theorem ok_X12_lay : tOK 12 (decide ("lay" = "<init>")) cX12_lay tb_X12_lay := tOK_of 98 tn_of (by decide +kernel)
def f_X12_lay_89 (c48 : Lay → Sto → Nat → Int32 → Int32 → Int32 → Option (Int32 × Sto)) (L : Lay) (σ : Sto) (a0 : Nat) (a1 : Int32) (a2 : Int32) (a3 : Int32) (s0 : Int32) (s1 : Int32) (s2 : Option Nat) : Option (Int32 × Sto) := s2.bind fun x1 => (wI L σ x1 s1 s0).bind fun σ2 => c48 L σ2 a0 a1 a2 (a3 + 1)
def A_X12_lay_89 (c : Lay → Sto → Nat → Int32 → Int32 → Int32 → Int32 → Int32 → Option Nat → Option (Int32 × Sto)) (lc : List (Option AV)) (st : List AV) (L : Lay) (σ : Sto) : Option (Int32 × Sto) := match lc, st with
  | [some (.inr (.inr (.inl (ta0, some a0)))), some (.inl a1), some (.inl a2), some (.inl a3), _], [.inl s0, .inl s1, .inr (.inr (.inl (ts2, s2)))] => bif Nat.beq ta0 12 && (Nat.beq ts2 20 && true) then c L σ a0 a1 a2 a3 s0 s1 s2 else none
  | _, _ => none
def f_X12_lay_48 : Nat → Lay → Sto → Nat → Int32 → Int32 → Int32 → Option (Int32 × Sto)
  | 0 => fun _ _ _ _ _ _ => none
  | k + 1 => fun L σ a0 a1 a2 a3 => (if a2 ≤ a3 then some (a2, σ) else (σ.2.1 a0 42).bind fun x3 => (rI L σ x3 ((40 * a1) + a3)).bind fun v4 => (f_X12_in L σ v4 0 999).bind fun r5 => (if r5 = 0 then (f_X12_lay_89 (f_X12_lay_48 k)) L σ a0 a1 a2 a3 0 a3 (σ.2.1 a0 35) else (f_X12_lay_89 (f_X12_lay_48 k)) L σ a0 a1 a2 a3 v4 a3 (σ.2.1 a0 35)))
def A_X12_lay_48 (c : Lay → Sto → Nat → Int32 → Int32 → Int32 → Option (Int32 × Sto)) (lc : List (Option AV)) (st : List AV) (L : Lay) (σ : Sto) : Option (Int32 × Sto) := match lc, st with
  | [some (.inr (.inr (.inl (ta0, some a0)))), some (.inl a1), some (.inl a2), some (.inl a3), _], [] => bif Nat.beq ta0 12 && true then c L σ a0 a1 a2 a3 else none
  | _, _ => none
def f_X12_lay_45 (L : Lay) (σ : Sto) (a0 : Nat) (a1 : Int32) (s0 : Int32) : Option (Int32 × Sto) := (f_X12_lay_48 FU) L σ a0 a1 s0 0
def A_X12_lay_45 (c : Lay → Sto → Nat → Int32 → Int32 → Option (Int32 × Sto)) (lc : List (Option AV)) (st : List AV) (L : Lay) (σ : Sto) : Option (Int32 × Sto) := match lc, st with
  | [some (.inr (.inr (.inl (ta0, some a0)))), some (.inl a1), _, _, _], [.inl s0] => bif Nat.beq ta0 12 && true then c L σ a0 a1 s0 else none
  | _, _ => none
def f_X12_lay (L : Lay) (σ : Sto) (a0 : Nat) (a1 : Int32) : Option (Int32 × Sto) := (f_X12_isSheet L σ a1).bind fun r6 => (if r6 = 0 then some ((-1000000001), σ) else (σ.2.1 a0 41).bind fun x7 => (rI L σ x7 a1).bind fun v8 => (if v8 = (-1) then some ((-1000000011), σ) else (σ.2.1 a0 41).bind fun x9 => (rI L σ x9 a1).bind fun v10 => (if 12 ≤ v10 then (f_X12_lay_45) L σ a0 a1 12 else (σ.2.1 a0 41).bind fun x11 => (rI L σ x11 a1).bind fun v12 => (f_X12_lay_45) L σ a0 a1 v12)))
def ad_X12_lay : ADT := fun O L σ as k => match as with
  | [.inr (.inr (.inl (ta0, some a0))), .inl a1] => bif Nat.beq ta0 12 && true then (f_X12_lay L σ a0 a1).bind fun r => k (some (vI r.1)) L r.2 else none
  | _ => none
abbrev cl_X12_lay {O : Type} : CLT O := (clc 147 ad_X12_in (clc 161 ad_X12_isSheet cl0))
theorem hc_X12_lay (G : GT) (l : Launch) {d : Nat} (hd : 3 ≤ d) {O : Type} : HCL G l (true, false) d (cl_X12_lay (O := O)) := (hclc (ca_X12_in G l (d := 1) (Nat.le_refl _)) (fun _ => rfl) (fun e => by cases e) (by omega) (hclc (ca_X12_isSheet G l (d := 2) (Nat.le_refl _)) (fun _ => rfl) (fun e => by cases e) (by omega) hcl0))
theorem rt_X12_lay : retOK (0, 0) (some .int) := ⟨fun _ => rfl, fun h => absurd h (by decide), fun h => absurd h (by decide)⟩
set_option maxRecDepth 20000 in
theorem b_X12_lay_89 {G : GT} {l : Launch} {d : Nat} {L0 : Lay} {σ0 : Sto} (hd : 3 ≤ d) {c48 : Lay → Sto → Nat → Int32 → Int32 → Int32 → Option (Int32 × Sto)} (h48 : HF G l 12 "lay" cX12_lay 5 (some .int) d L0 σ0 (true, false) (dcI L0) 48 (A_X12_lay_48 c48)) : HF G l 12 "lay" cX12_lay 5 (some .int) d L0 σ0 (true, false) (dcI L0) 89 (A_X12_lay_89 (f_X12_lay_89 c48)) := by
  intro lc st L σ o h hI
  unfold A_X12_lay_89 at h
  split at h
  · obtain ⟨hq0, hA1⟩ := bif_s h
    obtain ⟨e0, hq1⟩ := beq_and hq0
    obtain ⟨e1, hq2⟩ := beq_and hq1
    subst e0
    subst e1
    exact exs (sp := [48]) (K := (kc 48 (A_X12_lay_48 c48) k0)) ok_X12_lay rt_X12_lay (by omega) (hc_X12_lay G l hd) (hrI rfl) (hkc h48 hk0) 59 hA1 hI
  · cases h
set_option maxRecDepth 20000 in
theorem b_X12_lay_48 {G : GT} {l : Launch} {d : Nat} {L0 : Lay} {σ0 : Sto} (hd : 3 ≤ d) : ∀ k : Nat, HF G l 12 "lay" cX12_lay 5 (some .int) d L0 σ0 (true, false) (dcI L0) 48 (A_X12_lay_48 (f_X12_lay_48 k))
  | 0 => by
    intro lc st L σ o h hI
    unfold A_X12_lay_48 at h
    split at h
    · obtain ⟨_, hA1⟩ := bif_s h
      cases hA1
    · cases h
  | k + 1 => by
    have ih := b_X12_lay_48 (G := G) (l := l) (d := d) (L0 := L0) (σ0 := σ0) hd k
    intro lc st L σ o h hI
    unfold A_X12_lay_48 at h
    split at h
    · obtain ⟨hq0, hA1⟩ := bif_s h
      obtain ⟨e0, hq1⟩ := beq_and hq0
      subst e0
      exact exs (sp := [89]) (K := (kc 89 (A_X12_lay_89 (f_X12_lay_89 (f_X12_lay_48 k))) k0)) ok_X12_lay rt_X12_lay (by omega) (hc_X12_lay G l hd) (hrI rfl) (hkc (b_X12_lay_89 hd ih) hk0) 59 hA1 hI
    · cases h
set_option maxRecDepth 20000 in
theorem b_X12_lay_45 {G : GT} {l : Launch} {d : Nat} {L0 : Lay} {σ0 : Sto} (hd : 3 ≤ d) : HF G l 12 "lay" cX12_lay 5 (some .int) d L0 σ0 (true, false) (dcI L0) 45 (A_X12_lay_45 f_X12_lay_45) := by
  intro lc st L σ o h hI
  unfold A_X12_lay_45 at h
  split at h
  · obtain ⟨hq0, hA1⟩ := bif_s h
    obtain ⟨e0, hq1⟩ := beq_and hq0
    subst e0
    exact exs (sp := [48]) (K := (kc 48 (A_X12_lay_48 (f_X12_lay_48 FU)) k0)) ok_X12_lay rt_X12_lay (by omega) (hc_X12_lay G l hd) (hrI rfl) (hkc (b_X12_lay_48 hd FU) hk0) 59 hA1 hI
  · cases h
set_option maxRecDepth 20000 in
theorem ca_X12_lay (G : GT) (l : Launch) {d : Nat} (hd : 3 ≤ d) : CA G l 171 (true, false) d ad_X12_lay := by
  intro O L σ as k o h hW hok
  unfold ad_X12_lay at h
  split at h
  · obtain ⟨hq0, hA0⟩ := bif_s h
    obtain ⟨e0, hq1⟩ := beq_and hq0
    subst e0
    obtain ⟨r, hr, hk⟩ := Option.bind_eq_some_iff.mp hA0
    exact ca_of (q := (dcI L) r) (by decide) rfl (Nat.le_of_ble_eq_true rfl) hk (fun _ => rfl) (fun e => by cases e) (exs (sp := [45]) (K := (kc 45 (A_X12_lay_45 (f_X12_lay_45)) k0)) (L0 := L) (σ0 := σ) ok_X12_lay rt_X12_lay (by omega) (hc_X12_lay G l hd) (hrI rfl) (hkc (b_X12_lay_45 hd) hk0) 59 hr (inv0 hW hok))
  · cases h
