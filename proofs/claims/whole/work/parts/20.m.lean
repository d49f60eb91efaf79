def FU : Nat := 5000
def tt_X11_isWithin (pc : Nat) : TI := bif Nat.blt pc 7 then (bif Nat.blt pc 2 then (bif Nat.blt pc 1 then (bif Nat.beq pc 0 then (.iload_n 0, 1, (0, 0, 0), 0, 0, []) else TN) else (bif Nat.beq pc 1 then (.iload_n 1, 2, (1, 0, 0), 0, 0, []) else TN)) else (bif Nat.blt pc 5 then (bif Nat.beq pc 2 then (.if_icmp .lt 12, 5, (14, 0, 0), 0, 0, []) else TN) else (bif Nat.blt pc 6 then (bif Nat.beq pc 5 then (.iload_n 0, 6, (0, 0, 0), 0, 0, []) else TN) else (bif Nat.beq pc 6 then (.iload_n 2, 7, (2, 0, 0), 0, 0, []) else TN)))) else (bif Nat.blt pc 11 then (bif Nat.blt pc 10 then (bif Nat.beq pc 7 then (.if_icmp .gt 7, 10, (14, 0, 0), 0, 0, []) else TN) else (bif Nat.beq pc 10 then (.iconst 1, 11, (0, 0, 0), 1, 0, []) else TN)) else (bif Nat.blt pc 14 then (bif Nat.beq pc 11 then (.goto 4, 14, (15, 0, 0), 0, 0, []) else TN) else (bif Nat.blt pc 15 then (bif Nat.beq pc 14 then (.iconst 0, 15, (0, 0, 0), 0, 0, []) else TN) else (bif Nat.beq pc 15 then (.ireturn, 16, (0, 0, 0), 0, 0, []) else TN))))
def tb_X11_isWithin (pc : Nat) : TI := bif Nat.ble 16 pc then TN else tt_X11_isWithin pc
theorem ok_X11_isWithin : tOK 11 (decide ("isWithin" = "<init>")) cX11_isWithin tb_X11_isWithin := tOK_of 16 tn_of (by decide +kernel)
def f_X11_isWithin (L : Lay) (σ : Sto) (a0 : Int32) (a1 : Int32) (a2 : Int32) : Option Int32 := (if a0 < a1 then (ckN 1 0).bind fun _ => some 0 else (if a2 < a0 then (ckN 1 0).bind fun _ => some 0 else (ckN 1 1).bind fun _ => some 1))
def ad_X11_isWithin : ADT := fun O L σ as k => match as with
  | [.inl a0, .inl a1, .inl a2] => (f_X11_isWithin L σ a0 a1 a2).bind fun r => k (some (vI r)) L σ
  | _ => none
abbrev cl_X11_isWithin {O : Type} : CLT O := cl0
theorem hc_X11_isWithin (G : GT) (l : Launch) {d : Nat} (hd : 1 ≤ d) {O : Type} : HCL G l (true, true) d (cl_X11_isWithin (O := O)) := hcl0
theorem rt_X11_isWithin : retOK (1, 0) (some .boolean) := ⟨fun _ => rfl, fun h => absurd h (by decide), fun h => absurd h (by decide)⟩
set_option maxRecDepth 20000 in
theorem ca_X11_isWithin (G : GT) (l : Launch) {d : Nat} (hd : 1 ≤ d) : CA G l 83 (true, true) d ad_X11_isWithin := by
  intro O L σ as k o h hW hok
  unfold ad_X11_isWithin at h
  split at h
  · have hA0 := h
    obtain ⟨r, hr, hk⟩ := Option.bind_eq_some_iff.mp hA0
    exact ca_of (q := (dcPI L σ) r) (by decide) rfl (Nat.le_of_ble_eq_true rfl) hk (fun _ => rfl) (fun _ => rfl) (exs (sp := []) (K := k0) (L0 := L) (σ0 := σ) ok_X11_isWithin rt_X11_isWithin (by omega) (hc_X11_isWithin G l hd) (hrPI rfl rfl) hk0 13 hr (inv0 hW hok))
  · cases h
def tt_X10_memberAt (pc : Nat) : TI := bif Nat.blt pc 11 then (bif Nat.blt pc 3 then (bif Nat.blt pc 1 then (bif Nat.beq pc 0 then (.iload_n 1, 1, (1, 0, 0), 0, 0, []) else TN) else (bif Nat.blt pc 2 then (bif Nat.beq pc 1 then (.iconst 0, 2, (0, 0, 0), 0, 0, []) else TN) else (bif Nat.beq pc 2 then (.aload_n 0, 3, (0, 0, 0), 0, 0, []) else TN))) else (bif Nat.blt pc 7 then (bif Nat.blt pc 6 then (bif Nat.beq pc 3 then (.getfield 38, 6, (10, 3, 0), 0, 0, []) else TN) else (bif Nat.beq pc 6 then (.iconst 1, 7, (0, 0, 0), 1, 0, []) else TN)) else (bif Nat.blt pc 8 then (bif Nat.beq pc 7 then (.isub, 8, (0, 0, 0), 0, 0, []) else TN) else (bif Nat.beq pc 8 then (.invokestatic 21, 11, (83, 3, 0), 0, 0, []) else TN)))) else (bif Nat.blt pc 19 then (bif Nat.blt pc 15 then (bif Nat.blt pc 14 then (bif Nat.beq pc 11 then (.ifCond .eq 12, 14, (23, 0, 0), 0, 0, []) else TN) else (bif Nat.beq pc 14 then (.aload_n 0, 15, (0, 0, 0), 0, 0, []) else TN)) else (bif Nat.blt pc 18 then (bif Nat.beq pc 15 then (.getfield 17, 18, (10, 2, 0), 0, 0, []) else TN) else (bif Nat.beq pc 18 then (.iload_n 1, 19, (1, 0, 0), 0, 0, []) else TN))) else (bif Nat.blt pc 23 then (bif Nat.blt pc 20 then (bif Nat.beq pc 19 then (.aaload, 20, (0, 0, 0), 0, 0, []) else TN) else (bif Nat.beq pc 20 then (.goto 4, 23, (24, 0, 0), 0, 0, []) else TN)) else (bif Nat.blt pc 24 then (bif Nat.beq pc 23 then (.aconst_null, 24, (0, 0, 0), 0, 0, []) else TN) else (bif Nat.beq pc 24 then (.areturn, 25, (0, 0, 0), 0, 0, []) else TN))))
def tb_X10_memberAt (pc : Nat) : TI := bif Nat.ble 25 pc then TN else tt_X10_memberAt pc
theorem ok_X10_memberAt : tOK 10 (decide ("memberAt" = "<init>")) cX10_memberAt tb_X10_memberAt := tOK_of 25 tn_of (by decide +kernel)
def f_X10_memberAt (L : Lay) (σ : Sto) (a0 : Nat) (a1 : Int32) : Option (Option Nat) := (f_X11_isWithin L σ a1 0 ((σ.1 a0 3) - 1)).bind fun r1 => (if r1 = 0 then some none else (σ.2.1 a0 2).bind fun x2 => (rR L σ x2 a1).bind fun o3 => some o3)
def ad_X10_memberAt : ADT := fun O L σ as k => match as with
  | [.inr (.inr (.inl (ta0, some a0))), .inl a1] => bif Nat.beq ta0 10 && true then (f_X10_memberAt L σ a0 a1).bind fun r => k (some (vR 2 r)) L σ else none
  | _ => none
abbrev cl_X10_memberAt {O : Type} : CLT O := (clc 83 ad_X11_isWithin cl0)
theorem hc_X10_memberAt (G : GT) (l : Launch) {d : Nat} (hd : 2 ≤ d) {O : Type} : HCL G l (true, true) d (cl_X10_memberAt (O := O)) := (hclc (ca_X11_isWithin G l (d := 1) (Nat.le_refl _)) (fun _ => rfl) (fun _ => rfl) (by omega) hcl0)
theorem rt_X10_memberAt : retOK (5, 2) (some (.object "StrikeBallots$Member")) := ⟨fun h => absurd h (by decide), fun _ => ⟨_, rfl⟩, fun h => absurd h (by decide)⟩
set_option maxRecDepth 20000 in
theorem ca_X10_memberAt (G : GT) (l : Launch) {d : Nat} (hd : 2 ≤ d) : CA G l 53 (true, true) d ad_X10_memberAt := by
  intro O L σ as k o h hW hok
  unfold ad_X10_memberAt at h
  split at h
  · obtain ⟨hq0, hA0⟩ := bif_s h
    obtain ⟨e0, hq1⟩ := beq_and hq0
    subst e0
    obtain ⟨r, hr, hk⟩ := Option.bind_eq_some_iff.mp hA0
    exact ca_of (q := (dcPR 2 L σ) r) (by decide) rfl (Nat.le_of_ble_eq_true rfl) hk (fun _ => rfl) (fun _ => rfl) (exs (sp := []) (K := k0) (L0 := L) (σ0 := σ) ok_X10_memberAt rt_X10_memberAt (by omega) (hc_X10_memberAt G l hd) (hrPR rfl rfl) hk0 18 hr (inv0 hW hok))
  · cases h
def tt_X2_branchOn (pc : Nat) : TI := bif Nat.blt pc 28 then (bif Nat.blt pc 16 then (bif Nat.blt pc 8 then (bif Nat.blt pc 2 then (bif Nat.blt pc 1 then (bif Nat.beq pc 0 then (.iload_n 1, 1, (1, 0, 0), 0, 0, []) else TN) else (bif Nat.beq pc 1 then (.aload_n 0, 2, (0, 0, 0), 0, 0, []) else TN)) else (bif Nat.blt pc 5 then (bif Nat.beq pc 2 then (.getfield 34, 5, (2, 3, 0), 0, 0, []) else TN) else (bif Nat.beq pc 5 then (.if_icmp .lt 11, 8, (16, 0, 0), 0, 0, []) else TN))) else (bif Nat.blt pc 12 then (bif Nat.blt pc 9 then (bif Nat.beq pc 8 then (.aload_n 0, 9, (0, 0, 0), 0, 0, []) else TN) else (bif Nat.beq pc 9 then (.getfield 9, 12, (2, 4, 0), 0, 0, []) else TN)) else (bif Nat.blt pc 13 then (bif Nat.beq pc 12 then (.iload_n 1, 13, (1, 0, 0), 0, 0, []) else TN) else (bif Nat.beq pc 13 then (.if_icmp .gt 6, 16, (19, 0, 0), 0, 0, []) else TN)))) else (bif Nat.blt pc 23 then (bif Nat.blt pc 19 then (bif Nat.blt pc 18 then (bif Nat.beq pc 16 then (.ldc 40, 18, (0, 0, 0), -1000000005, 0, []) else TN) else (bif Nat.beq pc 18 then (.ireturn, 19, (0, 0, 0), 0, 0, []) else TN)) else (bif Nat.blt pc 20 then (bif Nat.beq pc 19 then (.aload_n 0, 20, (0, 0, 0), 0, 0, []) else TN) else (bif Nat.beq pc 20 then (.getfield 25, 23, (2, 5, 0), 0, 0, []) else TN))) else (bif Nat.blt pc 25 then (bif Nat.blt pc 24 then (bif Nat.beq pc 23 then (.istore_n 2, 24, (2, 0, 0), 0, 0, []) else TN) else (bif Nat.beq pc 24 then (.iconst 0, 25, (0, 0, 0), 0, 0, []) else TN)) else (bif Nat.blt pc 26 then (bif Nat.beq pc 25 then (.istore_n 3, 26, (3, 0, 0), 0, 0, []) else TN) else (bif Nat.blt pc 27 then (bif Nat.beq pc 26 then (.iload_n 3, 27, (3, 0, 0), 0, 0, []) else TN) else (bif Nat.beq pc 27 then (.aload_n 0, 28, (0, 0, 0), 0, 0, []) else TN)))))) else (bif Nat.blt pc 44 then (bif Nat.blt pc 38 then (bif Nat.blt pc 34 then (bif Nat.blt pc 31 then (bif Nat.beq pc 28 then (.getfield 37, 31, (2, 8, 0), 0, 0, []) else TN) else (bif Nat.beq pc 31 then (.if_icmp .ge 26, 34, (57, 0, 0), 0, 0, []) else TN)) else (bif Nat.blt pc 35 then (bif Nat.beq pc 34 then (.aload_n 0, 35, (0, 0, 0), 0, 0, []) else TN) else (bif Nat.beq pc 35 then (.getfield 15, 38, (2, 6, 0), 0, 0, []) else TN))) else (bif Nat.blt pc 40 then (bif Nat.blt pc 39 then (bif Nat.beq pc 38 then (.iload_n 3, 39, (3, 0, 0), 0, 0, []) else TN) else (bif Nat.beq pc 39 then (.iaload, 40, (0, 0, 0), 0, 0, []) else TN)) else (bif Nat.blt pc 41 then (bif Nat.beq pc 40 then (.iload_n 1, 41, (1, 0, 0), 0, 0, []) else TN) else (bif Nat.beq pc 41 then (.if_icmp .gt 10, 44, (51, 0, 0), 0, 0, []) else TN)))) else (bif Nat.blt pc 50 then (bif Nat.blt pc 48 then (bif Nat.blt pc 45 then (bif Nat.beq pc 44 then (.aload_n 0, 45, (0, 0, 0), 0, 0, []) else TN) else (bif Nat.beq pc 45 then (.getfield 19, 48, (2, 7, 0), 0, 0, []) else TN)) else (bif Nat.blt pc 49 then (bif Nat.beq pc 48 then (.iload_n 3, 49, (3, 0, 0), 0, 0, []) else TN) else (bif Nat.beq pc 49 then (.iaload, 50, (0, 0, 0), 0, 0, []) else TN))) else (bif Nat.blt pc 54 then (bif Nat.blt pc 51 then (bif Nat.beq pc 50 then (.istore_n 2, 51, (2, 0, 0), 0, 0, []) else TN) else (bif Nat.beq pc 51 then (.iinc 3 1, 54, (3, 0, 0), 1, 0, []) else TN)) else (bif Nat.blt pc 57 then (bif Nat.beq pc 54 then (.goto (-28), 57, (26, 0, 0), 0, 0, []) else TN) else (bif Nat.blt pc 58 then (bif Nat.beq pc 57 then (.iload_n 2, 58, (2, 0, 0), 0, 0, []) else TN) else (bif Nat.beq pc 58 then (.ireturn, 59, (0, 0, 0), 0, 0, []) else TN))))))
def tb_X2_branchOn (pc : Nat) : TI := bif Nat.ble 59 pc then TN else tt_X2_branchOn pc
theorem ok_X2_branchOn : tOK 2 (decide ("branchOn" = "<init>")) cX2_branchOn tb_X2_branchOn := tOK_of 59 tn_of (by decide +kernel)
def f_X2_branchOn_51 (c26 : Lay → Sto → Nat → Int32 → Int32 → Int32 → Option Int32) (L : Lay) (σ : Sto) (a0 : Nat) (a1 : Int32) (a2 : Int32) (a3 : Int32) : Option Int32 := c26 L σ a0 a1 a2 (a3 + 1)
def A_X2_branchOn_51 (c : Lay → Sto → Nat → Int32 → Int32 → Int32 → Option Int32) (lc : List (Option AV)) (st : List AV) (L : Lay) (σ : Sto) : Option Int32 := match lc, st with
  | [some (.inr (.inr (.inl (ta0, some a0)))), some (.inl a1), some (.inl a2), some (.inl a3)], [] => bif Nat.beq ta0 2 && true then c L σ a0 a1 a2 a3 else none
  | _, _ => none
def f_X2_branchOn_26 : Nat → Lay → Sto → Nat → Int32 → Int32 → Int32 → Option Int32
  | 0 => fun _ _ _ _ _ _ => none
  | k + 1 => fun L σ a0 a1 a2 a3 => (if (σ.1 a0 8) ≤ a3 then some a2 else (σ.2.1 a0 6).bind fun x1 => (rI L σ x1 a3).bind fun v2 => (if a1 < v2 then (f_X2_branchOn_51 (f_X2_branchOn_26 k)) L σ a0 a1 a2 a3 else (σ.2.1 a0 7).bind fun x3 => (rI L σ x3 a3).bind fun v4 => (f_X2_branchOn_51 (f_X2_branchOn_26 k)) L σ a0 a1 v4 a3))
def A_X2_branchOn_26 (c : Lay → Sto → Nat → Int32 → Int32 → Int32 → Option Int32) (lc : List (Option AV)) (st : List AV) (L : Lay) (σ : Sto) : Option Int32 := match lc, st with
  | [some (.inr (.inr (.inl (ta0, some a0)))), some (.inl a1), some (.inl a2), some (.inl a3)], [] => bif Nat.beq ta0 2 && true then c L σ a0 a1 a2 a3 else none
  | _, _ => none
def f_X2_branchOn (L : Lay) (σ : Sto) (a0 : Nat) (a1 : Int32) : Option Int32 := (if a1 < (σ.1 a0 3) then some (-1000000005) else (if a1 < (σ.1 a0 4) then (f_X2_branchOn_26 FU) L σ a0 a1 (σ.1 a0 5) 0 else some (-1000000005)))
def ad_X2_branchOn : ADT := fun O L σ as k => match as with
  | [.inr (.inr (.inl (ta0, some a0))), .inl a1] => bif Nat.beq ta0 2 && true then (f_X2_branchOn L σ a0 a1).bind fun r => k (some (vI r)) L σ else none
  | _ => none
abbrev cl_X2_branchOn {O : Type} : CLT O := cl0
theorem hc_X2_branchOn (G : GT) (l : Launch) {d : Nat} (hd : 1 ≤ d) {O : Type} : HCL G l (true, true) d (cl_X2_branchOn (O := O)) := hcl0
theorem rt_X2_branchOn : retOK (0, 0) (some .int) := ⟨fun _ => rfl, fun h => absurd h (by decide), fun h => absurd h (by decide)⟩
set_option maxRecDepth 20000 in
theorem b_X2_branchOn_51 {G : GT} {l : Launch} {d : Nat} {L0 : Lay} {σ0 : Sto} (hd : 1 ≤ d) {c26 : Lay → Sto → Nat → Int32 → Int32 → Int32 → Option Int32} (h26 : HF G l 2 "branchOn" cX2_branchOn 4 (some .int) d L0 σ0 (true, true) (dcPI L0 σ0) 26 (A_X2_branchOn_26 c26)) : HF G l 2 "branchOn" cX2_branchOn 4 (some .int) d L0 σ0 (true, true) (dcPI L0 σ0) 51 (A_X2_branchOn_51 (f_X2_branchOn_51 c26)) := by
  intro lc st L σ o h hI
  unfold A_X2_branchOn_51 at h
  split at h
  · obtain ⟨hq0, hA1⟩ := bif_s h
    obtain ⟨e0, hq1⟩ := beq_and hq0
    subst e0
    exact exs (sp := [26]) (K := (kc 26 (A_X2_branchOn_26 c26) k0)) ok_X2_branchOn rt_X2_branchOn (by omega) (hc_X2_branchOn G l hd) (hrPI rfl rfl) (hkc h26 hk0) 37 hA1 hI
  · cases h
set_option maxRecDepth 20000 in
theorem b_X2_branchOn_26 {G : GT} {l : Launch} {d : Nat} {L0 : Lay} {σ0 : Sto} (hd : 1 ≤ d) : ∀ k : Nat, HF G l 2 "branchOn" cX2_branchOn 4 (some .int) d L0 σ0 (true, true) (dcPI L0 σ0) 26 (A_X2_branchOn_26 (f_X2_branchOn_26 k))
  | 0 => by
    intro lc st L σ o h hI
    unfold A_X2_branchOn_26 at h
    split at h
    · obtain ⟨_, hA1⟩ := bif_s h
      cases hA1
    · cases h
  | k + 1 => by
    have ih := b_X2_branchOn_26 (G := G) (l := l) (d := d) (L0 := L0) (σ0 := σ0) hd k
    intro lc st L σ o h hI
    unfold A_X2_branchOn_26 at h
    split at h
    · obtain ⟨hq0, hA1⟩ := bif_s h
      obtain ⟨e0, hq1⟩ := beq_and hq0
      subst e0
      exact exs (sp := [51]) (K := (kc 51 (A_X2_branchOn_51 (f_X2_branchOn_51 (f_X2_branchOn_26 k))) k0)) ok_X2_branchOn rt_X2_branchOn (by omega) (hc_X2_branchOn G l hd) (hrPI rfl rfl) (hkc (b_X2_branchOn_51 hd ih) hk0) 37 hA1 hI
    · cases h
set_option maxRecDepth 20000 in
theorem ca_X2_branchOn (G : GT) (l : Launch) {d : Nat} (hd : 1 ≤ d) : CA G l 231 (true, true) d ad_X2_branchOn := by
  intro O L σ as k o h hW hok
  unfold ad_X2_branchOn at h
  split at h
  · obtain ⟨hq0, hA0⟩ := bif_s h
    obtain ⟨e0, hq1⟩ := beq_and hq0
    subst e0
    obtain ⟨r, hr, hk⟩ := Option.bind_eq_some_iff.mp hA0
    exact ca_of (q := (dcPI L σ) r) (by decide) rfl (Nat.le_of_ble_eq_true rfl) hk (fun _ => rfl) (fun _ => rfl) (exs (sp := [26]) (K := (kc 26 (A_X2_branchOn_26 (f_X2_branchOn_26 FU)) k0)) (L0 := L) (σ0 := σ) ok_X2_branchOn rt_X2_branchOn (by omega) (hc_X2_branchOn G l hd) (hrPI rfl rfl) (hkc (b_X2_branchOn_26 hd FU) hk0) 37 hr (inv0 hW hok))
  · cases h
def tt_X10_branchOn (pc : Nat) : TI := bif Nat.blt pc 10 then (bif Nat.blt pc 5 then (bif Nat.blt pc 1 then (bif Nat.beq pc 0 then (.aload_n 0, 1, (0, 0, 0), 0, 0, []) else TN) else (bif Nat.blt pc 2 then (bif Nat.beq pc 1 then (.iload_n 1, 2, (1, 0, 0), 0, 0, []) else TN) else (bif Nat.beq pc 2 then (.invokevirtual 41, 5, (53, 1, 10), 0, 0, []) else TN))) else (bif Nat.blt pc 6 then (bif Nat.beq pc 5 then (.astore_n 3, 6, (3, 0, 0), 0, 0, []) else TN) else (bif Nat.blt pc 7 then (bif Nat.beq pc 6 then (.aload_n 3, 7, (3, 0, 0), 0, 0, []) else TN) else (bif Nat.beq pc 7 then (.ifnonnull 8, 10, (15, 0, 0), 0, 0, []) else TN)))) else (bif Nat.blt pc 16 then (bif Nat.blt pc 12 then (bif Nat.beq pc 10 then (.ldc 45, 12, (0, 0, 0), -1000000005, 0, []) else TN) else (bif Nat.blt pc 15 then (bif Nat.beq pc 12 then (.goto 8, 15, (20, 0, 0), 0, 0, []) else TN) else (bif Nat.beq pc 15 then (.aload_n 3, 16, (3, 0, 0), 0, 0, []) else TN))) else (bif Nat.blt pc 17 then (bif Nat.beq pc 16 then (.iload_n 2, 17, (2, 0, 0), 0, 0, []) else TN) else (bif Nat.blt pc 20 then (bif Nat.beq pc 17 then (.invokevirtual 46, 20, (231, 1, 2), 0, 0, []) else TN) else (bif Nat.beq pc 20 then (.ireturn, 21, (0, 0, 0), 0, 0, []) else TN))))
def tb_X10_branchOn (pc : Nat) : TI := bif Nat.ble 21 pc then TN else tt_X10_branchOn pc
theorem ok_X10_branchOn : tOK 10 (decide ("branchOn" = "<init>")) cX10_branchOn tb_X10_branchOn := tOK_of 21 tn_of (by decide +kernel)
def f_X10_branchOn (L : Lay) (σ : Sto) (a0 : Nat) (a1 : Int32) (a2 : Int32) : Option Int32 := (f_X10_memberAt L σ a0 a1).bind fun o1 => (Option.elim o1 (some (-1000000005)) (fun _ => o1.bind fun x2 => (f_X2_branchOn L σ x2 a2).bind fun r3 => some r3))
def ad_X10_branchOn : ADT := fun O L σ as k => match as with
  | [.inr (.inr (.inl (ta0, some a0))), .inl a1, .inl a2] => bif Nat.beq ta0 10 && true then (f_X10_branchOn L σ a0 a1 a2).bind fun r => k (some (vI r)) L σ else none
  | _ => none
abbrev cl_X10_branchOn {O : Type} : CLT O := (clc 53 ad_X10_memberAt (clc 231 ad_X2_branchOn cl0))
theorem hc_X10_branchOn (G : GT) (l : Launch) {d : Nat} (hd : 3 ≤ d) {O : Type} : HCL G l (true, true) d (cl_X10_branchOn (O := O)) := (hclc (ca_X10_memberAt G l (d := 2) (Nat.le_refl _)) (fun _ => rfl) (fun _ => rfl) (by omega) (hclc (ca_X2_branchOn G l (d := 1) (Nat.le_refl _)) (fun _ => rfl) (fun _ => rfl) (by omega) hcl0))
theorem rt_X10_branchOn : retOK (0, 0) (some .int) := ⟨fun _ => rfl, fun h => absurd h (by decide), fun h => absurd h (by decide)⟩
set_option maxRecDepth 20000 in
theorem ca_X10_branchOn (G : GT) (l : Launch) {d : Nat} (hd : 3 ≤ d) : CA G l 46 (true, true) d ad_X10_branchOn := by
  intro O L σ as k o h hW hok
  unfold ad_X10_branchOn at h
  split at h
  · obtain ⟨hq0, hA0⟩ := bif_s h
    obtain ⟨e0, hq1⟩ := beq_and hq0
    subst e0
    obtain ⟨r, hr, hk⟩ := Option.bind_eq_some_iff.mp hA0
    exact ca_of (q := (dcPI L σ) r) (by decide) rfl (Nat.le_of_ble_eq_true rfl) hk (fun _ => rfl) (fun _ => rfl) (exs (sp := []) (K := k0) (L0 := L) (σ0 := σ) ok_X10_branchOn rt_X10_branchOn (by omega) (hc_X10_branchOn G l hd) (hrPI rfl rfl) hk0 15 hr (inv0 hW hok))
  · cases h
def tt_X11_oneIf (pc : Nat) : TI := bif Nat.blt pc 5 then (bif Nat.blt pc 1 then (bif Nat.beq pc 0 then (.iload_n 0, 1, (0, 0, 0), 0, 0, []) else TN) else (bif Nat.blt pc 4 then (bif Nat.beq pc 1 then (.ifCond .eq 7, 4, (8, 0, 0), 0, 0, []) else TN) else (bif Nat.beq pc 4 then (.iconst 1, 5, (0, 0, 0), 1, 0, []) else TN))) else (bif Nat.blt pc 8 then (bif Nat.beq pc 5 then (.goto 4, 8, (9, 0, 0), 0, 0, []) else TN) else (bif Nat.blt pc 9 then (bif Nat.beq pc 8 then (.iconst 0, 9, (0, 0, 0), 0, 0, []) else TN) else (bif Nat.beq pc 9 then (.ireturn, 10, (0, 0, 0), 0, 0, []) else TN)))
def tb_X11_oneIf (pc : Nat) : TI := bif Nat.ble 10 pc then TN else tt_X11_oneIf pc
theorem ok_X11_oneIf : tOK 11 (decide ("oneIf" = "<init>")) cX11_oneIf tb_X11_oneIf := tOK_of 10 tn_of (by decide +kernel)
def f_X11_oneIf (L : Lay) (σ : Sto) (a0 : Int32) : Option Int32 := (if a0 = 0 then some 0 else some 1)
def ad_X11_oneIf : ADT := fun O L σ as k => match as with
  | [.inl a0] => (f_X11_oneIf L σ a0).bind fun r => k (some (vI r)) L σ
  | _ => none
abbrev cl_X11_oneIf {O : Type} : CLT O := cl0
theorem hc_X11_oneIf (G : GT) (l : Launch) {d : Nat} (hd : 1 ≤ d) {O : Type} : HCL G l (true, true) d (cl_X11_oneIf (O := O)) := hcl0
theorem rt_X11_oneIf : retOK (0, 0) (some .int) := ⟨fun _ => rfl, fun h => absurd h (by decide), fun h => absurd h (by decide)⟩
set_option maxRecDepth 20000 in
theorem ca_X11_oneIf (G : GT) (l : Launch) {d : Nat} (hd : 1 ≤ d) : CA G l 100 (true, true) d ad_X11_oneIf := by
  intro O L σ as k o h hW hok
  unfold ad_X11_oneIf at h
  split at h
  · have hA0 := h
    obtain ⟨r, hr, hk⟩ := Option.bind_eq_some_iff.mp hA0
    exact ca_of (q := (dcPI L σ) r) (by decide) rfl (Nat.le_of_ble_eq_true rfl) hk (fun _ => rfl) (fun _ => rfl) (exs (sp := []) (K := k0) (L0 := L) (σ0 := σ) ok_X11_oneIf rt_X11_oneIf (by omega) (hc_X11_oneIf G l hd) (hrPI rfl rfl) hk0 9 hr (inv0 hW hok))
  · cases h
def tt_X0_entitledOf (pc : Nat) : TI := bif Nat.blt pc 22 then (bif Nat.blt pc 9 then (bif Nat.blt pc 3 then (bif Nat.blt pc 1 then (bif Nat.beq pc 0 then (.iconst 0, 1, (0, 0, 0), 0, 0, []) else TN) else (bif Nat.blt pc 2 then (bif Nat.beq pc 1 then (.istore_n 2, 2, (2, 0, 0), 0, 0, []) else TN) else (bif Nat.beq pc 2 then (.iconst 0, 3, (0, 0, 0), 0, 0, []) else TN))) else (bif Nat.blt pc 5 then (bif Nat.blt pc 4 then (bif Nat.beq pc 3 then (.istore_n 3, 4, (3, 0, 0), 0, 0, []) else TN) else (bif Nat.beq pc 4 then (.iload_n 3, 5, (3, 0, 0), 0, 0, []) else TN)) else (bif Nat.blt pc 6 then (bif Nat.beq pc 5 then (.aload_n 0, 6, (0, 0, 0), 0, 0, []) else TN) else (bif Nat.beq pc 6 then (.getfield 25, 9, (0, 0, 0), 0, 0, []) else TN)))) else (bif Nat.blt pc 16 then (bif Nat.blt pc 12 then (bif Nat.beq pc 9 then (.getfield 53, 12, (10, 3, 1), 0, 0, []) else TN) else (bif Nat.blt pc 15 then (bif Nat.beq pc 12 then (.if_icmp .ge 36, 15, (48, 0, 0), 0, 0, []) else TN) else (bif Nat.beq pc 15 then (.iload_n 2, 16, (2, 0, 0), 0, 0, []) else TN))) else (bif Nat.blt pc 20 then (bif Nat.blt pc 17 then (bif Nat.beq pc 16 then (.aload_n 0, 17, (0, 0, 0), 0, 0, []) else TN) else (bif Nat.beq pc 17 then (.getfield 25, 20, (0, 0, 0), 0, 0, []) else TN)) else (bif Nat.blt pc 21 then (bif Nat.beq pc 20 then (.iload_n 3, 21, (3, 0, 0), 0, 0, []) else TN) else (bif Nat.beq pc 21 then (.aload_n 0, 22, (0, 0, 0), 0, 0, []) else TN))))) else (bif Nat.blt pc 37 then (bif Nat.blt pc 29 then (bif Nat.blt pc 25 then (bif Nat.beq pc 22 then (.getfield 37, 25, (0, 2, 0), 0, 0, []) else TN) else (bif Nat.blt pc 28 then (bif Nat.beq pc 25 then (.invokevirtual 91, 28, (46, 2, 10), 0, 0, []) else TN) else (bif Nat.beq pc 28 then (.iload_n 1, 29, (1, 0, 0), 0, 0, []) else TN))) else (bif Nat.blt pc 33 then (bif Nat.blt pc 32 then (bif Nat.beq pc 29 then (.if_icmp .ne 7, 32, (36, 0, 0), 0, 0, []) else TN) else (bif Nat.beq pc 32 then (.iconst 1, 33, (0, 0, 0), 1, 0, []) else TN)) else (bif Nat.blt pc 36 then (bif Nat.beq pc 33 then (.goto 4, 36, (37, 0, 0), 0, 0, []) else TN) else (bif Nat.beq pc 36 then (.iconst 0, 37, (0, 0, 0), 0, 0, []) else TN)))) else (bif Nat.blt pc 42 then (bif Nat.blt pc 40 then (bif Nat.beq pc 37 then (.invokestatic 83, 40, (100, 1, 0), 0, 0, []) else TN) else (bif Nat.blt pc 41 then (bif Nat.beq pc 40 then (.iadd, 41, (0, 0, 0), 0, 0, []) else TN) else (bif Nat.beq pc 41 then (.istore_n 2, 42, (2, 0, 0), 0, 0, []) else TN))) else (bif Nat.blt pc 48 then (bif Nat.blt pc 45 then (bif Nat.beq pc 42 then (.iinc 3 1, 45, (3, 0, 0), 1, 0, []) else TN) else (bif Nat.beq pc 45 then (.goto (-41), 48, (4, 0, 0), 0, 0, []) else TN)) else (bif Nat.blt pc 49 then (bif Nat.beq pc 48 then (.iload_n 2, 49, (2, 0, 0), 0, 0, []) else TN) else (bif Nat.beq pc 49 then (.ireturn, 50, (0, 0, 0), 0, 0, []) else TN)))))
def tb_X0_entitledOf (pc : Nat) : TI := bif Nat.ble 50 pc then TN else tt_X0_entitledOf pc
theorem ok_X0_entitledOf : tOK 0 (decide ("entitledOf" = "<init>")) cX0_entitledOf tb_X0_entitledOf := tOK_of 50 tn_of (by decide +kernel)
def f_X0_entitledOf_37 (c4 : Lay → Sto → Nat → Int32 → Int32 → Int32 → Option Int32) (L : Lay) (σ : Sto) (a0 : Nat) (a1 : Int32) (a3 : Int32) (s0 : Int32) (s1 : Int32) : Option Int32 := (f_X11_oneIf L σ s0).bind fun r1 => c4 L σ a0 a1 (s1 + r1) (a3 + 1)
def A_X0_entitledOf_37 (c : Lay → Sto → Nat → Int32 → Int32 → Int32 → Int32 → Option Int32) (lc : List (Option AV)) (st : List AV) (L : Lay) (σ : Sto) : Option Int32 := match lc, st with
  | [some (.inr (.inr (.inl (ta0, some a0)))), some (.inl a1), _, some (.inl a3)], [.inl s0, .inl s1] => bif Nat.beq ta0 0 && true then c L σ a0 a1 a3 s0 s1 else none
  | _, _ => none
def f_X0_entitledOf_4 : Nat → Lay → Sto → Nat → Int32 → Int32 → Int32 → Option Int32
  | 0 => fun _ _ _ _ _ _ => none
  | k + 1 => fun L σ a0 a1 a2 a3 => (σ.2.1 a0 0).bind fun x2 => (if (σ.1 x2 3) ≤ a3 then some a2 else (σ.2.1 a0 0).bind fun x3 => (f_X10_branchOn L σ x3 a3 (σ.1 a0 2)).bind fun r4 => (if r4 = a1 then (f_X0_entitledOf_37 (f_X0_entitledOf_4 k)) L σ a0 a1 a3 1 a2 else (f_X0_entitledOf_37 (f_X0_entitledOf_4 k)) L σ a0 a1 a3 0 a2))
def A_X0_entitledOf_4 (c : Lay → Sto → Nat → Int32 → Int32 → Int32 → Option Int32) (lc : List (Option AV)) (st : List AV) (L : Lay) (σ : Sto) : Option Int32 := match lc, st with
  | [some (.inr (.inr (.inl (ta0, some a0)))), some (.inl a1), some (.inl a2), some (.inl a3)], [] => bif Nat.beq ta0 0 && true then c L σ a0 a1 a2 a3 else none
  | _, _ => none
def f_X0_entitledOf (L : Lay) (σ : Sto) (a0 : Nat) (a1 : Int32) : Option Int32 := (f_X0_entitledOf_4 FU) L σ a0 a1 0 0
def ad_X0_entitledOf : ADT := fun O L σ as k => match as with
  | [.inr (.inr (.inl (ta0, some a0))), .inl a1] => bif Nat.beq ta0 0 && true then (f_X0_entitledOf L σ a0 a1).bind fun r => k (some (vI r)) L σ else none
  | _ => none
abbrev cl_X0_entitledOf {O : Type} : CLT O := (clc 100 ad_X11_oneIf (clc 46 ad_X10_branchOn cl0))
theorem hc_X0_entitledOf (G : GT) (l : Launch) {d : Nat} (hd : 4 ≤ d) {O : Type} : HCL G l (true, true) d (cl_X0_entitledOf (O := O)) := (hclc (ca_X11_oneIf G l (d := 1) (Nat.le_refl _)) (fun _ => rfl) (fun _ => rfl) (by omega) (hclc (ca_X10_branchOn G l (d := 3) (Nat.le_refl _)) (fun _ => rfl) (fun _ => rfl) (by omega) hcl0))
theorem rt_X0_entitledOf : retOK (0, 0) (some .int) := ⟨fun _ => rfl, fun h => absurd h (by decide), fun h => absurd h (by decide)⟩
set_option maxRecDepth 20000 in
theorem b_X0_entitledOf_37 {G : GT} {l : Launch} {d : Nat} {L0 : Lay} {σ0 : Sto} (hd : 4 ≤ d) {c4 : Lay → Sto → Nat → Int32 → Int32 → Int32 → Option Int32} (h4 : HF G l 0 "entitledOf" cX0_entitledOf 4 (some .int) d L0 σ0 (true, true) (dcPI L0 σ0) 4 (A_X0_entitledOf_4 c4)) : HF G l 0 "entitledOf" cX0_entitledOf 4 (some .int) d L0 σ0 (true, true) (dcPI L0 σ0) 37 (A_X0_entitledOf_37 (f_X0_entitledOf_37 c4)) := by
  intro lc st L σ o h hI
  unfold A_X0_entitledOf_37 at h
  split at h
  · obtain ⟨hq0, hA1⟩ := bif_s h
    obtain ⟨e0, hq1⟩ := beq_and hq0
    subst e0
    exact exs (sp := [4]) (K := (kc 4 (A_X0_entitledOf_4 c4) k0)) ok_X0_entitledOf rt_X0_entitledOf (by omega) (hc_X0_entitledOf G l hd) (hrPI rfl rfl) (hkc h4 hk0) 31 hA1 hI
  · cases h
set_option maxRecDepth 20000 in
theorem b_X0_entitledOf_4 {G : GT} {l : Launch} {d : Nat} {L0 : Lay} {σ0 : Sto} (hd : 4 ≤ d) : ∀ k : Nat, HF G l 0 "entitledOf" cX0_entitledOf 4 (some .int) d L0 σ0 (true, true) (dcPI L0 σ0) 4 (A_X0_entitledOf_4 (f_X0_entitledOf_4 k))
  | 0 => by
    intro lc st L σ o h hI
    unfold A_X0_entitledOf_4 at h
    split at h
    · obtain ⟨_, hA1⟩ := bif_s h
      cases hA1
    · cases h
  | k + 1 => by
    have ih := b_X0_entitledOf_4 (G := G) (l := l) (d := d) (L0 := L0) (σ0 := σ0) hd k
    intro lc st L σ o h hI
    unfold A_X0_entitledOf_4 at h
    split at h
    · obtain ⟨hq0, hA1⟩ := bif_s h
      obtain ⟨e0, hq1⟩ := beq_and hq0
      subst e0
      exact exs (sp := [37]) (K := (kc 37 (A_X0_entitledOf_37 (f_X0_entitledOf_37 (f_X0_entitledOf_4 k))) k0)) ok_X0_entitledOf rt_X0_entitledOf (by omega) (hc_X0_entitledOf G l hd) (hrPI rfl rfl) (hkc (b_X0_entitledOf_37 hd ih) hk0) 31 hA1 hI
    · cases h
set_option maxRecDepth 20000 in
theorem ca_X0_entitledOf (G : GT) (l : Launch) {d : Nat} (hd : 4 ≤ d) : CA G l 32 (true, true) d ad_X0_entitledOf := by
  intro O L σ as k o h hW hok
  unfold ad_X0_entitledOf at h
  split at h
  · obtain ⟨hq0, hA0⟩ := bif_s h
    obtain ⟨e0, hq1⟩ := beq_and hq0
    subst e0
    obtain ⟨r, hr, hk⟩ := Option.bind_eq_some_iff.mp hA0
    exact ca_of (q := (dcPI L σ) r) (by decide) rfl (Nat.le_of_ble_eq_true rfl) hk (fun _ => rfl) (fun _ => rfl) (exs (sp := [4]) (K := (kc 4 (A_X0_entitledOf_4 (f_X0_entitledOf_4 FU)) k0)) (L0 := L) (σ0 := σ) ok_X0_entitledOf rt_X0_entitledOf (by omega) (hc_X0_entitledOf G l hd) (hrPI rfl rfl) (hkc (b_X0_entitledOf_4 hd FU) hk0) 31 hr (inv0 hW hok))
  · cases h
def tt_X0_hasBranch (pc : Nat) : TI := bif Nat.blt pc 14 then (bif Nat.blt pc 6 then (bif Nat.blt pc 2 then (bif Nat.blt pc 1 then (bif Nat.beq pc 0 then (.iload_n 1, 1, (1, 0, 0), 0, 0, []) else TN) else (bif Nat.beq pc 1 then (.iconst 0, 2, (0, 0, 0), 0, 0, []) else TN)) else (bif Nat.blt pc 3 then (bif Nat.beq pc 2 then (.iconst 5, 3, (0, 0, 0), 5, 0, []) else TN) else (bif Nat.beq pc 3 then (.invokestatic 46, 6, (83, 3, 0), 0, 0, []) else TN))) else (bif Nat.blt pc 10 then (bif Nat.blt pc 9 then (bif Nat.beq pc 6 then (.ifCond .eq 19, 9, (25, 0, 0), 0, 0, []) else TN) else (bif Nat.beq pc 9 then (.aload_n 0, 10, (0, 0, 0), 0, 0, []) else TN)) else (bif Nat.blt pc 13 then (bif Nat.beq pc 10 then (.getfield 29, 13, (0, 1, 0), 0, 0, []) else TN) else (bif Nat.beq pc 13 then (.iload_n 1, 14, (1, 0, 0), 0, 0, []) else TN)))) else (bif Nat.blt pc 18 then (bif Nat.blt pc 16 then (bif Nat.blt pc 15 then (bif Nat.beq pc 14 then (.ishr, 15, (0, 0, 0), 0, 0, []) else TN) else (bif Nat.beq pc 15 then (.iconst 1, 16, (0, 0, 0), 1, 0, []) else TN)) else (bif Nat.blt pc 17 then (bif Nat.beq pc 16 then (.iand, 17, (0, 0, 0), 0, 0, []) else TN) else (bif Nat.beq pc 17 then (.iconst 1, 18, (0, 0, 0), 1, 0, []) else TN))) else (bif Nat.blt pc 22 then (bif Nat.blt pc 21 then (bif Nat.beq pc 18 then (.if_icmp .ne 7, 21, (25, 0, 0), 0, 0, []) else TN) else (bif Nat.beq pc 21 then (.iconst 1, 22, (0, 0, 0), 1, 0, []) else TN)) else (bif Nat.blt pc 25 then (bif Nat.beq pc 22 then (.goto 4, 25, (26, 0, 0), 0, 0, []) else TN) else (bif Nat.blt pc 26 then (bif Nat.beq pc 25 then (.iconst 0, 26, (0, 0, 0), 0, 0, []) else TN) else (bif Nat.beq pc 26 then (.ireturn, 27, (0, 0, 0), 0, 0, []) else TN)))))
def tb_X0_hasBranch (pc : Nat) : TI := bif Nat.ble 27 pc then TN else tt_X0_hasBranch pc
theorem ok_X0_hasBranch : tOK 0 (decide ("hasBranch" = "<init>")) cX0_hasBranch tb_X0_hasBranch := tOK_of 27 tn_of (by decide +kernel)
def f_X0_hasBranch (L : Lay) (σ : Sto) (a0 : Nat) (a1 : Int32) : Option Int32 := (f_X11_isWithin L σ a1 0 5).bind fun r1 => (if r1 = 0 then (ckN 1 0).bind fun _ => some 0 else (if (((σ.1 a0 1) >>> (a1 &&& 31)) &&& 1) = 1 then (ckN 1 1).bind fun _ => some 1 else (ckN 1 0).bind fun _ => some 0))
def ad_X0_hasBranch : ADT := fun O L σ as k => match as with
  | [.inr (.inr (.inl (ta0, some a0))), .inl a1] => bif Nat.beq ta0 0 && true then (f_X0_hasBranch L σ a0 a1).bind fun r => k (some (vI r)) L σ else none
  | _ => none
abbrev cl_X0_hasBranch {O : Type} : CLT O := (clc 83 ad_X11_isWithin cl0)
theorem hc_X0_hasBranch (G : GT) (l : Launch) {d : Nat} (hd : 2 ≤ d) {O : Type} : HCL G l (true, true) d (cl_X0_hasBranch (O := O)) := (hclc (ca_X11_isWithin G l (d := 1) (Nat.le_refl _)) (fun _ => rfl) (fun _ => rfl) (by omega) hcl0)
theorem rt_X0_hasBranch : retOK (1, 0) (some .boolean) := ⟨fun _ => rfl, fun h => absurd h (by decide), fun h => absurd h (by decide)⟩
set_option maxRecDepth 20000 in
theorem ca_X0_hasBranch (G : GT) (l : Launch) {d : Nat} (hd : 2 ≤ d) : CA G l 33 (true, true) d ad_X0_hasBranch := by
  intro O L σ as k o h hW hok
  unfold ad_X0_hasBranch at h
  split at h
  · obtain ⟨hq0, hA0⟩ := bif_s h
    obtain ⟨e0, hq1⟩ := beq_and hq0
    subst e0
    obtain ⟨r, hr, hk⟩ := Option.bind_eq_some_iff.mp hA0
    exact ca_of (q := (dcPI L σ) r) (by decide) rfl (Nat.le_of_ble_eq_true rfl) hk (fun _ => rfl) (fun _ => rfl) (exs (sp := []) (K := k0) (L0 := L) (σ0 := σ) ok_X0_hasBranch rt_X0_hasBranch (by omega) (hc_X0_hasBranch G l hd) (hrPI rfl rfl) hk0 20 hr (inv0 hW hok))
  · cases h
def tt_X0_hasClosed (pc : Nat) : TI := bif Nat.blt pc 10 then (bif Nat.blt pc 4 then (bif Nat.blt pc 1 then (bif Nat.beq pc 0 then (.aload_n 0, 1, (0, 0, 0), 0, 0, []) else TN) else (bif Nat.beq pc 1 then (.getfield 9, 4, (0, 3, 0), 0, 0, []) else TN)) else (bif Nat.blt pc 7 then (bif Nat.beq pc 4 then (.sipush 401, 7, (0, 0, 0), 401, 0, []) else TN) else (bif Nat.beq pc 7 then (.if_icmp .eq 7, 10, (14, 0, 0), 0, 0, []) else TN))) else (bif Nat.blt pc 14 then (bif Nat.blt pc 11 then (bif Nat.beq pc 10 then (.iconst 1, 11, (0, 0, 0), 1, 0, []) else TN) else (bif Nat.beq pc 11 then (.goto 4, 14, (15, 0, 0), 0, 0, []) else TN)) else (bif Nat.blt pc 15 then (bif Nat.beq pc 14 then (.iconst 0, 15, (0, 0, 0), 0, 0, []) else TN) else (bif Nat.beq pc 15 then (.ireturn, 16, (0, 0, 0), 0, 0, []) else TN)))
def tb_X0_hasClosed (pc : Nat) : TI := bif Nat.ble 16 pc then TN else tt_X0_hasClosed pc
theorem ok_X0_hasClosed : tOK 0 (decide ("hasClosed" = "<init>")) cX0_hasClosed tb_X0_hasClosed := tOK_of 16 tn_of (by decide +kernel)
def f_X0_hasClosed (L : Lay) (σ : Sto) (a0 : Nat) : Option Int32 := (if (σ.1 a0 3) = 401 then (ckN 1 0).bind fun _ => some 0 else (ckN 1 1).bind fun _ => some 1)
def ad_X0_hasClosed : ADT := fun O L σ as k => match as with
  | [.inr (.inr (.inl (ta0, some a0)))] => bif Nat.beq ta0 0 && true then (f_X0_hasClosed L σ a0).bind fun r => k (some (vI r)) L σ else none
  | _ => none
abbrev cl_X0_hasClosed {O : Type} : CLT O := cl0
theorem hc_X0_hasClosed (G : GT) (l : Launch) {d : Nat} (hd : 1 ≤ d) {O : Type} : HCL G l (true, true) d (cl_X0_hasClosed (O := O)) := hcl0
theorem rt_X0_hasClosed : retOK (1, 0) (some .boolean) := ⟨fun _ => rfl, fun h => absurd h (by decide), fun h => absurd h (by decide)⟩
set_option maxRecDepth 20000 in
theorem ca_X0_hasClosed (G : GT) (l : Launch) {d : Nat} (hd : 1 ≤ d) : CA G l 34 (true, true) d ad_X0_hasClosed := by
  intro O L σ as k o h hW hok
  unfold ad_X0_hasClosed at h
  split at h
  · obtain ⟨hq0, hA0⟩ := bif_s h
    obtain ⟨e0, hq1⟩ := beq_and hq0
    subst e0
    obtain ⟨r, hr, hk⟩ := Option.bind_eq_some_iff.mp hA0
    exact ca_of (q := (dcPI L σ) r) (by decide) rfl (Nat.le_of_ble_eq_true rfl) hk (fun _ => rfl) (fun _ => rfl) (exs (sp := []) (K := k0) (L0 := L) (σ0 := σ) ok_X0_hasClosed rt_X0_hasClosed (by omega) (hc_X0_hasClosed G l hd) (hrPI rfl rfl) hk0 11 hr (inv0 hW hok))
  · cases h
def tt_X0_hasHeard (pc : Nat) : TI := bif Nat.blt pc 14 then (bif Nat.blt pc 4 then (bif Nat.blt pc 1 then (bif Nat.beq pc 0 then (.iload_n 1, 1, (1, 0, 0), 0, 0, []) else TN) else (bif Nat.blt pc 2 then (bif Nat.beq pc 1 then (.iconst 0, 2, (0, 0, 0), 0, 0, []) else TN) else (bif Nat.beq pc 2 then (.bipush 39, 4, (0, 0, 0), 39, 0, []) else TN))) else (bif Nat.blt pc 10 then (bif Nat.blt pc 7 then (bif Nat.beq pc 4 then (.invokestatic 46, 7, (83, 3, 0), 0, 0, []) else TN) else (bif Nat.beq pc 7 then (.ifCond .eq 19, 10, (26, 0, 0), 0, 0, []) else TN)) else (bif Nat.blt pc 11 then (bif Nat.beq pc 10 then (.aload_n 0, 11, (0, 0, 0), 0, 0, []) else TN) else (bif Nat.beq pc 11 then (.getfield 19, 14, (0, 6, 0), 0, 0, []) else TN)))) else (bif Nat.blt pc 22 then (bif Nat.blt pc 16 then (bif Nat.blt pc 15 then (bif Nat.beq pc 14 then (.iload_n 1, 15, (1, 0, 0), 0, 0, []) else TN) else (bif Nat.beq pc 15 then (.iaload, 16, (0, 0, 0), 0, 0, []) else TN)) else (bif Nat.blt pc 19 then (bif Nat.beq pc 16 then (.sipush 401, 19, (0, 0, 0), 401, 0, []) else TN) else (bif Nat.beq pc 19 then (.if_icmp .eq 7, 22, (26, 0, 0), 0, 0, []) else TN))) else (bif Nat.blt pc 26 then (bif Nat.blt pc 23 then (bif Nat.beq pc 22 then (.iconst 1, 23, (0, 0, 0), 1, 0, []) else TN) else (bif Nat.beq pc 23 then (.goto 4, 26, (27, 0, 0), 0, 0, []) else TN)) else (bif Nat.blt pc 27 then (bif Nat.beq pc 26 then (.iconst 0, 27, (0, 0, 0), 0, 0, []) else TN) else (bif Nat.beq pc 27 then (.ireturn, 28, (0, 0, 0), 0, 0, []) else TN))))
def tb_X0_hasHeard (pc : Nat) : TI := bif Nat.ble 28 pc then TN else tt_X0_hasHeard pc
theorem ok_X0_hasHeard : tOK 0 (decide ("hasHeard" = "<init>")) cX0_hasHeard tb_X0_hasHeard := tOK_of 28 tn_of (by decide +kernel)
def f_X0_hasHeard (L : Lay) (σ : Sto) (a0 : Nat) (a1 : Int32) : Option Int32 := (f_X11_isWithin L σ a1 0 39).bind fun r1 => (if r1 = 0 then (ckN 1 0).bind fun _ => some 0 else (σ.2.1 a0 6).bind fun x2 => (rI L σ x2 a1).bind fun v3 => (if v3 = 401 then (ckN 1 0).bind fun _ => some 0 else (ckN 1 1).bind fun _ => some 1))
def ad_X0_hasHeard : ADT := fun O L σ as k => match as with
  | [.inr (.inr (.inl (ta0, some a0))), .inl a1] => bif Nat.beq ta0 0 && true then (f_X0_hasHeard L σ a0 a1).bind fun r => k (some (vI r)) L σ else none
  | _ => none
abbrev cl_X0_hasHeard {O : Type} : CLT O := (clc 83 ad_X11_isWithin cl0)
theorem hc_X0_hasHeard (G : GT) (l : Launch) {d : Nat} (hd : 2 ≤ d) {O : Type} : HCL G l (true, true) d (cl_X0_hasHeard (O := O)) := (hclc (ca_X11_isWithin G l (d := 1) (Nat.le_refl _)) (fun _ => rfl) (fun _ => rfl) (by omega) hcl0)
theorem rt_X0_hasHeard : retOK (1, 0) (some .boolean) := ⟨fun _ => rfl, fun h => absurd h (by decide), fun h => absurd h (by decide)⟩
set_option maxRecDepth 20000 in
theorem ca_X0_hasHeard (G : GT) (l : Launch) {d : Nat} (hd : 2 ≤ d) : CA G l 35 (true, true) d ad_X0_hasHeard := by
  intro O L σ as k o h hW hok
  unfold ad_X0_hasHeard at h
  split at h
  · obtain ⟨hq0, hA0⟩ := bif_s h
    obtain ⟨e0, hq1⟩ := beq_and hq0
    subst e0
    obtain ⟨r, hr, hk⟩ := Option.bind_eq_some_iff.mp hA0
    exact ca_of (q := (dcPI L σ) r) (by decide) rfl (Nat.le_of_ble_eq_true rfl) hk (fun _ => rfl) (fun _ => rfl) (exs (sp := []) (K := k0) (L0 := L) (σ0 := σ) ok_X0_hasHeard rt_X0_hasHeard (by omega) (hc_X0_hasHeard G l hd) (hrPI rfl rfl) hk0 18 hr (inv0 hW hok))
  · cases h
def tt_X0_hasSent (pc : Nat) : TI := bif Nat.blt pc 14 then (bif Nat.blt pc 4 then (bif Nat.blt pc 1 then (bif Nat.beq pc 0 then (.iload_n 1, 1, (1, 0, 0), 0, 0, []) else TN) else (bif Nat.blt pc 2 then (bif Nat.beq pc 1 then (.iconst 0, 2, (0, 0, 0), 0, 0, []) else TN) else (bif Nat.beq pc 2 then (.bipush 39, 4, (0, 0, 0), 39, 0, []) else TN))) else (bif Nat.blt pc 10 then (bif Nat.blt pc 7 then (bif Nat.beq pc 4 then (.invokestatic 46, 7, (83, 3, 0), 0, 0, []) else TN) else (bif Nat.beq pc 7 then (.ifCond .eq 19, 10, (26, 0, 0), 0, 0, []) else TN)) else (bif Nat.blt pc 11 then (bif Nat.beq pc 10 then (.aload_n 0, 11, (0, 0, 0), 0, 0, []) else TN) else (bif Nat.beq pc 11 then (.getfield 15, 14, (0, 5, 0), 0, 0, []) else TN)))) else (bif Nat.blt pc 22 then (bif Nat.blt pc 16 then (bif Nat.blt pc 15 then (bif Nat.beq pc 14 then (.iload_n 1, 15, (1, 0, 0), 0, 0, []) else TN) else (bif Nat.beq pc 15 then (.iaload, 16, (0, 0, 0), 0, 0, []) else TN)) else (bif Nat.blt pc 19 then (bif Nat.beq pc 16 then (.sipush 401, 19, (0, 0, 0), 401, 0, []) else TN) else (bif Nat.beq pc 19 then (.if_icmp .eq 7, 22, (26, 0, 0), 0, 0, []) else TN))) else (bif Nat.blt pc 26 then (bif Nat.blt pc 23 then (bif Nat.beq pc 22 then (.iconst 1, 23, (0, 0, 0), 1, 0, []) else TN) else (bif Nat.beq pc 23 then (.goto 4, 26, (27, 0, 0), 0, 0, []) else TN)) else (bif Nat.blt pc 27 then (bif Nat.beq pc 26 then (.iconst 0, 27, (0, 0, 0), 0, 0, []) else TN) else (bif Nat.beq pc 27 then (.ireturn, 28, (0, 0, 0), 0, 0, []) else TN))))
def tb_X0_hasSent (pc : Nat) : TI := bif Nat.ble 28 pc then TN else tt_X0_hasSent pc
theorem ok_X0_hasSent : tOK 0 (decide ("hasSent" = "<init>")) cX0_hasSent tb_X0_hasSent := tOK_of 28 tn_of (by decide +kernel)
def f_X0_hasSent (L : Lay) (σ : Sto) (a0 : Nat) (a1 : Int32) : Option Int32 := (f_X11_isWithin L σ a1 0 39).bind fun r1 => (if r1 = 0 then (ckN 1 0).bind fun _ => some 0 else (σ.2.1 a0 5).bind fun x2 => (rI L σ x2 a1).bind fun v3 => (if v3 = 401 then (ckN 1 0).bind fun _ => some 0 else (ckN 1 1).bind fun _ => some 1))
def ad_X0_hasSent : ADT := fun O L σ as k => match as with
  | [.inr (.inr (.inl (ta0, some a0))), .inl a1] => bif Nat.beq ta0 0 && true then (f_X0_hasSent L σ a0 a1).bind fun r => k (some (vI r)) L σ else none
  | _ => none
abbrev cl_X0_hasSent {O : Type} : CLT O := (clc 83 ad_X11_isWithin cl0)
theorem hc_X0_hasSent (G : GT) (l : Launch) {d : Nat} (hd : 2 ≤ d) {O : Type} : HCL G l (true, true) d (cl_X0_hasSent (O := O)) := (hclc (ca_X11_isWithin G l (d := 1) (Nat.le_refl _)) (fun _ => rfl) (fun _ => rfl) (by omega) hcl0)
theorem rt_X0_hasSent : retOK (1, 0) (some .boolean) := ⟨fun _ => rfl, fun h => absurd h (by decide), fun h => absurd h (by decide)⟩
set_option maxRecDepth 20000 in
theorem ca_X0_hasSent (G : GT) (l : Launch) {d : Nat} (hd : 2 ≤ d) : CA G l 36 (true, true) d ad_X0_hasSent := by
  intro O L σ as k o h hW hok
  unfold ad_X0_hasSent at h
  split at h
  · obtain ⟨hq0, hA0⟩ := bif_s h
    obtain ⟨e0, hq1⟩ := beq_and hq0
    subst e0
    obtain ⟨r, hr, hk⟩ := Option.bind_eq_some_iff.mp hA0
    exact ca_of (q := (dcPI L σ) r) (by decide) rfl (Nat.le_of_ble_eq_true rfl) hk (fun _ => rfl) (fun _ => rfl) (exs (sp := []) (K := k0) (L0 := L) (σ0 := σ) ok_X0_hasSent rt_X0_hasSent (by omega) (hc_X0_hasSent G l hd) (hrPI rfl rfl) hk0 18 hr (inv0 hW hok))
  · cases h
def tt_X0_hear (pc : Nat) : TI := bif Nat.blt pc 16 then (bif Nat.blt pc 7 then (bif Nat.blt pc 2 then (bif Nat.blt pc 1 then (bif Nat.beq pc 0 then (.iload_n 1, 1, (1, 0, 0), 0, 0, []) else TN) else (bif Nat.beq pc 1 then (.iconst 0, 2, (0, 0, 0), 0, 0, []) else TN)) else (bif Nat.blt pc 4 then (bif Nat.beq pc 2 then (.bipush 39, 4, (0, 0, 0), 39, 0, []) else TN) else (bif Nat.beq pc 4 then (.invokestatic 46, 7, (83, 3, 0), 0, 0, []) else TN))) else (bif Nat.blt pc 11 then (bif Nat.blt pc 10 then (bif Nat.beq pc 7 then (.ifCond .eq 23, 10, (30, 0, 0), 0, 0, []) else TN) else (bif Nat.beq pc 10 then (.aload_n 0, 11, (0, 0, 0), 0, 0, []) else TN)) else (bif Nat.blt pc 14 then (bif Nat.beq pc 11 then (.getfield 19, 14, (0, 6, 0), 0, 0, []) else TN) else (bif Nat.blt pc 15 then (bif Nat.beq pc 14 then (.iload_n 1, 15, (1, 0, 0), 0, 0, []) else TN) else (bif Nat.beq pc 15 then (.aload_n 0, 16, (0, 0, 0), 0, 0, []) else TN))))) else (bif Nat.blt pc 24 then (bif Nat.blt pc 22 then (bif Nat.blt pc 19 then (bif Nat.beq pc 16 then (.getfield 25, 19, (0, 0, 0), 0, 0, []) else TN) else (bif Nat.beq pc 19 then (.getfield 32, 22, (10, 4, 1), 0, 0, []) else TN)) else (bif Nat.blt pc 23 then (bif Nat.beq pc 22 then (.iastore, 23, (0, 0, 0), 0, 0, []) else TN) else (bif Nat.beq pc 23 then (.aload_n 0, 24, (0, 0, 0), 0, 0, []) else TN))) else (bif Nat.blt pc 28 then (bif Nat.blt pc 27 then (bif Nat.beq pc 24 then (.getfield 22, 27, (0, 7, 0), 0, 0, []) else TN) else (bif Nat.beq pc 27 then (.iload_n 1, 28, (1, 0, 0), 0, 0, []) else TN)) else (bif Nat.blt pc 29 then (bif Nat.beq pc 28 then (.iload_n 2, 29, (2, 0, 0), 0, 0, []) else TN) else (bif Nat.blt pc 30 then (bif Nat.beq pc 29 then (.iastore, 30, (0, 0, 0), 0, 0, []) else TN) else (bif Nat.beq pc 30 then (.return_, 31, (0, 0, 0), 0, 0, []) else TN)))))
def tb_X0_hear (pc : Nat) : TI := bif Nat.ble 31 pc then TN else tt_X0_hear pc
theorem ok_X0_hear : tOK 0 (decide ("hear" = "<init>")) cX0_hear tb_X0_hear := tOK_of 31 tn_of (by decide +kernel)
def f_X0_hear (L : Lay) (σ : Sto) (a0 : Nat) (a1 : Int32) (a2 : Int32) : Option Sto := (f_X11_isWithin L σ a1 0 39).bind fun r1 => (if r1 = 0 then some σ else (σ.2.1 a0 0).bind fun x2 => (σ.2.1 a0 6).bind fun x3 => (wI L σ x3 a1 (σ.1 x2 4)).bind fun σ4 => (σ4.2.1 a0 7).bind fun x5 => (wI L σ4 x5 a1 a2).bind fun σ6 => some σ6)
def ad_X0_hear : ADT := fun O L σ as k => match as with
  | [.inr (.inr (.inl (ta0, some a0))), .inl a1, .inl a2] => bif Nat.beq ta0 0 && true then (f_X0_hear L σ a0 a1 a2).bind fun σ2 => k none L σ2 else none
  | _ => none
abbrev cl_X0_hear {O : Type} : CLT O := (clc 83 ad_X11_isWithin cl0)
theorem hc_X0_hear (G : GT) (l : Launch) {d : Nat} (hd : 2 ≤ d) {O : Type} : HCL G l (true, false) d (cl_X0_hear (O := O)) := (hclc (ca_X11_isWithin G l (d := 1) (Nat.le_refl _)) (fun _ => rfl) (fun e => by cases e) (by omega) hcl0)
theorem rt_X0_hear : retOK (6, 0) none := ⟨fun h => absurd h (by decide), fun h => absurd h (by decide), fun _ => rfl⟩
set_option maxRecDepth 20000 in
theorem ca_X0_hear (G : GT) (l : Launch) {d : Nat} (hd : 2 ≤ d) : CA G l 37 (true, false) d ad_X0_hear := by
  intro O L σ as k o h hW hok
  unfold ad_X0_hear at h
  split at h
  · obtain ⟨hq0, hA0⟩ := bif_s h
    obtain ⟨e0, hq1⟩ := beq_and hq0
    subst e0
    obtain ⟨r, hr, hk⟩ := Option.bind_eq_some_iff.mp hA0
    exact ca_of (q := (dcV L) r) (by decide) rfl (Nat.le_of_ble_eq_true rfl) hk (fun _ => rfl) (fun e => by cases e) (exs (sp := []) (K := k0) (L0 := L) (σ0 := σ) ok_X0_hear rt_X0_hear (by omega) (hc_X0_hear G l hd) (hrV rfl) hk0 21 hr (inv0 hW hok))
  · cases h
def tt_X0_heardOf (pc : Nat) : TI := bif Nat.blt pc 40 then (bif Nat.blt pc 19 then (bif Nat.blt pc 7 then (bif Nat.blt pc 2 then (bif Nat.blt pc 1 then (bif Nat.beq pc 0 then (.iconst 0, 1, (0, 0, 0), 0, 0, []) else TN) else (bif Nat.beq pc 1 then (.istore_n 3, 2, (3, 0, 0), 0, 0, []) else TN)) else (bif Nat.blt pc 3 then (bif Nat.beq pc 2 then (.iconst 0, 3, (0, 0, 0), 0, 0, []) else TN) else (bif Nat.blt pc 5 then (bif Nat.beq pc 3 then (.istore 4, 5, (4, 0, 0), 0, 0, []) else TN) else (bif Nat.beq pc 5 then (.iload 4, 7, (4, 0, 0), 0, 0, []) else TN)))) else (bif Nat.blt pc 11 then (bif Nat.blt pc 8 then (bif Nat.beq pc 7 then (.aload_n 0, 8, (0, 0, 0), 0, 0, []) else TN) else (bif Nat.beq pc 8 then (.getfield 25, 11, (0, 0, 0), 0, 0, []) else TN)) else (bif Nat.blt pc 14 then (bif Nat.beq pc 11 then (.getfield 53, 14, (10, 3, 1), 0, 0, []) else TN) else (bif Nat.blt pc 17 then (bif Nat.beq pc 14 then (.if_icmp .ge 64, 17, (78, 0, 0), 0, 0, []) else TN) else (bif Nat.beq pc 17 then (.iload 4, 19, (4, 0, 0), 0, 0, []) else TN))))) else (bif Nat.blt pc 28 then (bif Nat.blt pc 24 then (bif Nat.blt pc 21 then (bif Nat.beq pc 19 then (.bipush 40, 21, (0, 0, 0), 40, 0, []) else TN) else (bif Nat.beq pc 21 then (.if_icmp .ge 57, 24, (78, 0, 0), 0, 0, []) else TN)) else (bif Nat.blt pc 25 then (bif Nat.beq pc 24 then (.iload_n 3, 25, (3, 0, 0), 0, 0, []) else TN) else (bif Nat.blt pc 26 then (bif Nat.beq pc 25 then (.aload_n 0, 26, (0, 0, 0), 0, 0, []) else TN) else (bif Nat.beq pc 26 then (.iload 4, 28, (4, 0, 0), 0, 0, []) else TN)))) else (bif Nat.blt pc 34 then (bif Nat.blt pc 31 then (bif Nat.beq pc 28 then (.invokevirtual 95, 31, (35, 1, 0), 0, 0, []) else TN) else (bif Nat.beq pc 31 then (.ifCond .eq 35, 34, (66, 0, 0), 0, 0, []) else TN)) else (bif Nat.blt pc 35 then (bif Nat.beq pc 34 then (.aload_n 0, 35, (0, 0, 0), 0, 0, []) else TN) else (bif Nat.blt pc 38 then (bif Nat.beq pc 35 then (.getfield 22, 38, (0, 7, 0), 0, 0, []) else TN) else (bif Nat.beq pc 38 then (.iload 4, 40, (4, 0, 0), 0, 0, []) else TN)))))) else (bif Nat.blt pc 59 then (bif Nat.blt pc 49 then (bif Nat.blt pc 42 then (bif Nat.blt pc 41 then (bif Nat.beq pc 40 then (.iaload, 41, (0, 0, 0), 0, 0, []) else TN) else (bif Nat.beq pc 41 then (.iload_n 2, 42, (2, 0, 0), 0, 0, []) else TN)) else (bif Nat.blt pc 45 then (bif Nat.beq pc 42 then (.if_icmp .ne 24, 45, (66, 0, 0), 0, 0, []) else TN) else (bif Nat.blt pc 46 then (bif Nat.beq pc 45 then (.aload_n 0, 46, (0, 0, 0), 0, 0, []) else TN) else (bif Nat.beq pc 46 then (.getfield 25, 49, (0, 0, 0), 0, 0, []) else TN)))) else (bif Nat.blt pc 52 then (bif Nat.blt pc 51 then (bif Nat.beq pc 49 then (.iload 4, 51, (4, 0, 0), 0, 0, []) else TN) else (bif Nat.beq pc 51 then (.aload_n 0, 52, (0, 0, 0), 0, 0, []) else TN)) else (bif Nat.blt pc 55 then (bif Nat.beq pc 52 then (.getfield 37, 55, (0, 2, 0), 0, 0, []) else TN) else (bif Nat.blt pc 58 then (bif Nat.beq pc 55 then (.invokevirtual 91, 58, (46, 2, 10), 0, 0, []) else TN) else (bif Nat.beq pc 58 then (.iload_n 1, 59, (1, 0, 0), 0, 0, []) else TN))))) else (bif Nat.blt pc 70 then (bif Nat.blt pc 63 then (bif Nat.blt pc 62 then (bif Nat.beq pc 59 then (.if_icmp .ne 7, 62, (66, 0, 0), 0, 0, []) else TN) else (bif Nat.beq pc 62 then (.iconst 1, 63, (0, 0, 0), 1, 0, []) else TN)) else (bif Nat.blt pc 66 then (bif Nat.beq pc 63 then (.goto 4, 66, (67, 0, 0), 0, 0, []) else TN) else (bif Nat.blt pc 67 then (bif Nat.beq pc 66 then (.iconst 0, 67, (0, 0, 0), 0, 0, []) else TN) else (bif Nat.beq pc 67 then (.invokestatic 83, 70, (100, 1, 0), 0, 0, []) else TN)))) else (bif Nat.blt pc 75 then (bif Nat.blt pc 71 then (bif Nat.beq pc 70 then (.iadd, 71, (0, 0, 0), 0, 0, []) else TN) else (bif Nat.blt pc 72 then (bif Nat.beq pc 71 then (.istore_n 3, 72, (3, 0, 0), 0, 0, []) else TN) else (bif Nat.beq pc 72 then (.iinc 4 1, 75, (4, 0, 0), 1, 0, []) else TN))) else (bif Nat.blt pc 78 then (bif Nat.beq pc 75 then (.goto (-70), 78, (5, 0, 0), 0, 0, []) else TN) else (bif Nat.blt pc 79 then (bif Nat.beq pc 78 then (.iload_n 3, 79, (3, 0, 0), 0, 0, []) else TN) else (bif Nat.beq pc 79 then (.ireturn, 80, (0, 0, 0), 0, 0, []) else TN))))))
def tb_X0_heardOf (pc : Nat) : TI := bif Nat.ble 80 pc then TN else tt_X0_heardOf pc
theorem ok_X0_heardOf : tOK 0 (decide ("heardOf" = "<init>")) cX0_heardOf tb_X0_heardOf := tOK_of 80 tn_of (by decide +kernel)
def f_X0_heardOf_67 (c5 : Lay → Sto → Nat → Int32 → Int32 → Int32 → Int32 → Option Int32) (L : Lay) (σ : Sto) (a0 : Nat) (a1 : Int32) (a2 : Int32) (a4 : Int32) (s0 : Int32) (s1 : Int32) : Option Int32 := (f_X11_oneIf L σ s0).bind fun r1 => c5 L σ a0 a1 a2 (s1 + r1) (a4 + 1)
def A_X0_heardOf_67 (c : Lay → Sto → Nat → Int32 → Int32 → Int32 → Int32 → Int32 → Option Int32) (lc : List (Option AV)) (st : List AV) (L : Lay) (σ : Sto) : Option Int32 := match lc, st with
  | [some (.inr (.inr (.inl (ta0, some a0)))), some (.inl a1), some (.inl a2), _, some (.inl a4)], [.inl s0, .inl s1] => bif Nat.beq ta0 0 && true then c L σ a0 a1 a2 a4 s0 s1 else none
  | _, _ => none
def f_X0_heardOf_66 (c5 : Lay → Sto → Nat → Int32 → Int32 → Int32 → Int32 → Option Int32) (L : Lay) (σ : Sto) (a0 : Nat) (a1 : Int32) (a2 : Int32) (a4 : Int32) (s0 : Int32) : Option Int32 := (f_X0_heardOf_67 c5) L σ a0 a1 a2 a4 0 s0
def A_X0_heardOf_66 (c : Lay → Sto → Nat → Int32 → Int32 → Int32 → Int32 → Option Int32) (lc : List (Option AV)) (st : List AV) (L : Lay) (σ : Sto) : Option Int32 := match lc, st with
  | [some (.inr (.inr (.inl (ta0, some a0)))), some (.inl a1), some (.inl a2), _, some (.inl a4)], [.inl s0] => bif Nat.beq ta0 0 && true then c L σ a0 a1 a2 a4 s0 else none
  | _, _ => none
def f_X0_heardOf_5 : Nat → Lay → Sto → Nat → Int32 → Int32 → Int32 → Int32 → Option Int32
  | 0 => fun _ _ _ _ _ _ _ => none
  | k + 1 => fun L σ a0 a1 a2 a3 a4 => (σ.2.1 a0 0).bind fun x2 => (if (σ.1 x2 3) ≤ a4 then some a3 else (if 40 ≤ a4 then some a3 else (f_X0_hasHeard L σ a0 a4).bind fun r3 => (if r3 = 0 then (f_X0_heardOf_66 (f_X0_heardOf_5 k)) L σ a0 a1 a2 a4 a3 else (σ.2.1 a0 7).bind fun x4 => (rI L σ x4 a4).bind fun v5 => (if v5 = a2 then (σ.2.1 a0 0).bind fun x6 => (f_X10_branchOn L σ x6 a4 (σ.1 a0 2)).bind fun r7 => (if r7 = a1 then (f_X0_heardOf_67 (f_X0_heardOf_5 k)) L σ a0 a1 a2 a4 1 a3 else (f_X0_heardOf_66 (f_X0_heardOf_5 k)) L σ a0 a1 a2 a4 a3) else (f_X0_heardOf_66 (f_X0_heardOf_5 k)) L σ a0 a1 a2 a4 a3))))
def A_X0_heardOf_5 (c : Lay → Sto → Nat → Int32 → Int32 → Int32 → Int32 → Option Int32) (lc : List (Option AV)) (st : List AV) (L : Lay) (σ : Sto) : Option Int32 := match lc, st with
  | [some (.inr (.inr (.inl (ta0, some a0)))), some (.inl a1), some (.inl a2), some (.inl a3), some (.inl a4)], [] => bif Nat.beq ta0 0 && true then c L σ a0 a1 a2 a3 a4 else none
  | _, _ => none
def f_X0_heardOf (L : Lay) (σ : Sto) (a0 : Nat) (a1 : Int32) (a2 : Int32) : Option Int32 := (f_X0_heardOf_5 FU) L σ a0 a1 a2 0 0
def ad_X0_heardOf : ADT := fun O L σ as k => match as with
  | [.inr (.inr (.inl (ta0, some a0))), .inl a1, .inl a2] => bif Nat.beq ta0 0 && true then (f_X0_heardOf L σ a0 a1 a2).bind fun r => k (some (vI r)) L σ else none
  | _ => none
abbrev cl_X0_heardOf {O : Type} : CLT O := (clc 100 ad_X11_oneIf (clc 35 ad_X0_hasHeard (clc 46 ad_X10_branchOn cl0)))
theorem hc_X0_heardOf (G : GT) (l : Launch) {d : Nat} (hd : 4 ≤ d) {O : Type} : HCL G l (true, true) d (cl_X0_heardOf (O := O)) := (hclc (ca_X11_oneIf G l (d := 1) (Nat.le_refl _)) (fun _ => rfl) (fun _ => rfl) (by omega) (hclc (ca_X0_hasHeard G l (d := 2) (Nat.le_refl _)) (fun _ => rfl) (fun _ => rfl) (by omega) (hclc (ca_X10_branchOn G l (d := 3) (Nat.le_refl _)) (fun _ => rfl) (fun _ => rfl) (by omega) hcl0)))
theorem rt_X0_heardOf : retOK (0, 0) (some .int) := ⟨fun _ => rfl, fun h => absurd h (by decide), fun h => absurd h (by decide)⟩
set_option maxRecDepth 20000 in
theorem b_X0_heardOf_67 {G : GT} {l : Launch} {d : Nat} {L0 : Lay} {σ0 : Sto} (hd : 4 ≤ d) {c5 : Lay → Sto → Nat → Int32 → Int32 → Int32 → Int32 → Option Int32} (h5 : HF G l 0 "heardOf" cX0_heardOf 5 (some .int) d L0 σ0 (true, true) (dcPI L0 σ0) 5 (A_X0_heardOf_5 c5)) : HF G l 0 "heardOf" cX0_heardOf 5 (some .int) d L0 σ0 (true, true) (dcPI L0 σ0) 67 (A_X0_heardOf_67 (f_X0_heardOf_67 c5)) := by
  intro lc st L σ o h hI
  unfold A_X0_heardOf_67 at h
  split at h
  · obtain ⟨hq0, hA1⟩ := bif_s h
    obtain ⟨e0, hq1⟩ := beq_and hq0
    subst e0
    exact exs (sp := [5]) (K := (kc 5 (A_X0_heardOf_5 c5) k0)) ok_X0_heardOf rt_X0_heardOf (by omega) (hc_X0_heardOf G l hd) (hrPI rfl rfl) (hkc h5 hk0) 44 hA1 hI
  · cases h
set_option maxRecDepth 20000 in
theorem b_X0_heardOf_66 {G : GT} {l : Launch} {d : Nat} {L0 : Lay} {σ0 : Sto} (hd : 4 ≤ d) {c5 : Lay → Sto → Nat → Int32 → Int32 → Int32 → Int32 → Option Int32} (h5 : HF G l 0 "heardOf" cX0_heardOf 5 (some .int) d L0 σ0 (true, true) (dcPI L0 σ0) 5 (A_X0_heardOf_5 c5)) : HF G l 0 "heardOf" cX0_heardOf 5 (some .int) d L0 σ0 (true, true) (dcPI L0 σ0) 66 (A_X0_heardOf_66 (f_X0_heardOf_66 c5)) := by
  intro lc st L σ o h hI
  unfold A_X0_heardOf_66 at h
  split at h
  · obtain ⟨hq0, hA1⟩ := bif_s h
    obtain ⟨e0, hq1⟩ := beq_and hq0
    subst e0
    exact exs (sp := [67]) (K := (kc 67 (A_X0_heardOf_67 (f_X0_heardOf_67 c5)) k0)) ok_X0_heardOf rt_X0_heardOf (by omega) (hc_X0_heardOf G l hd) (hrPI rfl rfl) (hkc (b_X0_heardOf_67 hd h5) hk0) 44 hA1 hI
  · cases h
set_option maxRecDepth 20000 in
theorem b_X0_heardOf_5 {G : GT} {l : Launch} {d : Nat} {L0 : Lay} {σ0 : Sto} (hd : 4 ≤ d) : ∀ k : Nat, HF G l 0 "heardOf" cX0_heardOf 5 (some .int) d L0 σ0 (true, true) (dcPI L0 σ0) 5 (A_X0_heardOf_5 (f_X0_heardOf_5 k))
  | 0 => by
    intro lc st L σ o h hI
    unfold A_X0_heardOf_5 at h
    split at h
    · obtain ⟨_, hA1⟩ := bif_s h
      cases hA1
    · cases h
  | k + 1 => by
    have ih := b_X0_heardOf_5 (G := G) (l := l) (d := d) (L0 := L0) (σ0 := σ0) hd k
    intro lc st L σ o h hI
    unfold A_X0_heardOf_5 at h
    split at h
    · obtain ⟨hq0, hA1⟩ := bif_s h
      obtain ⟨e0, hq1⟩ := beq_and hq0
      subst e0
      exact exs (sp := [66, 67]) (K := (kc 66 (A_X0_heardOf_66 (f_X0_heardOf_66 (f_X0_heardOf_5 k))) (kc 67 (A_X0_heardOf_67 (f_X0_heardOf_67 (f_X0_heardOf_5 k))) k0))) ok_X0_heardOf rt_X0_heardOf (by omega) (hc_X0_heardOf G l hd) (hrPI rfl rfl) (hkc (b_X0_heardOf_66 hd ih) (hkc (b_X0_heardOf_67 hd ih) hk0)) 44 hA1 hI
    · cases h
set_option maxRecDepth 20000 in
theorem ca_X0_heardOf (G : GT) (l : Launch) {d : Nat} (hd : 4 ≤ d) : CA G l 38 (true, true) d ad_X0_heardOf := by
  intro O L σ as k o h hW hok
  unfold ad_X0_heardOf at h
  split at h
  · obtain ⟨hq0, hA0⟩ := bif_s h
    obtain ⟨e0, hq1⟩ := beq_and hq0
    subst e0
    obtain ⟨r, hr, hk⟩ := Option.bind_eq_some_iff.mp hA0
    exact ca_of (q := (dcPI L σ) r) (by decide) rfl (Nat.le_of_ble_eq_true rfl) hk (fun _ => rfl) (fun _ => rfl) (exs (sp := [5]) (K := (kc 5 (A_X0_heardOf_5 (f_X0_heardOf_5 FU)) k0)) (L0 := L) (σ0 := σ) ok_X0_heardOf rt_X0_heardOf (by omega) (hc_X0_heardOf G l hd) (hrPI rfl rfl) (hkc (b_X0_heardOf_5 hd FU) hk0) 44 hr (inv0 hW hok))
  · cases h
def tt_J7_fill_53178 (pc : Nat) : TI := bif Nat.blt pc 7 then (bif Nat.blt pc 3 then (bif Nat.blt pc 1 then (bif Nat.beq pc 0 then (.iconst 0, 1, (0, 0, 0), 0, 0, []) else TN) else (bif Nat.blt pc 2 then (bif Nat.beq pc 1 then (.istore_n 2, 2, (2, 0, 0), 0, 0, []) else TN) else (bif Nat.beq pc 2 then (.aload_n 0, 3, (0, 0, 0), 0, 0, []) else TN))) else (bif Nat.blt pc 5 then (bif Nat.blt pc 4 then (bif Nat.beq pc 3 then (.arraylength, 4, (0, 0, 0), 0, 0, []) else TN) else (bif Nat.beq pc 4 then (.istore_n 3, 5, (3, 0, 0), 0, 0, []) else TN)) else (bif Nat.blt pc 6 then (bif Nat.beq pc 5 then (.iload_n 2, 6, (2, 0, 0), 0, 0, []) else TN) else (bif Nat.beq pc 6 then (.iload_n 3, 7, (3, 0, 0), 0, 0, []) else TN)))) else (bif Nat.blt pc 13 then (bif Nat.blt pc 11 then (bif Nat.blt pc 10 then (bif Nat.beq pc 7 then (.if_icmp .ge 13, 10, (20, 0, 0), 0, 0, []) else TN) else (bif Nat.beq pc 10 then (.aload_n 0, 11, (0, 0, 0), 0, 0, []) else TN)) else (bif Nat.blt pc 12 then (bif Nat.beq pc 11 then (.iload_n 2, 12, (2, 0, 0), 0, 0, []) else TN) else (bif Nat.beq pc 12 then (.iload_n 1, 13, (1, 0, 0), 0, 0, []) else TN))) else (bif Nat.blt pc 17 then (bif Nat.blt pc 14 then (bif Nat.beq pc 13 then (.iastore, 14, (0, 0, 0), 0, 0, []) else TN) else (bif Nat.beq pc 14 then (.iinc 2 1, 17, (2, 0, 0), 1, 0, []) else TN)) else (bif Nat.blt pc 20 then (bif Nat.beq pc 17 then (.goto (-12), 20, (5, 0, 0), 0, 0, []) else TN) else (bif Nat.beq pc 20 then (.return_, 21, (0, 0, 0), 0, 0, []) else TN))))
def tb_J7_fill_53178 (pc : Nat) : TI := bif Nat.ble 21 pc then TN else tt_J7_fill_53178 pc
theorem ok_J7_fill_53178 : tOK 22 (decide ("fill" = "<init>")) cJ7_fill_53178 tb_J7_fill_53178 := tOK_of 21 tn_of (by decide +kernel)
def f_J7_fill_53178_5 : Nat → Lay → Sto → Option Nat → Int32 → Int32 → Int32 → Option Sto
  | 0 => fun _ _ _ _ _ _ => none
  | k + 1 => fun L σ a0 a1 a2 a3 => (if a3 ≤ a2 then some σ else a0.bind fun x1 => (wI L σ x1 a2 a1).bind fun σ2 => (f_J7_fill_53178_5 k) L σ2 a0 a1 (a2 + 1) a3)
def A_J7_fill_53178_5 (c : Lay → Sto → Option Nat → Int32 → Int32 → Int32 → Option Sto) (lc : List (Option AV)) (st : List AV) (L : Lay) (σ : Sto) : Option Sto := match lc, st with
  | [some (.inr (.inr (.inl (ta0, a0)))), some (.inl a1), some (.inl a2), some (.inl a3)], [] => bif Nat.beq ta0 20 && true then c L σ a0 a1 a2 a3 else none
  | _, _ => none
def f_J7_fill_53178 (L : Lay) (σ : Sto) (a0 : Option Nat) (a1 : Int32) : Option Sto := a0.bind fun x3 => (f_J7_fill_53178_5 FU) L σ a0 a1 0 (nI (L.2.1 x3))
def ad_J7_fill_53178 : ADT := fun O L σ as k => match as with
  | [.inr (.inr (.inl (ta0, a0))), .inl a1] => bif Nat.beq ta0 20 && true then (f_J7_fill_53178 L σ a0 a1).bind fun σ2 => k none L σ2 else none
  | _ => none
abbrev cl_J7_fill_53178 {O : Type} : CLT O := cl0
theorem hc_J7_fill_53178 (G : GT) (l : Launch) {d : Nat} (hd : 1 ≤ d) {O : Type} : HCL G l (true, false) d (cl_J7_fill_53178 (O := O)) := hcl0
theorem rt_J7_fill_53178 : retOK (6, 0) none := ⟨fun h => absurd h (by decide), fun h => absurd h (by decide), fun _ => rfl⟩
set_option maxRecDepth 20000 in
theorem b_J7_fill_53178_5 {G : GT} {l : Launch} {d : Nat} {L0 : Lay} {σ0 : Sto} (hd : 1 ≤ d) : ∀ k : Nat, HF G l 22 "fill" cJ7_fill_53178 4 none d L0 σ0 (true, false) (dcV L0) 5 (A_J7_fill_53178_5 (f_J7_fill_53178_5 k))
  | 0 => by
    intro lc st L σ o h hI
    unfold A_J7_fill_53178_5 at h
    split at h
    · obtain ⟨_, hA1⟩ := bif_s h
      cases hA1
    · cases h
  | k + 1 => by
    have ih := b_J7_fill_53178_5 (G := G) (l := l) (d := d) (L0 := L0) (σ0 := σ0) hd k
    intro lc st L σ o h hI
    unfold A_J7_fill_53178_5 at h
    split at h
    · obtain ⟨hq0, hA1⟩ := bif_s h
      obtain ⟨e0, hq1⟩ := beq_and hq0
      subst e0
      exact exs (sp := [5]) (K := (kc 5 (A_J7_fill_53178_5 (f_J7_fill_53178_5 k)) k0)) ok_J7_fill_53178 rt_J7_fill_53178 (by omega) (hc_J7_fill_53178 G l hd) (hrV rfl) (hkc ih hk0) 18 hA1 hI
    · cases h
set_option maxRecDepth 20000 in
theorem ca_J7_fill_53178 (G : GT) (l : Launch) {d : Nat} (hd : 1 ≤ d) : CA G l 30 (true, false) d ad_J7_fill_53178 := by
  intro O L σ as k o h hW hok
  unfold ad_J7_fill_53178 at h
  split at h
  · obtain ⟨hq0, hA0⟩ := bif_s h
    obtain ⟨e0, hq1⟩ := beq_and hq0
    subst e0
    obtain ⟨r, hr, hk⟩ := Option.bind_eq_some_iff.mp hA0
    exact ca_of (q := (dcV L) r) (by decide) rfl (Nat.le_of_ble_eq_true rfl) hk (fun _ => rfl) (fun e => by cases e) (exs (sp := [5]) (K := (kc 5 (A_J7_fill_53178_5 (f_J7_fill_53178_5 FU)) k0)) (L0 := L) (σ0 := σ) ok_J7_fill_53178 rt_J7_fill_53178 (by omega) (hc_J7_fill_53178 G l hd) (hrV rfl) (hkc (b_J7_fill_53178_5 hd FU) hk0) 18 hr (inv0 hW hok))
  · cases h
def tt_X0_init (pc : Nat) : TI := bif Nat.blt pc 36 then (bif Nat.blt pc 19 then (bif Nat.blt pc 8 then (bif Nat.blt pc 4 then (bif Nat.blt pc 1 then (bif Nat.beq pc 0 then (.aload_n 0, 1, (0, 0, 0), 0, 0, []) else TN) else (bif Nat.beq pc 1 then (.invokespecial 3, 4, (0, 0, 0), 0, 0, []) else TN)) else (bif Nat.blt pc 5 then (bif Nat.beq pc 4 then (.aload_n 0, 5, (0, 0, 0), 0, 0, []) else TN) else (bif Nat.beq pc 5 then (.sipush 401, 8, (0, 0, 0), 401, 0, []) else TN))) else (bif Nat.blt pc 12 then (bif Nat.blt pc 11 then (bif Nat.beq pc 8 then (.putfield 9, 11, (0, 3, 0), 0, 0, []) else TN) else (bif Nat.beq pc 11 then (.aload_n 0, 12, (0, 0, 0), 0, 0, []) else TN)) else (bif Nat.blt pc 14 then (bif Nat.beq pc 12 then (.bipush 40, 14, (0, 0, 0), 40, 0, []) else TN) else (bif Nat.blt pc 16 then (bif Nat.beq pc 14 then (.newarray .int, 16, (20, 40, 0), 0, 0, []) else TN) else (bif Nat.beq pc 16 then (.putfield 15, 19, (0, 5, 0), 0, 0, []) else TN))))) else (bif Nat.blt pc 27 then (bif Nat.blt pc 22 then (bif Nat.blt pc 20 then (bif Nat.beq pc 19 then (.aload_n 0, 20, (0, 0, 0), 0, 0, []) else TN) else (bif Nat.beq pc 20 then (.bipush 40, 22, (0, 0, 0), 40, 0, []) else TN)) else (bif Nat.blt pc 24 then (bif Nat.beq pc 22 then (.newarray .int, 24, (20, 40, 0), 0, 0, []) else TN) else (bif Nat.beq pc 24 then (.putfield 19, 27, (0, 6, 0), 0, 0, []) else TN))) else (bif Nat.blt pc 30 then (bif Nat.blt pc 28 then (bif Nat.beq pc 27 then (.aload_n 0, 28, (0, 0, 0), 0, 0, []) else TN) else (bif Nat.beq pc 28 then (.bipush 40, 30, (0, 0, 0), 40, 0, []) else TN)) else (bif Nat.blt pc 32 then (bif Nat.beq pc 30 then (.newarray .int, 32, (20, 40, 0), 0, 0, []) else TN) else (bif Nat.blt pc 35 then (bif Nat.beq pc 32 then (.putfield 22, 35, (0, 7, 0), 0, 0, []) else TN) else (bif Nat.beq pc 35 then (.aload_n 0, 36, (0, 0, 0), 0, 0, []) else TN)))))) else (bif Nat.blt pc 53 then (bif Nat.blt pc 42 then (bif Nat.blt pc 40 then (bif Nat.blt pc 37 then (bif Nat.beq pc 36 then (.aload_n 1, 37, (1, 0, 0), 0, 0, []) else TN) else (bif Nat.beq pc 37 then (.putfield 25, 40, (0, 0, 0), 0, 0, []) else TN)) else (bif Nat.blt pc 41 then (bif Nat.beq pc 40 then (.aload_n 0, 41, (0, 0, 0), 0, 0, []) else TN) else (bif Nat.beq pc 41 then (.iload_n 2, 42, (2, 0, 0), 0, 0, []) else TN))) else (bif Nat.blt pc 46 then (bif Nat.blt pc 45 then (bif Nat.beq pc 42 then (.putfield 29, 45, (0, 1, 0), 0, 0, []) else TN) else (bif Nat.beq pc 45 then (.aload_n 0, 46, (0, 0, 0), 0, 0, []) else TN)) else (bif Nat.blt pc 47 then (bif Nat.beq pc 46 then (.aload_n 1, 47, (1, 0, 0), 0, 0, []) else TN) else (bif Nat.blt pc 50 then (bif Nat.beq pc 47 then (.getfield 32, 50, (10, 4, 1), 0, 0, []) else TN) else (bif Nat.beq pc 50 then (.putfield 37, 53, (0, 2, 0), 0, 0, []) else TN))))) else (bif Nat.blt pc 63 then (bif Nat.blt pc 57 then (bif Nat.blt pc 54 then (bif Nat.beq pc 53 then (.aload_n 0, 54, (0, 0, 0), 0, 0, []) else TN) else (bif Nat.beq pc 54 then (.getfield 15, 57, (0, 5, 0), 0, 0, []) else TN)) else (bif Nat.blt pc 60 then (bif Nat.beq pc 57 then (.sipush 401, 60, (0, 0, 0), 401, 0, []) else TN) else (bif Nat.beq pc 60 then (.invokestatic 40, 63, (30, 2, 0), 0, 0, []) else TN))) else (bif Nat.blt pc 67 then (bif Nat.blt pc 64 then (bif Nat.beq pc 63 then (.aload_n 0, 64, (0, 0, 0), 0, 0, []) else TN) else (bif Nat.beq pc 64 then (.getfield 19, 67, (0, 6, 0), 0, 0, []) else TN)) else (bif Nat.blt pc 70 then (bif Nat.beq pc 67 then (.sipush 401, 70, (0, 0, 0), 401, 0, []) else TN) else (bif Nat.blt pc 73 then (bif Nat.beq pc 70 then (.invokestatic 40, 73, (30, 2, 0), 0, 0, []) else TN) else (bif Nat.beq pc 73 then (.return_, 74, (0, 0, 0), 0, 0, []) else TN))))))
def tb_X0_init (pc : Nat) : TI := bif Nat.ble 74 pc then TN else tt_X0_init pc
theorem ok_X0_init : tOK 0 (decide ("<init>" = "<init>")) cX0_init tb_X0_init := tOK_of 74 tn_of (by decide +kernel)
def f_X0_init_63 (L : Lay) (σ : Sto) (a0 : Nat) : Option (Lay × Sto) := (f_J7_fill_53178 L σ (σ.2.1 a0 6) 401).bind fun σ1 => some (L, σ1)
def A_X0_init_63 (c : Lay → Sto → Nat → Option (Lay × Sto)) (lc : List (Option AV)) (st : List AV) (L : Lay) (σ : Sto) : Option (Lay × Sto) := match lc, st with
  | [some (.inr (.inr (.inl (ta0, some a0)))), _, _], [] => bif Nat.beq ta0 0 && true then c L σ a0 else none
  | _, _ => none
def f_X0_init_53 (L : Lay) (σ : Sto) (a0 : Nat) : Option (Lay × Sto) := (f_J7_fill_53178 L σ (σ.2.1 a0 5) 401).bind fun σ2 => (f_X0_init_63) L σ2 a0
def A_X0_init_53 (c : Lay → Sto → Nat → Option (Lay × Sto)) (lc : List (Option AV)) (st : List AV) (L : Lay) (σ : Sto) : Option (Lay × Sto) := match lc, st with
  | [some (.inr (.inr (.inl (ta0, some a0)))), _, _], [] => bif Nat.beq ta0 0 && true then c L σ a0 else none
  | _, _ => none
def f_X0_init_45 (L : Lay) (σ : Sto) (a0 : Nat) (a1 : Option Nat) : Option (Lay × Sto) := a1.bind fun x3 => (putI σ a0 2 (σ.1 x3 4)).bind fun σ4 => (f_X0_init_53) L σ4 a0
def A_X0_init_45 (c : Lay → Sto → Nat → Option Nat → Option (Lay × Sto)) (lc : List (Option AV)) (st : List AV) (L : Lay) (σ : Sto) : Option (Lay × Sto) := match lc, st with
  | [some (.inr (.inr (.inl (ta0, some a0)))), some (.inr (.inr (.inl (ta1, a1)))), _], [] => bif Nat.beq ta0 0 && (Nat.beq ta1 10 && true) then c L σ a0 a1 else none
  | _, _ => none
def f_X0_init_35 (L : Lay) (σ : Sto) (a0 : Nat) (a1 : Option Nat) (a2 : Int32) : Option (Lay × Sto) := (putR σ a0 0 a1).bind fun σ5 => (putI σ5 a0 1 a2).bind fun σ6 => (f_X0_init_45) L σ6 a0 a1
def A_X0_init_35 (c : Lay → Sto → Nat → Option Nat → Int32 → Option (Lay × Sto)) (lc : List (Option AV)) (st : List AV) (L : Lay) (σ : Sto) : Option (Lay × Sto) := match lc, st with
  | [some (.inr (.inr (.inl (ta0, some a0)))), some (.inr (.inr (.inl (ta1, a1)))), some (.inl a2)], [] => bif Nat.beq ta0 0 && (Nat.beq ta1 10 && true) then c L σ a0 a1 a2 else none
  | _, _ => none
def f_X0_init_27 (L : Lay) (σ : Sto) (a0 : Nat) (a1 : Option Nat) (a2 : Int32) : Option (Lay × Sto) := (if (40 : Int32) = nI 40 then (al L σ 20 40 40).bind fun q7 => (putR q7.2.2 a0 7 (some q7.1)).bind fun σ8 => (f_X0_init_35) q7.2.1 σ8 a0 a1 a2 else none)
def A_X0_init_27 (c : Lay → Sto → Nat → Option Nat → Int32 → Option (Lay × Sto)) (lc : List (Option AV)) (st : List AV) (L : Lay) (σ : Sto) : Option (Lay × Sto) := match lc, st with
  | [some (.inr (.inr (.inl (ta0, some a0)))), some (.inr (.inr (.inl (ta1, a1)))), some (.inl a2)], [] => bif Nat.beq ta0 0 && (Nat.beq ta1 10 && true) then c L σ a0 a1 a2 else none
  | _, _ => none
def f_X0_init_19 (L : Lay) (σ : Sto) (a0 : Nat) (a1 : Option Nat) (a2 : Int32) : Option (Lay × Sto) := (if (40 : Int32) = nI 40 then (al L σ 20 40 40).bind fun q9 => (putR q9.2.2 a0 6 (some q9.1)).bind fun σ10 => (f_X0_init_27) q9.2.1 σ10 a0 a1 a2 else none)
def A_X0_init_19 (c : Lay → Sto → Nat → Option Nat → Int32 → Option (Lay × Sto)) (lc : List (Option AV)) (st : List AV) (L : Lay) (σ : Sto) : Option (Lay × Sto) := match lc, st with
  | [some (.inr (.inr (.inl (ta0, some a0)))), some (.inr (.inr (.inl (ta1, a1)))), some (.inl a2)], [] => bif Nat.beq ta0 0 && (Nat.beq ta1 10 && true) then c L σ a0 a1 a2 else none
  | _, _ => none
def f_X0_init_11 (L : Lay) (σ : Sto) (a0 : Nat) (a1 : Option Nat) (a2 : Int32) : Option (Lay × Sto) := (if (40 : Int32) = nI 40 then (al L σ 20 40 40).bind fun q11 => (putR q11.2.2 a0 5 (some q11.1)).bind fun σ12 => (f_X0_init_19) q11.2.1 σ12 a0 a1 a2 else none)
def A_X0_init_11 (c : Lay → Sto → Nat → Option Nat → Int32 → Option (Lay × Sto)) (lc : List (Option AV)) (st : List AV) (L : Lay) (σ : Sto) : Option (Lay × Sto) := match lc, st with
  | [some (.inr (.inr (.inl (ta0, some a0)))), some (.inr (.inr (.inl (ta1, a1)))), some (.inl a2)], [] => bif Nat.beq ta0 0 && (Nat.beq ta1 10 && true) then c L σ a0 a1 a2 else none
  | _, _ => none
def f_X0_init (L : Lay) (σ : Sto) (a0 : Nat) (a1 : Option Nat) (a2 : Int32) : Option (Lay × Sto) := (putI σ a0 3 401).bind fun σ13 => (f_X0_init_11) L σ13 a0 a1 a2
def ad_X0_init : ADT := fun O L σ as k => match as with
  | [.inr (.inr (.inl (ta0, some a0))), .inr (.inr (.inl (ta1, a1))), .inl a2] => bif Nat.beq ta0 0 && (Nat.beq ta1 10 && true) then (f_X0_init L σ a0 a1 a2).bind fun r => k none r.1 r.2 else none
  | _ => none
abbrev cl_X0_init {O : Type} : CLT O := (clc 30 ad_J7_fill_53178 cl0)
theorem hc_X0_init (G : GT) (l : Launch) {d : Nat} (hd : 2 ≤ d) {O : Type} : HCL G l (false, false) d (cl_X0_init (O := O)) := (hclc (ca_J7_fill_53178 G l (d := 1) (Nat.le_refl _)) (fun e => by cases e) (fun e => by cases e) (by omega) hcl0)
theorem rt_X0_init : retOK (6, 0) none := ⟨fun h => absurd h (by decide), fun h => absurd h (by decide), fun _ => rfl⟩
set_option maxRecDepth 20000 in
theorem b_X0_init_63 {G : GT} {l : Launch} {d : Nat} {L0 : Lay} {σ0 : Sto} (hd : 2 ≤ d) : HF G l 0 "<init>" cX0_init 3 none d L0 σ0 (false, false) dcAV 63 (A_X0_init_63 f_X0_init_63) := by
  intro lc st L σ o h hI
  unfold A_X0_init_63 at h
  split at h
  · obtain ⟨hq0, hA1⟩ := bif_s h
    obtain ⟨e0, hq1⟩ := beq_and hq0
    subst e0
    exact exs (sp := []) (K := k0) ok_X0_init rt_X0_init (by omega) (hc_X0_init G l hd) hrAV hk0 39 hA1 hI
  · cases h
set_option maxRecDepth 20000 in
theorem b_X0_init_53 {G : GT} {l : Launch} {d : Nat} {L0 : Lay} {σ0 : Sto} (hd : 2 ≤ d) : HF G l 0 "<init>" cX0_init 3 none d L0 σ0 (false, false) dcAV 53 (A_X0_init_53 f_X0_init_53) := by
  intro lc st L σ o h hI
  unfold A_X0_init_53 at h
  split at h
  · obtain ⟨hq0, hA1⟩ := bif_s h
    obtain ⟨e0, hq1⟩ := beq_and hq0
    subst e0
    exact exs (sp := [63]) (K := (kc 63 (A_X0_init_63 (f_X0_init_63)) k0)) ok_X0_init rt_X0_init (by omega) (hc_X0_init G l hd) hrAV (hkc (b_X0_init_63 hd) hk0) 39 hA1 hI
  · cases h
set_option maxRecDepth 20000 in
theorem b_X0_init_45 {G : GT} {l : Launch} {d : Nat} {L0 : Lay} {σ0 : Sto} (hd : 2 ≤ d) : HF G l 0 "<init>" cX0_init 3 none d L0 σ0 (false, false) dcAV 45 (A_X0_init_45 f_X0_init_45) := by
  intro lc st L σ o h hI
  unfold A_X0_init_45 at h
  split at h
  · obtain ⟨hq0, hA1⟩ := bif_s h
    obtain ⟨e0, hq1⟩ := beq_and hq0
    obtain ⟨e1, hq2⟩ := beq_and hq1
    subst e0
    subst e1
    exact exs (sp := [53]) (K := (kc 53 (A_X0_init_53 (f_X0_init_53)) k0)) ok_X0_init rt_X0_init (by omega) (hc_X0_init G l hd) hrAV (hkc (b_X0_init_53 hd) hk0) 39 hA1 hI
  · cases h
set_option maxRecDepth 20000 in
theorem b_X0_init_35 {G : GT} {l : Launch} {d : Nat} {L0 : Lay} {σ0 : Sto} (hd : 2 ≤ d) : HF G l 0 "<init>" cX0_init 3 none d L0 σ0 (false, false) dcAV 35 (A_X0_init_35 f_X0_init_35) := by
  intro lc st L σ o h hI
  unfold A_X0_init_35 at h
  split at h
  · obtain ⟨hq0, hA1⟩ := bif_s h
    obtain ⟨e0, hq1⟩ := beq_and hq0
    obtain ⟨e1, hq2⟩ := beq_and hq1
    subst e0
    subst e1
    exact exs (sp := [45]) (K := (kc 45 (A_X0_init_45 (f_X0_init_45)) k0)) ok_X0_init rt_X0_init (by omega) (hc_X0_init G l hd) hrAV (hkc (b_X0_init_45 hd) hk0) 39 hA1 hI
  · cases h
set_option maxRecDepth 20000 in
theorem b_X0_init_27 {G : GT} {l : Launch} {d : Nat} {L0 : Lay} {σ0 : Sto} (hd : 2 ≤ d) : HF G l 0 "<init>" cX0_init 3 none d L0 σ0 (false, false) dcAV 27 (A_X0_init_27 f_X0_init_27) := by
  intro lc st L σ o h hI
  unfold A_X0_init_27 at h
  split at h
  · obtain ⟨hq0, hA1⟩ := bif_s h
    obtain ⟨e0, hq1⟩ := beq_and hq0
    obtain ⟨e1, hq2⟩ := beq_and hq1
    subst e0
    subst e1
    exact exs (sp := [35]) (K := (kc 35 (A_X0_init_35 (f_X0_init_35)) k0)) ok_X0_init rt_X0_init (by omega) (hc_X0_init G l hd) hrAV (hkc (b_X0_init_35 hd) hk0) 39 hA1 hI
  · cases h
set_option maxRecDepth 20000 in
theorem b_X0_init_19 {G : GT} {l : Launch} {d : Nat} {L0 : Lay} {σ0 : Sto} (hd : 2 ≤ d) : HF G l 0 "<init>" cX0_init 3 none d L0 σ0 (false, false) dcAV 19 (A_X0_init_19 f_X0_init_19) := by
  intro lc st L σ o h hI
  unfold A_X0_init_19 at h
  split at h
  · obtain ⟨hq0, hA1⟩ := bif_s h
    obtain ⟨e0, hq1⟩ := beq_and hq0
    obtain ⟨e1, hq2⟩ := beq_and hq1
    subst e0
    subst e1
    exact exs (sp := [27]) (K := (kc 27 (A_X0_init_27 (f_X0_init_27)) k0)) ok_X0_init rt_X0_init (by omega) (hc_X0_init G l hd) hrAV (hkc (b_X0_init_27 hd) hk0) 39 hA1 hI
  · cases h
set_option maxRecDepth 20000 in
theorem b_X0_init_11 {G : GT} {l : Launch} {d : Nat} {L0 : Lay} {σ0 : Sto} (hd : 2 ≤ d) : HF G l 0 "<init>" cX0_init 3 none d L0 σ0 (false, false) dcAV 11 (A_X0_init_11 f_X0_init_11) := by
  intro lc st L σ o h hI
  unfold A_X0_init_11 at h
  split at h
  · obtain ⟨hq0, hA1⟩ := bif_s h
    obtain ⟨e0, hq1⟩ := beq_and hq0
    obtain ⟨e1, hq2⟩ := beq_and hq1
    subst e0
    subst e1
    exact exs (sp := [19]) (K := (kc 19 (A_X0_init_19 (f_X0_init_19)) k0)) ok_X0_init rt_X0_init (by omega) (hc_X0_init G l hd) hrAV (hkc (b_X0_init_19 hd) hk0) 39 hA1 hI
  · cases h
set_option maxRecDepth 20000 in
theorem ca_X0_init (G : GT) (l : Launch) {d : Nat} (hd : 2 ≤ d) : CA G l 39 (false, false) d ad_X0_init := by
  intro O L σ as k o h hW hok
  unfold ad_X0_init at h
  split at h
  · obtain ⟨hq0, hA0⟩ := bif_s h
    obtain ⟨e0, hq1⟩ := beq_and hq0
    obtain ⟨e1, hq2⟩ := beq_and hq1
    subst e0
    subst e1
    obtain ⟨r, hr, hk⟩ := Option.bind_eq_some_iff.mp hA0
    exact ca_of (q := dcAV r) (by decide) rfl (Nat.le_of_ble_eq_true rfl) hk (fun e => by cases e) (fun e => by cases e) (exs (sp := [11]) (K := (kc 11 (A_X0_init_11 (f_X0_init_11)) k0)) (L0 := L) (σ0 := σ) ok_X0_init rt_X0_init (by omega) (hc_X0_init G l hd) hrAV (hkc (b_X0_init_11 hd) hk0) 39 hr (inv0 hW hok))
  · cases h
def tt_X0_post (pc : Nat) : TI := bif Nat.blt pc 16 then (bif Nat.blt pc 7 then (bif Nat.blt pc 2 then (bif Nat.blt pc 1 then (bif Nat.beq pc 0 then (.iload_n 1, 1, (1, 0, 0), 0, 0, []) else TN) else (bif Nat.beq pc 1 then (.iconst 0, 2, (0, 0, 0), 0, 0, []) else TN)) else (bif Nat.blt pc 4 then (bif Nat.beq pc 2 then (.bipush 39, 4, (0, 0, 0), 39, 0, []) else TN) else (bif Nat.beq pc 4 then (.invokestatic 46, 7, (83, 3, 0), 0, 0, []) else TN))) else (bif Nat.blt pc 11 then (bif Nat.blt pc 10 then (bif Nat.beq pc 7 then (.ifCond .eq 26, 10, (33, 0, 0), 0, 0, []) else TN) else (bif Nat.beq pc 10 then (.aload_n 0, 11, (0, 0, 0), 0, 0, []) else TN)) else (bif Nat.blt pc 14 then (bif Nat.beq pc 11 then (.getfield 15, 14, (0, 5, 0), 0, 0, []) else TN) else (bif Nat.blt pc 15 then (bif Nat.beq pc 14 then (.iload_n 1, 15, (1, 0, 0), 0, 0, []) else TN) else (bif Nat.beq pc 15 then (.aload_n 0, 16, (0, 0, 0), 0, 0, []) else TN))))) else (bif Nat.blt pc 25 then (bif Nat.blt pc 22 then (bif Nat.blt pc 19 then (bif Nat.beq pc 16 then (.getfield 25, 19, (0, 0, 0), 0, 0, []) else TN) else (bif Nat.beq pc 19 then (.getfield 32, 22, (10, 4, 1), 0, 0, []) else TN)) else (bif Nat.blt pc 23 then (bif Nat.beq pc 22 then (.iastore, 23, (0, 0, 0), 0, 0, []) else TN) else (bif Nat.blt pc 24 then (bif Nat.beq pc 23 then (.aload_n 0, 24, (0, 0, 0), 0, 0, []) else TN) else (bif Nat.beq pc 24 then (.dup, 25, (0, 0, 0), 0, 0, []) else TN)))) else (bif Nat.blt pc 29 then (bif Nat.blt pc 28 then (bif Nat.beq pc 25 then (.getfield 50, 28, (0, 4, 0), 0, 0, []) else TN) else (bif Nat.beq pc 28 then (.iconst 1, 29, (0, 0, 0), 1, 0, []) else TN)) else (bif Nat.blt pc 30 then (bif Nat.beq pc 29 then (.iadd, 30, (0, 0, 0), 0, 0, []) else TN) else (bif Nat.blt pc 33 then (bif Nat.beq pc 30 then (.putfield 50, 33, (0, 4, 0), 0, 0, []) else TN) else (bif Nat.beq pc 33 then (.return_, 34, (0, 0, 0), 0, 0, []) else TN)))))
def tb_X0_post (pc : Nat) : TI := bif Nat.ble 34 pc then TN else tt_X0_post pc
theorem ok_X0_post : tOK 0 (decide ("post" = "<init>")) cX0_post tb_X0_post := tOK_of 34 tn_of (by decide +kernel)
def f_X0_post (L : Lay) (σ : Sto) (a0 : Nat) (a1 : Int32) : Option Sto := (f_X11_isWithin L σ a1 0 39).bind fun r1 => (if r1 = 0 then some σ else (σ.2.1 a0 0).bind fun x2 => (σ.2.1 a0 5).bind fun x3 => (wI L σ x3 a1 (σ.1 x2 4)).bind fun σ4 => (putI σ4 a0 4 ((σ4.1 a0 4) + 1)).bind fun σ5 => some σ5)
def ad_X0_post : ADT := fun O L σ as k => match as with
  | [.inr (.inr (.inl (ta0, some a0))), .inl a1] => bif Nat.beq ta0 0 && true then (f_X0_post L σ a0 a1).bind fun σ2 => k none L σ2 else none
  | _ => none
abbrev cl_X0_post {O : Type} : CLT O := (clc 83 ad_X11_isWithin cl0)
theorem hc_X0_post (G : GT) (l : Launch) {d : Nat} (hd : 2 ≤ d) {O : Type} : HCL G l (true, false) d (cl_X0_post (O := O)) := (hclc (ca_X11_isWithin G l (d := 1) (Nat.le_refl _)) (fun _ => rfl) (fun e => by cases e) (by omega) hcl0)
theorem rt_X0_post : retOK (6, 0) none := ⟨fun h => absurd h (by decide), fun h => absurd h (by decide), fun _ => rfl⟩
set_option maxRecDepth 20000 in
theorem ca_X0_post (G : GT) (l : Launch) {d : Nat} (hd : 2 ≤ d) : CA G l 40 (true, false) d ad_X0_post := by
  intro O L σ as k o h hW hok
  unfold ad_X0_post at h
  split at h
  · obtain ⟨hq0, hA0⟩ := bif_s h
    obtain ⟨e0, hq1⟩ := beq_and hq0
    subst e0
    obtain ⟨r, hr, hk⟩ := Option.bind_eq_some_iff.mp hA0
    exact ca_of (q := (dcV L) r) (by decide) rfl (Nat.le_of_ble_eq_true rfl) hk (fun _ => rfl) (fun e => by cases e) (exs (sp := []) (K := k0) (L0 := L) (σ0 := σ) ok_X0_post rt_X0_post (by omega) (hc_X0_post G l hd) (hrV rfl) hk0 22 hr (inv0 hW hok))
  · cases h
def tt_X10_isAmong (pc : Nat) : TI := bif Nat.blt pc 16 then (bif Nat.blt pc 6 then (bif Nat.blt pc 2 then (bif Nat.blt pc 1 then (bif Nat.beq pc 0 then (.aload_n 0, 1, (0, 0, 0), 0, 0, []) else TN) else (bif Nat.beq pc 1 then (.iload_n 1, 2, (1, 0, 0), 0, 0, []) else TN)) else (bif Nat.blt pc 3 then (bif Nat.beq pc 2 then (.iload_n 3, 3, (3, 0, 0), 0, 0, []) else TN) else (bif Nat.beq pc 3 then (.invokevirtual 50, 6, (46, 2, 10), 0, 0, []) else TN))) else (bif Nat.blt pc 10 then (bif Nat.blt pc 8 then (bif Nat.beq pc 6 then (.istore 4, 8, (4, 0, 0), 0, 0, []) else TN) else (bif Nat.beq pc 8 then (.iload 4, 10, (4, 0, 0), 0, 0, []) else TN)) else (bif Nat.blt pc 13 then (bif Nat.beq pc 10 then (.ifCond .lt 17, 13, (27, 0, 0), 0, 0, []) else TN) else (bif Nat.blt pc 14 then (bif Nat.beq pc 13 then (.iload_n 2, 14, (2, 0, 0), 0, 0, []) else TN) else (bif Nat.beq pc 14 then (.iload 4, 16, (4, 0, 0), 0, 0, []) else TN))))) else (bif Nat.blt pc 20 then (bif Nat.blt pc 18 then (bif Nat.blt pc 17 then (bif Nat.beq pc 16 then (.ishr, 17, (0, 0, 0), 0, 0, []) else TN) else (bif Nat.beq pc 17 then (.iconst 1, 18, (0, 0, 0), 1, 0, []) else TN)) else (bif Nat.blt pc 19 then (bif Nat.beq pc 18 then (.iand, 19, (0, 0, 0), 0, 0, []) else TN) else (bif Nat.beq pc 19 then (.iconst 1, 20, (0, 0, 0), 1, 0, []) else TN))) else (bif Nat.blt pc 24 then (bif Nat.blt pc 23 then (bif Nat.beq pc 20 then (.if_icmp .ne 7, 23, (27, 0, 0), 0, 0, []) else TN) else (bif Nat.beq pc 23 then (.iconst 1, 24, (0, 0, 0), 1, 0, []) else TN)) else (bif Nat.blt pc 27 then (bif Nat.beq pc 24 then (.goto 4, 27, (28, 0, 0), 0, 0, []) else TN) else (bif Nat.blt pc 28 then (bif Nat.beq pc 27 then (.iconst 0, 28, (0, 0, 0), 0, 0, []) else TN) else (bif Nat.beq pc 28 then (.ireturn, 29, (0, 0, 0), 0, 0, []) else TN)))))
def tb_X10_isAmong (pc : Nat) : TI := bif Nat.ble 29 pc then TN else tt_X10_isAmong pc
theorem ok_X10_isAmong : tOK 10 (decide ("isAmong" = "<init>")) cX10_isAmong tb_X10_isAmong := tOK_of 29 tn_of (by decide +kernel)
def f_X10_isAmong (L : Lay) (σ : Sto) (a0 : Nat) (a1 : Int32) (a2 : Int32) (a3 : Int32) : Option Int32 := (f_X10_branchOn L σ a0 a1 a3).bind fun r1 => (if r1 < 0 then (ckN 1 0).bind fun _ => some 0 else (if ((a2 >>> (r1 &&& 31)) &&& 1) = 1 then (ckN 1 1).bind fun _ => some 1 else (ckN 1 0).bind fun _ => some 0))
def ad_X10_isAmong : ADT := fun O L σ as k => match as with
  | [.inr (.inr (.inl (ta0, some a0))), .inl a1, .inl a2, .inl a3] => bif Nat.beq ta0 10 && true then (f_X10_isAmong L σ a0 a1 a2 a3).bind fun r => k (some (vI r)) L σ else none
  | _ => none
abbrev cl_X10_isAmong {O : Type} : CLT O := (clc 46 ad_X10_branchOn cl0)
theorem hc_X10_isAmong (G : GT) (l : Launch) {d : Nat} (hd : 4 ≤ d) {O : Type} : HCL G l (true, true) d (cl_X10_isAmong (O := O)) := (hclc (ca_X10_branchOn G l (d := 3) (Nat.le_refl _)) (fun _ => rfl) (fun _ => rfl) (by omega) hcl0)
theorem rt_X10_isAmong : retOK (1, 0) (some .boolean) := ⟨fun _ => rfl, fun h => absurd h (by decide), fun h => absurd h (by decide)⟩
set_option maxRecDepth 20000 in
theorem ca_X10_isAmong (G : GT) (l : Launch) {d : Nat} (hd : 4 ≤ d) : CA G l 50 (true, true) d ad_X10_isAmong := by
  intro O L σ as k o h hW hok
  unfold ad_X10_isAmong at h
  split at h
  · obtain ⟨hq0, hA0⟩ := bif_s h
    obtain ⟨e0, hq1⟩ := beq_and hq0
    subst e0
    obtain ⟨r, hr, hk⟩ := Option.bind_eq_some_iff.mp hA0
    exact ca_of (q := (dcPI L σ) r) (by decide) rfl (Nat.le_of_ble_eq_true rfl) hk (fun _ => rfl) (fun _ => rfl) (exs (sp := []) (K := k0) (L0 := L) (σ0 := σ) ok_X10_isAmong rt_X10_isAmong (by omega) (hc_X10_isAmong G l hd) (hrPI rfl rfl) hk0 21 hr (inv0 hW hok))
  · cases h
def tt_X0_postToMissed (pc : Nat) : TI := bif Nat.blt pc 30 then (bif Nat.blt pc 12 then (bif Nat.blt pc 6 then (bif Nat.blt pc 4 then (bif Nat.blt pc 1 then (bif Nat.beq pc 0 then (.aload_n 0, 1, (0, 0, 0), 0, 0, []) else TN) else (bif Nat.beq pc 1 then (.getfield 50, 4, (0, 4, 0), 0, 0, []) else TN)) else (bif Nat.blt pc 5 then (bif Nat.beq pc 4 then (.istore_n 1, 5, (1, 0, 0), 0, 0, []) else TN) else (bif Nat.beq pc 5 then (.iconst 0, 6, (0, 0, 0), 0, 0, []) else TN))) else (bif Nat.blt pc 8 then (bif Nat.blt pc 7 then (bif Nat.beq pc 6 then (.istore_n 2, 7, (2, 0, 0), 0, 0, []) else TN) else (bif Nat.beq pc 7 then (.iload_n 2, 8, (2, 0, 0), 0, 0, []) else TN)) else (bif Nat.blt pc 9 then (bif Nat.beq pc 8 then (.aload_n 0, 9, (0, 0, 0), 0, 0, []) else TN) else (bif Nat.beq pc 9 then (.getfield 25, 12, (0, 0, 0), 0, 0, []) else TN)))) else (bif Nat.blt pc 20 then (bif Nat.blt pc 18 then (bif Nat.blt pc 15 then (bif Nat.beq pc 12 then (.getfield 53, 15, (10, 3, 1), 0, 0, []) else TN) else (bif Nat.beq pc 15 then (.if_icmp .ge 41, 18, (56, 0, 0), 0, 0, []) else TN)) else (bif Nat.blt pc 19 then (bif Nat.beq pc 18 then (.aload_n 0, 19, (0, 0, 0), 0, 0, []) else TN) else (bif Nat.beq pc 19 then (.iload_n 2, 20, (2, 0, 0), 0, 0, []) else TN))) else (bif Nat.blt pc 26 then (bif Nat.blt pc 23 then (bif Nat.beq pc 20 then (.invokevirtual 56, 23, (36, 1, 0), 0, 0, []) else TN) else (bif Nat.beq pc 23 then (.ifCond .ne 27, 26, (50, 0, 0), 0, 0, []) else TN)) else (bif Nat.blt pc 27 then (bif Nat.beq pc 26 then (.aload_n 0, 27, (0, 0, 0), 0, 0, []) else TN) else (bif Nat.beq pc 27 then (.getfield 25, 30, (0, 0, 0), 0, 0, []) else TN))))) else (bif Nat.blt pc 46 then (bif Nat.blt pc 36 then (bif Nat.blt pc 32 then (bif Nat.blt pc 31 then (bif Nat.beq pc 30 then (.iload_n 2, 31, (2, 0, 0), 0, 0, []) else TN) else (bif Nat.beq pc 31 then (.aload_n 0, 32, (0, 0, 0), 0, 0, []) else TN)) else (bif Nat.blt pc 35 then (bif Nat.beq pc 32 then (.getfield 29, 35, (0, 1, 0), 0, 0, []) else TN) else (bif Nat.beq pc 35 then (.aload_n 0, 36, (0, 0, 0), 0, 0, []) else TN))) else (bif Nat.blt pc 42 then (bif Nat.blt pc 39 then (bif Nat.beq pc 36 then (.getfield 37, 39, (0, 2, 0), 0, 0, []) else TN) else (bif Nat.beq pc 39 then (.invokevirtual 60, 42, (50, 3, 10), 0, 0, []) else TN)) else (bif Nat.blt pc 45 then (bif Nat.beq pc 42 then (.ifCond .eq 8, 45, (50, 0, 0), 0, 0, []) else TN) else (bif Nat.beq pc 45 then (.aload_n 0, 46, (0, 0, 0), 0, 0, []) else TN)))) else (bif Nat.blt pc 56 then (bif Nat.blt pc 50 then (bif Nat.blt pc 47 then (bif Nat.beq pc 46 then (.iload_n 2, 47, (2, 0, 0), 0, 0, []) else TN) else (bif Nat.beq pc 47 then (.invokevirtual 63, 50, (40, 1, 0), 0, 0, []) else TN)) else (bif Nat.blt pc 53 then (bif Nat.beq pc 50 then (.iinc 2 1, 53, (2, 0, 0), 1, 0, []) else TN) else (bif Nat.beq pc 53 then (.goto (-46), 56, (7, 0, 0), 0, 0, []) else TN))) else (bif Nat.blt pc 60 then (bif Nat.blt pc 57 then (bif Nat.beq pc 56 then (.aload_n 0, 57, (0, 0, 0), 0, 0, []) else TN) else (bif Nat.beq pc 57 then (.getfield 50, 60, (0, 4, 0), 0, 0, []) else TN)) else (bif Nat.blt pc 61 then (bif Nat.beq pc 60 then (.iload_n 1, 61, (1, 0, 0), 0, 0, []) else TN) else (bif Nat.blt pc 62 then (bif Nat.beq pc 61 then (.isub, 62, (0, 0, 0), 0, 0, []) else TN) else (bif Nat.beq pc 62 then (.ireturn, 63, (0, 0, 0), 0, 0, []) else TN))))))
def tb_X0_postToMissed (pc : Nat) : TI := bif Nat.ble 63 pc then TN else tt_X0_postToMissed pc
theorem ok_X0_postToMissed : tOK 0 (decide ("postToMissed" = "<init>")) cX0_postToMissed tb_X0_postToMissed := tOK_of 63 tn_of (by decide +kernel)
def f_X0_postToMissed_50 (c7 : Lay → Sto → Nat → Int32 → Int32 → Option (Int32 × Sto)) (L : Lay) (σ : Sto) (a0 : Nat) (a1 : Int32) (a2 : Int32) : Option (Int32 × Sto) := c7 L σ a0 a1 (a2 + 1)
def A_X0_postToMissed_50 (c : Lay → Sto → Nat → Int32 → Int32 → Option (Int32 × Sto)) (lc : List (Option AV)) (st : List AV) (L : Lay) (σ : Sto) : Option (Int32 × Sto) := match lc, st with
  | [some (.inr (.inr (.inl (ta0, some a0)))), some (.inl a1), some (.inl a2)], [] => bif Nat.beq ta0 0 && true then c L σ a0 a1 a2 else none
  | _, _ => none
def f_X0_postToMissed_7 : Nat → Lay → Sto → Nat → Int32 → Int32 → Option (Int32 × Sto)
  | 0 => fun _ _ _ _ _ => none
  | k + 1 => fun L σ a0 a1 a2 => (σ.2.1 a0 0).bind fun x1 => (if (σ.1 x1 3) ≤ a2 then some (((σ.1 a0 4) - a1), σ) else (f_X0_hasSent L σ a0 a2).bind fun r2 => (if r2 = 0 then (σ.2.1 a0 0).bind fun x3 => (f_X10_isAmong L σ x3 a2 (σ.1 a0 1) (σ.1 a0 2)).bind fun r4 => (if r4 = 0 then (f_X0_postToMissed_50 (f_X0_postToMissed_7 k)) L σ a0 a1 a2 else (f_X0_post L σ a0 a2).bind fun σ5 => (f_X0_postToMissed_50 (f_X0_postToMissed_7 k)) L σ5 a0 a1 a2) else (f_X0_postToMissed_50 (f_X0_postToMissed_7 k)) L σ a0 a1 a2))
def A_X0_postToMissed_7 (c : Lay → Sto → Nat → Int32 → Int32 → Option (Int32 × Sto)) (lc : List (Option AV)) (st : List AV) (L : Lay) (σ : Sto) : Option (Int32 × Sto) := match lc, st with
  | [some (.inr (.inr (.inl (ta0, some a0)))), some (.inl a1), some (.inl a2)], [] => bif Nat.beq ta0 0 && true then c L σ a0 a1 a2 else none
  | _, _ => none
def f_X0_postToMissed (L : Lay) (σ : Sto) (a0 : Nat) : Option (Int32 × Sto) := (f_X0_postToMissed_7 FU) L σ a0 (σ.1 a0 4) 0
def ad_X0_postToMissed : ADT := fun O L σ as k => match as with
  | [.inr (.inr (.inl (ta0, some a0)))] => bif Nat.beq ta0 0 && true then (f_X0_postToMissed L σ a0).bind fun r => k (some (vI r.1)) L r.2 else none
  | _ => none
abbrev cl_X0_postToMissed {O : Type} : CLT O := (clc 36 ad_X0_hasSent (clc 50 ad_X10_isAmong (clc 40 ad_X0_post cl0)))
theorem hc_X0_postToMissed (G : GT) (l : Launch) {d : Nat} (hd : 5 ≤ d) {O : Type} : HCL G l (true, false) d (cl_X0_postToMissed (O := O)) := (hclc (ca_X0_hasSent G l (d := 2) (Nat.le_refl _)) (fun _ => rfl) (fun e => by cases e) (by omega) (hclc (ca_X10_isAmong G l (d := 4) (Nat.le_refl _)) (fun _ => rfl) (fun e => by cases e) (by omega) (hclc (ca_X0_post G l (d := 2) (Nat.le_refl _)) (fun _ => rfl) (fun e => by cases e) (by omega) hcl0)))
theorem rt_X0_postToMissed : retOK (0, 0) (some .int) := ⟨fun _ => rfl, fun h => absurd h (by decide), fun h => absurd h (by decide)⟩
set_option maxRecDepth 20000 in
theorem b_X0_postToMissed_50 {G : GT} {l : Launch} {d : Nat} {L0 : Lay} {σ0 : Sto} (hd : 5 ≤ d) {c7 : Lay → Sto → Nat → Int32 → Int32 → Option (Int32 × Sto)} (h7 : HF G l 0 "postToMissed" cX0_postToMissed 3 (some .int) d L0 σ0 (true, false) (dcI L0) 7 (A_X0_postToMissed_7 c7)) : HF G l 0 "postToMissed" cX0_postToMissed 3 (some .int) d L0 σ0 (true, false) (dcI L0) 50 (A_X0_postToMissed_50 (f_X0_postToMissed_50 c7)) := by
  intro lc st L σ o h hI
  unfold A_X0_postToMissed_50 at h
  split at h
  · obtain ⟨hq0, hA1⟩ := bif_s h
    obtain ⟨e0, hq1⟩ := beq_and hq0
    subst e0
    exact exs (sp := [7]) (K := (kc 7 (A_X0_postToMissed_7 c7) k0)) ok_X0_postToMissed rt_X0_postToMissed (by omega) (hc_X0_postToMissed G l hd) (hrI rfl) (hkc h7 hk0) 36 hA1 hI
  · cases h
set_option maxRecDepth 20000 in
theorem b_X0_postToMissed_7 {G : GT} {l : Launch} {d : Nat} {L0 : Lay} {σ0 : Sto} (hd : 5 ≤ d) : ∀ k : Nat, HF G l 0 "postToMissed" cX0_postToMissed 3 (some .int) d L0 σ0 (true, false) (dcI L0) 7 (A_X0_postToMissed_7 (f_X0_postToMissed_7 k))
  | 0 => by
    intro lc st L σ o h hI
    unfold A_X0_postToMissed_7 at h
    split at h
    · obtain ⟨_, hA1⟩ := bif_s h
      cases hA1
    · cases h
  | k + 1 => by
    have ih := b_X0_postToMissed_7 (G := G) (l := l) (d := d) (L0 := L0) (σ0 := σ0) hd k
    intro lc st L σ o h hI
    unfold A_X0_postToMissed_7 at h
    split at h
    · obtain ⟨hq0, hA1⟩ := bif_s h
      obtain ⟨e0, hq1⟩ := beq_and hq0
      subst e0
      exact exs (sp := [50]) (K := (kc 50 (A_X0_postToMissed_50 (f_X0_postToMissed_50 (f_X0_postToMissed_7 k))) k0)) ok_X0_postToMissed rt_X0_postToMissed (by omega) (hc_X0_postToMissed G l hd) (hrI rfl) (hkc (b_X0_postToMissed_50 hd ih) hk0) 36 hA1 hI
    · cases h
set_option maxRecDepth 20000 in
theorem ca_X0_postToMissed (G : GT) (l : Launch) {d : Nat} (hd : 5 ≤ d) : CA G l 41 (true, false) d ad_X0_postToMissed := by
  intro O L σ as k o h hW hok
  unfold ad_X0_postToMissed at h
  split at h
  · obtain ⟨hq0, hA0⟩ := bif_s h
    obtain ⟨e0, hq1⟩ := beq_and hq0
    subst e0
    obtain ⟨r, hr, hk⟩ := Option.bind_eq_some_iff.mp hA0
    exact ca_of (q := (dcI L) r) (by decide) rfl (Nat.le_of_ble_eq_true rfl) hk (fun _ => rfl) (fun e => by cases e) (exs (sp := [7]) (K := (kc 7 (A_X0_postToMissed_7 (f_X0_postToMissed_7 FU)) k0)) (L0 := L) (σ0 := σ) ok_X0_postToMissed rt_X0_postToMissed (by omega) (hc_X0_postToMissed G l hd) (hrI rfl) (hkc (b_X0_postToMissed_7 hd FU) hk0) 36 hr (inv0 hW hok))
  · cases h
def tt_X11_isLetter (pc : Nat) : TI := bif Nat.blt pc 9 then (bif Nat.blt pc 3 then (bif Nat.blt pc 1 then (bif Nat.beq pc 0 then (.iload_n 0, 1, (0, 0, 0), 0, 0, []) else TN) else (bif Nat.beq pc 1 then (.bipush 97, 3, (0, 0, 0), 97, 0, []) else TN)) else (bif Nat.blt pc 6 then (bif Nat.beq pc 3 then (.if_icmp .lt 13, 6, (16, 0, 0), 0, 0, []) else TN) else (bif Nat.blt pc 7 then (bif Nat.beq pc 6 then (.iload_n 0, 7, (0, 0, 0), 0, 0, []) else TN) else (bif Nat.beq pc 7 then (.bipush 122, 9, (0, 0, 0), 122, 0, []) else TN)))) else (bif Nat.blt pc 13 then (bif Nat.blt pc 12 then (bif Nat.beq pc 9 then (.if_icmp .gt 7, 12, (16, 0, 0), 0, 0, []) else TN) else (bif Nat.beq pc 12 then (.iconst 1, 13, (0, 0, 0), 1, 0, []) else TN)) else (bif Nat.blt pc 16 then (bif Nat.beq pc 13 then (.goto 4, 16, (17, 0, 0), 0, 0, []) else TN) else (bif Nat.blt pc 17 then (bif Nat.beq pc 16 then (.iconst 0, 17, (0, 0, 0), 0, 0, []) else TN) else (bif Nat.beq pc 17 then (.ireturn, 18, (0, 0, 0), 0, 0, []) else TN))))
def tb_X11_isLetter (pc : Nat) : TI := bif Nat.ble 18 pc then TN else tt_X11_isLetter pc
theorem ok_X11_isLetter : tOK 11 (decide ("isLetter" = "<init>")) cX11_isLetter tb_X11_isLetter := tOK_of 18 tn_of (by decide +kernel)
def f_X11_isLetter (L : Lay) (σ : Sto) (a0 : Int32) : Option Int32 := (if a0 < 97 then (ckN 1 0).bind fun _ => some 0 else (if 122 < a0 then (ckN 1 0).bind fun _ => some 0 else (ckN 1 1).bind fun _ => some 1))
def ad_X11_isLetter : ADT := fun O L σ as k => match as with
  | [.inl a0] => (f_X11_isLetter L σ a0).bind fun r => k (some (vI r)) L σ
  | _ => none
abbrev cl_X11_isLetter {O : Type} : CLT O := cl0
theorem hc_X11_isLetter (G : GT) (l : Launch) {d : Nat} (hd : 1 ≤ d) {O : Type} : HCL G l (true, true) d (cl_X11_isLetter (O := O)) := hcl0
theorem rt_X11_isLetter : retOK (1, 0) (some .boolean) := ⟨fun _ => rfl, fun h => absurd h (by decide), fun h => absurd h (by decide)⟩
set_option maxRecDepth 20000 in
theorem ca_X11_isLetter (G : GT) (l : Launch) {d : Nat} (hd : 1 ≤ d) : CA G l 78 (true, true) d ad_X11_isLetter := by
  intro O L σ as k o h hW hok
  unfold ad_X11_isLetter at h
  split at h
  · have hA0 := h
    obtain ⟨r, hr, hk⟩ := Option.bind_eq_some_iff.mp hA0
    exact ca_of (q := (dcPI L σ) r) (by decide) rfl (Nat.le_of_ble_eq_true rfl) hk (fun _ => rfl) (fun _ => rfl) (exs (sp := []) (K := k0) (L0 := L) (σ0 := σ) ok_X11_isLetter rt_X11_isLetter (by omega) (hc_X11_isLetter G l hd) (hrPI rfl rfl) hk0 13 hr (inv0 hW hok))
  · cases h
