def tt_X11_isHalfList (pc : Nat) : TI := bif Nat.blt pc 8 then (bif Nat.blt pc 4 then (bif Nat.blt pc 1 then (bif Nat.beq pc 0 then (.iload_n 0, 1, (0, 0, 0), 0, 0, []) else TN) else (bif Nat.beq pc 1 then (.ifCond .lt 14, 4, (15, 0, 0), 0, 0, []) else TN)) else (bif Nat.blt pc 5 then (bif Nat.beq pc 4 then (.iload_n 0, 5, (0, 0, 0), 0, 0, []) else TN) else (bif Nat.blt pc 7 then (bif Nat.beq pc 5 then (.bipush 20, 7, (0, 0, 0), 20, 0, []) else TN) else (bif Nat.beq pc 7 then (.ishr, 8, (0, 0, 0), 0, 0, []) else TN)))) else (bif Nat.blt pc 12 then (bif Nat.blt pc 11 then (bif Nat.beq pc 8 then (.ifCond .ne 7, 11, (15, 0, 0), 0, 0, []) else TN) else (bif Nat.beq pc 11 then (.iconst 1, 12, (0, 0, 0), 1, 0, []) else TN)) else (bif Nat.blt pc 15 then (bif Nat.beq pc 12 then (.goto 4, 15, (16, 0, 0), 0, 0, []) else TN) else (bif Nat.blt pc 16 then (bif Nat.beq pc 15 then (.iconst 0, 16, (0, 0, 0), 0, 0, []) else TN) else (bif Nat.beq pc 16 then (.ireturn, 17, (0, 0, 0), 0, 0, []) else TN))))
def tb_X11_isHalfList (pc : Nat) : TI := bif Nat.ble 17 pc then TN else tt_X11_isHalfList pc
theorem ok_X11_isHalfList : tOK 11 (decide ("isHalfList" = "<init>")) cX11_isHalfList tb_X11_isHalfList := tOK_of 17 tn_of (by decide +kernel)
def f_X11_isHalfList (L : Lay) (σ : Sto) (a0 : Int32) : Option Int32 := (if a0 < 0 then (ckN 1 0).bind fun _ => some 0 else (if (a0 >>> (20 &&& 31)) = 0 then (ckN 1 1).bind fun _ => some 1 else (ckN 1 0).bind fun _ => some 0))
def ad_X11_isHalfList : ADT := fun O L σ as k => match as with
  | [.inl a0] => (f_X11_isHalfList L σ a0).bind fun r => k (some (vI r)) L σ
  | _ => none
abbrev cl_X11_isHalfList {O : Type} : CLT O := cl0
theorem hc_X11_isHalfList (G : GT) (l : Launch) {d : Nat} (hd : 1 ≤ d) {O : Type} : HCL G l (true, true) d (cl_X11_isHalfList (O := O)) := hcl0
theorem rt_X11_isHalfList : retOK (1, 0) (some .boolean) := ⟨fun _ => rfl, fun h => absurd h (by decide), fun h => absurd h (by decide)⟩
set_option maxRecDepth 20000 in
theorem ca_X11_isHalfList (G : GT) (l : Launch) {d : Nat} (hd : 1 ≤ d) : CA G l 76 (true, true) d ad_X11_isHalfList := by
  intro O L σ as k o h hW hok
  unfold ad_X11_isHalfList at h
  split at h
  · have hA0 := h
    obtain ⟨r, hr, hk⟩ := Option.bind_eq_some_iff.mp hA0
    exact ca_of (q := (dcPI L σ) r) (by decide) rfl (Nat.le_of_ble_eq_true rfl) hk (fun _ => rfl) (fun _ => rfl) (exs (sp := []) (K := k0) (L0 := L) (σ0 := σ) ok_X11_isHalfList rt_X11_isHalfList (by omega) (hc_X11_isHalfList G l hd) (hrPI rfl rfl) hk0 13 hr (inv0 hW hok))
  · cases h
def tt_X11_isKnownDay (pc : Nat) : TI := bif Nat.blt pc 6 then (bif Nat.blt pc 2 then (bif Nat.blt pc 1 then (bif Nat.beq pc 0 then (.iload_n 2, 1, (2, 0, 0), 0, 0, []) else TN) else (bif Nat.beq pc 1 then (.aload_n 1, 2, (1, 0, 0), 0, 0, []) else TN)) else (bif Nat.blt pc 5 then (bif Nat.beq pc 2 then (.getfield 270, 5, (0, 2, 1), 0, 0, []) else TN) else (bif Nat.beq pc 5 then (.aload_n 0, 6, (0, 0, 0), 0, 0, []) else TN))) else (bif Nat.blt pc 12 then (bif Nat.blt pc 9 then (bif Nat.beq pc 6 then (.getfield 12, 9, (11, 0, 0), 0, 0, []) else TN) else (bif Nat.beq pc 9 then (.getfield 124, 12, (10, 4, 1), 0, 0, []) else TN)) else (bif Nat.blt pc 15 then (bif Nat.beq pc 12 then (.invokestatic 115, 15, (83, 3, 0), 0, 0, []) else TN) else (bif Nat.beq pc 15 then (.ireturn, 16, (0, 0, 0), 0, 0, []) else TN)))
def tb_X11_isKnownDay (pc : Nat) : TI := bif Nat.ble 16 pc then TN else tt_X11_isKnownDay pc
theorem ok_X11_isKnownDay : tOK 11 (decide ("isKnownDay" = "<init>")) cX11_isKnownDay tb_X11_isKnownDay := tOK_of 16 tn_of (by decide +kernel)
def f_X11_isKnownDay (L : Lay) (σ : Sto) (a0 : Nat) (a1 : Option Nat) (a2 : Int32) : Option Int32 := a1.bind fun x1 => (σ.2.1 a0 0).bind fun x2 => (f_X11_isWithin L σ a2 (σ.1 x1 2) (σ.1 x2 4)).bind fun r3 => (ckN 1 r3).bind fun _ => some r3
def ad_X11_isKnownDay : ADT := fun O L σ as k => match as with
  | [.inr (.inr (.inl (ta0, some a0))), .inr (.inr (.inl (ta1, a1))), .inl a2] => bif Nat.beq ta0 11 && (Nat.beq ta1 0 && true) then (f_X11_isKnownDay L σ a0 a1 a2).bind fun r => k (some (vI r)) L σ else none
  | _ => none
abbrev cl_X11_isKnownDay {O : Type} : CLT O := (clc 83 ad_X11_isWithin cl0)
theorem hc_X11_isKnownDay (G : GT) (l : Launch) {d : Nat} (hd : 2 ≤ d) {O : Type} : HCL G l (true, true) d (cl_X11_isKnownDay (O := O)) := (hclc (ca_X11_isWithin G l (d := 1) (Nat.le_refl _)) (fun _ => rfl) (fun _ => rfl) (by omega) hcl0)
theorem rt_X11_isKnownDay : retOK (1, 0) (some .boolean) := ⟨fun _ => rfl, fun h => absurd h (by decide), fun h => absurd h (by decide)⟩
set_option maxRecDepth 20000 in
theorem ca_X11_isKnownDay (G : GT) (l : Launch) {d : Nat} (hd : 2 ≤ d) : CA G l 77 (true, true) d ad_X11_isKnownDay := by
  intro O L σ as k o h hW hok
  unfold ad_X11_isKnownDay at h
  split at h
  · obtain ⟨hq0, hA0⟩ := bif_s h
    obtain ⟨e0, hq1⟩ := beq_and hq0
    obtain ⟨e1, hq2⟩ := beq_and hq1
    subst e0
    subst e1
    obtain ⟨r, hr, hk⟩ := Option.bind_eq_some_iff.mp hA0
    exact ca_of (q := (dcPI L σ) r) (by decide) rfl (Nat.le_of_ble_eq_true rfl) hk (fun _ => rfl) (fun _ => rfl) (exs (sp := []) (K := k0) (L0 := L) (σ0 := σ) ok_X11_isKnownDay rt_X11_isKnownDay (by omega) (hc_X11_isKnownDay G l hd) (hrPI rfl rfl) hk0 11 hr (inv0 hW hok))
  · cases h
def tt_X11_isMark (pc : Nat) : TI := bif Nat.blt pc 2 then (bif Nat.blt pc 1 then (bif Nat.beq pc 0 then (.iload_n 0, 1, (0, 0, 0), 0, 0, []) else TN) else (bif Nat.beq pc 1 then (.iconst 0, 2, (0, 0, 0), 0, 0, []) else TN)) else (bif Nat.blt pc 5 then (bif Nat.beq pc 2 then (.sipush 9999, 5, (0, 0, 0), 9999, 0, []) else TN) else (bif Nat.blt pc 8 then (bif Nat.beq pc 5 then (.invokestatic 115, 8, (83, 3, 0), 0, 0, []) else TN) else (bif Nat.beq pc 8 then (.ireturn, 9, (0, 0, 0), 0, 0, []) else TN)))
def tb_X11_isMark (pc : Nat) : TI := bif Nat.ble 9 pc then TN else tt_X11_isMark pc
theorem ok_X11_isMark : tOK 11 (decide ("isMark" = "<init>")) cX11_isMark tb_X11_isMark := tOK_of 9 tn_of (by decide +kernel)
def f_X11_isMark (L : Lay) (σ : Sto) (a0 : Int32) : Option Int32 := (f_X11_isWithin L σ a0 0 9999).bind fun r1 => (ckN 1 r1).bind fun _ => some r1
def ad_X11_isMark : ADT := fun O L σ as k => match as with
  | [.inl a0] => (f_X11_isMark L σ a0).bind fun r => k (some (vI r)) L σ
  | _ => none
abbrev cl_X11_isMark {O : Type} : CLT O := (clc 83 ad_X11_isWithin cl0)
theorem hc_X11_isMark (G : GT) (l : Launch) {d : Nat} (hd : 2 ≤ d) {O : Type} : HCL G l (true, true) d (cl_X11_isMark (O := O)) := (hclc (ca_X11_isWithin G l (d := 1) (Nat.le_refl _)) (fun _ => rfl) (fun _ => rfl) (by omega) hcl0)
theorem rt_X11_isMark : retOK (1, 0) (some .boolean) := ⟨fun _ => rfl, fun h => absurd h (by decide), fun h => absurd h (by decide)⟩
set_option maxRecDepth 20000 in
theorem ca_X11_isMark (G : GT) (l : Launch) {d : Nat} (hd : 2 ≤ d) : CA G l 80 (true, true) d ad_X11_isMark := by
  intro O L σ as k o h hW hok
  unfold ad_X11_isMark at h
  split at h
  · have hA0 := h
    obtain ⟨r, hr, hk⟩ := Option.bind_eq_some_iff.mp hA0
    exact ca_of (q := (dcPI L σ) r) (by decide) rfl (Nat.le_of_ble_eq_true rfl) hk (fun _ => rfl) (fun _ => rfl) (exs (sp := []) (K := k0) (L0 := L) (σ0 := σ) ok_X11_isMark rt_X11_isMark (by omega) (hc_X11_isMark G l hd) (hrPI rfl rfl) hk0 8 hr (inv0 hW hok))
  · cases h
def tt_X11_isOf (pc : Nat) : TI := bif Nat.blt pc 18 then (bif Nat.blt pc 8 then (bif Nat.blt pc 4 then (bif Nat.blt pc 1 then (bif Nat.beq pc 0 then (.aload_n 0, 1, (0, 0, 0), 0, 0, []) else TN) else (bif Nat.beq pc 1 then (.getfield 12, 4, (11, 0, 0), 0, 0, []) else TN)) else (bif Nat.blt pc 5 then (bif Nat.beq pc 4 then (.iload_n 1, 5, (1, 0, 0), 0, 0, []) else TN) else (bif Nat.beq pc 5 then (.invokevirtual 101, 8, (47, 1, 10), 0, 0, []) else TN))) else (bif Nat.blt pc 12 then (bif Nat.blt pc 11 then (bif Nat.beq pc 8 then (.ifCond .eq 10, 11, (18, 0, 0), 0, 0, []) else TN) else (bif Nat.beq pc 11 then (.iload_n 2, 12, (2, 0, 0), 0, 0, []) else TN)) else (bif Nat.blt pc 15 then (bif Nat.beq pc 12 then (.invokestatic 87, 15, (52, 1, 0), 0, 0, []) else TN) else (bif Nat.beq pc 15 then (.ifCond .ne 6, 18, (21, 0, 0), 0, 0, []) else TN)))) else (bif Nat.blt pc 25 then (bif Nat.blt pc 21 then (bif Nat.blt pc 20 then (bif Nat.beq pc 18 then (.ldc 91, 20, (0, 0, 0), -1000000001, 0, []) else TN) else (bif Nat.beq pc 20 then (.ireturn, 21, (0, 0, 0), 0, 0, []) else TN)) else (bif Nat.blt pc 22 then (bif Nat.beq pc 21 then (.aload_n 0, 22, (0, 0, 0), 0, 0, []) else TN) else (bif Nat.beq pc 22 then (.getfield 12, 25, (11, 0, 0), 0, 0, []) else TN))) else (bif Nat.blt pc 27 then (bif Nat.blt pc 26 then (bif Nat.beq pc 25 then (.iload_n 1, 26, (1, 0, 0), 0, 0, []) else TN) else (bif Nat.beq pc 26 then (.iload_n 2, 27, (2, 0, 0), 0, 0, []) else TN)) else (bif Nat.blt pc 30 then (bif Nat.beq pc 27 then (.invokevirtual 104, 30, (51, 2, 10), 0, 0, []) else TN) else (bif Nat.blt pc 33 then (bif Nat.beq pc 30 then (.invokestatic 108, 33, (100, 1, 0), 0, 0, []) else TN) else (bif Nat.beq pc 33 then (.ireturn, 34, (0, 0, 0), 0, 0, []) else TN)))))
def tb_X11_isOf (pc : Nat) : TI := bif Nat.ble 34 pc then TN else tt_X11_isOf pc
theorem ok_X11_isOf : tOK 11 (decide ("isOf" = "<init>")) cX11_isOf tb_X11_isOf := tOK_of 34 tn_of (by decide +kernel)
def f_X11_isOf (L : Lay) (σ : Sto) (a0 : Nat) (a1 : Int32) (a2 : Int32) : Option Int32 := (σ.2.1 a0 0).bind fun x1 => (f_X10_hasBranch L σ x1 a1).bind fun r2 => (if r2 = 0 then some (-1000000001) else (f_X10_isKind L σ a2).bind fun r3 => (if r3 = 0 then some (-1000000001) else (σ.2.1 a0 0).bind fun x4 => (f_X10_isBranchOf L σ x4 a1 a2).bind fun r5 => (f_X11_oneIf L σ r5).bind fun r6 => some r6))
def ad_X11_isOf : ADT := fun O L σ as k => match as with
  | [.inr (.inr (.inl (ta0, some a0))), .inl a1, .inl a2] => bif Nat.beq ta0 11 && true then (f_X11_isOf L σ a0 a1 a2).bind fun r => k (some (vI r)) L σ else none
  | _ => none
abbrev cl_X11_isOf {O : Type} : CLT O := (clc 47 ad_X10_hasBranch (clc 52 ad_X10_isKind (clc 51 ad_X10_isBranchOf (clc 100 ad_X11_oneIf cl0))))
theorem hc_X11_isOf (G : GT) (l : Launch) {d : Nat} (hd : 4 ≤ d) {O : Type} : HCL G l (true, true) d (cl_X11_isOf (O := O)) := (hclc (ca_X10_hasBranch G l (d := 2) (Nat.le_refl _)) (fun _ => rfl) (fun _ => rfl) (by omega) (hclc (ca_X10_isKind G l (d := 2) (Nat.le_refl _)) (fun _ => rfl) (fun _ => rfl) (by omega) (hclc (ca_X10_isBranchOf G l (d := 3) (Nat.le_refl _)) (fun _ => rfl) (fun _ => rfl) (by omega) (hclc (ca_X11_oneIf G l (d := 1) (Nat.le_refl _)) (fun _ => rfl) (fun _ => rfl) (by omega) hcl0))))
theorem rt_X11_isOf : retOK (0, 0) (some .int) := ⟨fun _ => rfl, fun h => absurd h (by decide), fun h => absurd h (by decide)⟩
set_option maxRecDepth 20000 in
theorem ca_X11_isOf (G : GT) (l : Launch) {d : Nat} (hd : 4 ≤ d) : CA G l 81 (true, true) d ad_X11_isOf := by
  intro O L σ as k o h hW hok
  unfold ad_X11_isOf at h
  split at h
  · obtain ⟨hq0, hA0⟩ := bif_s h
    obtain ⟨e0, hq1⟩ := beq_and hq0
    subst e0
    obtain ⟨r, hr, hk⟩ := Option.bind_eq_some_iff.mp hA0
    exact ca_of (q := (dcPI L σ) r) (by decide) rfl (Nat.le_of_ble_eq_true rfl) hk (fun _ => rfl) (fun _ => rfl) (exs (sp := []) (K := k0) (L0 := L) (σ0 := σ) ok_X11_isOf rt_X11_isOf (by omega) (hc_X11_isOf G l hd) (hrPI rfl rfl) hk0 20 hr (inv0 hW hok))
  · cases h
def tt_X11_isStanding (pc : Nat) : TI := bif Nat.blt pc 16 then (bif Nat.blt pc 8 then (bif Nat.blt pc 4 then (bif Nat.blt pc 1 then (bif Nat.beq pc 0 then (.aload_n 0, 1, (0, 0, 0), 0, 0, []) else TN) else (bif Nat.beq pc 1 then (.getfield 308, 4, (11, 8, 0), 0, 0, []) else TN)) else (bif Nat.blt pc 7 then (bif Nat.beq pc 4 then (.ifCond .eq 25, 7, (29, 0, 0), 0, 0, []) else TN) else (bif Nat.beq pc 7 then (.aload_n 1, 8, (1, 0, 0), 0, 0, []) else TN))) else (bif Nat.blt pc 12 then (bif Nat.blt pc 11 then (bif Nat.beq pc 8 then (.getfield 245, 11, (0, 3, 1), 0, 0, []) else TN) else (bif Nat.beq pc 11 then (.iload_n 2, 12, (2, 0, 0), 0, 0, []) else TN)) else (bif Nat.blt pc 15 then (bif Nat.beq pc 12 then (.if_icmp .gt 17, 15, (29, 0, 0), 0, 0, []) else TN) else (bif Nat.beq pc 15 then (.aload_n 0, 16, (0, 0, 0), 0, 0, []) else TN)))) else (bif Nat.blt pc 22 then (bif Nat.blt pc 18 then (bif Nat.blt pc 17 then (bif Nat.beq pc 16 then (.aload_n 1, 17, (1, 0, 0), 0, 0, []) else TN) else (bif Nat.beq pc 17 then (.iconst 0, 18, (0, 0, 0), 0, 0, []) else TN)) else (bif Nat.blt pc 19 then (bif Nat.beq pc 18 then (.iload_n 2, 19, (2, 0, 0), 0, 0, []) else TN) else (bif Nat.beq pc 19 then (.invokevirtual 315, 22, (86, 3, 11), 0, 0, []) else TN))) else (bif Nat.blt pc 26 then (bif Nat.blt pc 25 then (bif Nat.beq pc 22 then (.ifCond .eq 7, 25, (29, 0, 0), 0, 0, []) else TN) else (bif Nat.beq pc 25 then (.iconst 1, 26, (0, 0, 0), 1, 0, []) else TN)) else (bif Nat.blt pc 29 then (bif Nat.beq pc 26 then (.goto 4, 29, (30, 0, 0), 0, 0, []) else TN) else (bif Nat.blt pc 30 then (bif Nat.beq pc 29 then (.iconst 0, 30, (0, 0, 0), 0, 0, []) else TN) else (bif Nat.beq pc 30 then (.ireturn, 31, (0, 0, 0), 0, 0, []) else TN)))))
def tb_X11_isStanding (pc : Nat) : TI := bif Nat.ble 31 pc then TN else tt_X11_isStanding pc
theorem ok_X11_isStanding : tOK 11 (decide ("isStanding" = "<init>")) cX11_isStanding tb_X11_isStanding := tOK_of 31 tn_of (by decide +kernel)
def f_X11_isStanding (L : Lay) (σ : Sto) (a0 : Nat) (a1 : Option Nat) (a2 : Int32) : Option (Int32 × Sto) := (if (σ.1 a0 8) = 0 then (ckN 1 0).bind fun _ => some (0, σ) else a1.bind fun x1 => (if a2 < (σ.1 x1 3) then (ckN 1 0).bind fun _ => some (0, σ) else (f_X11_lawFor L σ a0 a1 0 a2).bind fun r2 => (if r2.1 = 0 then (ckN 1 0).bind fun _ => some (0, r2.2) else (ckN 1 1).bind fun _ => some (1, r2.2))))
def ad_X11_isStanding : ADT := fun O L σ as k => match as with
  | [.inr (.inr (.inl (ta0, some a0))), .inr (.inr (.inl (ta1, a1))), .inl a2] => bif Nat.beq ta0 11 && (Nat.beq ta1 0 && true) then (f_X11_isStanding L σ a0 a1 a2).bind fun r => k (some (vI r.1)) L r.2 else none
  | _ => none
abbrev cl_X11_isStanding {O : Type} : CLT O := (clc 86 ad_X11_lawFor cl0)
theorem hc_X11_isStanding (G : GT) (l : Launch) {d : Nat} (hd : 7 ≤ d) {O : Type} : HCL G l (true, false) d (cl_X11_isStanding (O := O)) := (hclc (ca_X11_lawFor G l (d := 6) (Nat.le_refl _)) (fun _ => rfl) (fun e => by cases e) (by omega) hcl0)
theorem rt_X11_isStanding : retOK (1, 0) (some .boolean) := ⟨fun _ => rfl, fun h => absurd h (by decide), fun h => absurd h (by decide)⟩
set_option maxRecDepth 20000 in
theorem ca_X11_isStanding (G : GT) (l : Launch) {d : Nat} (hd : 7 ≤ d) : CA G l 82 (true, false) d ad_X11_isStanding := by
  intro O L σ as k o h hW hok
  unfold ad_X11_isStanding at h
  split at h
  · obtain ⟨hq0, hA0⟩ := bif_s h
    obtain ⟨e0, hq1⟩ := beq_and hq0
    obtain ⟨e1, hq2⟩ := beq_and hq1
    subst e0
    subst e1
    obtain ⟨r, hr, hk⟩ := Option.bind_eq_some_iff.mp hA0
    exact ca_of (q := (dcI L) r) (by decide) rfl (Nat.le_of_ble_eq_true rfl) hk (fun _ => rfl) (fun e => by cases e) (exs (sp := []) (K := k0) (L0 := L) (σ0 := σ) ok_X11_isStanding rt_X11_isStanding (by omega) (hc_X11_isStanding G l hd) (hrI rfl) hk0 20 hr (inv0 hW hok))
  · cases h
def tt_X7_differingFigures (pc : Nat) : TI := bif Nat.blt pc 22 then (bif Nat.blt pc 10 then (bif Nat.blt pc 4 then (bif Nat.blt pc 2 then (bif Nat.blt pc 1 then (bif Nat.beq pc 0 then (.iconst 0, 1, (0, 0, 0), 0, 0, []) else TN) else (bif Nat.beq pc 1 then (.istore_n 2, 2, (2, 0, 0), 0, 0, []) else TN)) else (bif Nat.blt pc 3 then (bif Nat.beq pc 2 then (.iconst 0, 3, (0, 0, 0), 0, 0, []) else TN) else (bif Nat.beq pc 3 then (.istore_n 3, 4, (3, 0, 0), 0, 0, []) else TN))) else (bif Nat.blt pc 6 then (bif Nat.blt pc 5 then (bif Nat.beq pc 4 then (.iload_n 3, 5, (3, 0, 0), 0, 0, []) else TN) else (bif Nat.beq pc 5 then (.iconst 4, 6, (0, 0, 0), 4, 0, []) else TN)) else (bif Nat.blt pc 9 then (bif Nat.beq pc 6 then (.if_icmp .ge 41, 9, (47, 0, 0), 0, 0, []) else TN) else (bif Nat.beq pc 9 then (.iload_n 2, 10, (2, 0, 0), 0, 0, []) else TN)))) else (bif Nat.blt pc 15 then (bif Nat.blt pc 13 then (bif Nat.blt pc 11 then (bif Nat.beq pc 10 then (.iload_n 0, 11, (0, 0, 0), 0, 0, []) else TN) else (bif Nat.beq pc 11 then (.bipush 10, 13, (0, 0, 0), 10, 0, []) else TN)) else (bif Nat.blt pc 14 then (bif Nat.beq pc 13 then (.irem, 14, (0, 0, 0), 0, 0, []) else TN) else (bif Nat.beq pc 14 then (.iload_n 1, 15, (1, 0, 0), 0, 0, []) else TN))) else (bif Nat.blt pc 18 then (bif Nat.blt pc 17 then (bif Nat.beq pc 15 then (.bipush 10, 17, (0, 0, 0), 10, 0, []) else TN) else (bif Nat.beq pc 17 then (.irem, 18, (0, 0, 0), 0, 0, []) else TN)) else (bif Nat.blt pc 21 then (bif Nat.beq pc 18 then (.if_icmp .eq 7, 21, (25, 0, 0), 0, 0, []) else TN) else (bif Nat.beq pc 21 then (.iconst 1, 22, (0, 0, 0), 1, 0, []) else TN))))) else (bif Nat.blt pc 35 then (bif Nat.blt pc 30 then (bif Nat.blt pc 26 then (bif Nat.blt pc 25 then (bif Nat.beq pc 22 then (.goto 4, 25, (26, 0, 0), 0, 0, []) else TN) else (bif Nat.beq pc 25 then (.iconst 0, 26, (0, 0, 0), 0, 0, []) else TN)) else (bif Nat.blt pc 29 then (bif Nat.beq pc 26 then (.invokestatic 96, 29, (100, 1, 0), 0, 0, []) else TN) else (bif Nat.beq pc 29 then (.iadd, 30, (0, 0, 0), 0, 0, []) else TN))) else (bif Nat.blt pc 32 then (bif Nat.blt pc 31 then (bif Nat.beq pc 30 then (.istore_n 2, 31, (2, 0, 0), 0, 0, []) else TN) else (bif Nat.beq pc 31 then (.iload_n 0, 32, (0, 0, 0), 0, 0, []) else TN)) else (bif Nat.blt pc 34 then (bif Nat.beq pc 32 then (.bipush 10, 34, (0, 0, 0), 10, 0, []) else TN) else (bif Nat.beq pc 34 then (.idiv, 35, (0, 0, 0), 0, 0, []) else TN)))) else (bif Nat.blt pc 40 then (bif Nat.blt pc 37 then (bif Nat.blt pc 36 then (bif Nat.beq pc 35 then (.istore_n 0, 36, (0, 0, 0), 0, 0, []) else TN) else (bif Nat.beq pc 36 then (.iload_n 1, 37, (1, 0, 0), 0, 0, []) else TN)) else (bif Nat.blt pc 39 then (bif Nat.beq pc 37 then (.bipush 10, 39, (0, 0, 0), 10, 0, []) else TN) else (bif Nat.beq pc 39 then (.idiv, 40, (0, 0, 0), 0, 0, []) else TN))) else (bif Nat.blt pc 44 then (bif Nat.blt pc 41 then (bif Nat.beq pc 40 then (.istore_n 1, 41, (1, 0, 0), 0, 0, []) else TN) else (bif Nat.beq pc 41 then (.iinc 3 1, 44, (3, 0, 0), 1, 0, []) else TN)) else (bif Nat.blt pc 47 then (bif Nat.beq pc 44 then (.goto (-40), 47, (4, 0, 0), 0, 0, []) else TN) else (bif Nat.blt pc 48 then (bif Nat.beq pc 47 then (.iload_n 2, 48, (2, 0, 0), 0, 0, []) else TN) else (bif Nat.beq pc 48 then (.ireturn, 49, (0, 0, 0), 0, 0, []) else TN))))))
def tb_X7_differingFigures (pc : Nat) : TI := bif Nat.ble 49 pc then TN else tt_X7_differingFigures pc
theorem ok_X7_differingFigures : tOK 7 (decide ("differingFigures" = "<init>")) cX7_differingFigures tb_X7_differingFigures := tOK_of 49 tn_of (by decide +kernel)
def f_X7_differingFigures_26 (c4 : Lay → Sto → Int32 → Int32 → Int32 → Int32 → Option Int32) (L : Lay) (σ : Sto) (a0 : Int32) (a1 : Int32) (a3 : Int32) (s0 : Int32) (s1 : Int32) : Option Int32 := (f_X11_oneIf L σ s0).bind fun r1 => (dv a0 10).bind fun q2 => (dv a1 10).bind fun q3 => c4 L σ q2 q3 (s1 + r1) (a3 + 1)
def A_X7_differingFigures_26 (c : Lay → Sto → Int32 → Int32 → Int32 → Int32 → Int32 → Option Int32) (lc : List (Option AV)) (st : List AV) (L : Lay) (σ : Sto) : Option Int32 := match lc, st with
  | [some (.inl a0), some (.inl a1), _, some (.inl a3)], [.inl s0, .inl s1] => c L σ a0 a1 a3 s0 s1
  | _, _ => none
def f_X7_differingFigures_4 : Nat → Lay → Sto → Int32 → Int32 → Int32 → Int32 → Option Int32
  | 0 => fun _ _ _ _ _ _ => none
  | k + 1 => fun L σ a0 a1 a2 a3 => (if 4 ≤ a3 then some a2 else (rm a0 10).bind fun q4 => (rm a1 10).bind fun q5 => (if q4 = q5 then (f_X7_differingFigures_26 (f_X7_differingFigures_4 k)) L σ a0 a1 a3 0 a2 else (f_X7_differingFigures_26 (f_X7_differingFigures_4 k)) L σ a0 a1 a3 1 a2))
def A_X7_differingFigures_4 (c : Lay → Sto → Int32 → Int32 → Int32 → Int32 → Option Int32) (lc : List (Option AV)) (st : List AV) (L : Lay) (σ : Sto) : Option Int32 := match lc, st with
  | [some (.inl a0), some (.inl a1), some (.inl a2), some (.inl a3)], [] => c L σ a0 a1 a2 a3
  | _, _ => none
def f_X7_differingFigures (L : Lay) (σ : Sto) (a0 : Int32) (a1 : Int32) : Option Int32 := (f_X7_differingFigures_4 FU) L σ a0 a1 0 0
def ad_X7_differingFigures : ADT := fun O L σ as k => match as with
  | [.inl a0, .inl a1] => (f_X7_differingFigures L σ a0 a1).bind fun r => k (some (vI r)) L σ
  | _ => none
abbrev cl_X7_differingFigures {O : Type} : CLT O := (clc 100 ad_X11_oneIf cl0)
theorem hc_X7_differingFigures (G : GT) (l : Launch) {d : Nat} (hd : 2 ≤ d) {O : Type} : HCL G l (true, true) d (cl_X7_differingFigures (O := O)) := (hclc (ca_X11_oneIf G l (d := 1) (Nat.le_refl _)) (fun _ => rfl) (fun _ => rfl) (by omega) hcl0)
theorem rt_X7_differingFigures : retOK (0, 0) (some .int) := ⟨fun _ => rfl, fun h => absurd h (by decide), fun h => absurd h (by decide)⟩
set_option maxRecDepth 20000 in
theorem b_X7_differingFigures_26 {G : GT} {l : Launch} {d : Nat} {L0 : Lay} {σ0 : Sto} (hd : 2 ≤ d) {c4 : Lay → Sto → Int32 → Int32 → Int32 → Int32 → Option Int32} (h4 : HF G l 7 "differingFigures" cX7_differingFigures 4 (some .int) d L0 σ0 (true, true) (dcPI L0 σ0) 4 (A_X7_differingFigures_4 c4)) : HF G l 7 "differingFigures" cX7_differingFigures 4 (some .int) d L0 σ0 (true, true) (dcPI L0 σ0) 26 (A_X7_differingFigures_26 (f_X7_differingFigures_26 c4)) := by
  intro lc st L σ o h hI
  unfold A_X7_differingFigures_26 at h
  split at h
  · have hA0 := h
    exact exs (sp := [4]) (K := (kc 4 (A_X7_differingFigures_4 c4) k0)) ok_X7_differingFigures rt_X7_differingFigures (by omega) (hc_X7_differingFigures G l hd) (hrPI rfl rfl) (hkc h4 hk0) 36 hA0 hI
  · cases h
set_option maxRecDepth 20000 in
theorem b_X7_differingFigures_4 {G : GT} {l : Launch} {d : Nat} {L0 : Lay} {σ0 : Sto} (hd : 2 ≤ d) : ∀ k : Nat, HF G l 7 "differingFigures" cX7_differingFigures 4 (some .int) d L0 σ0 (true, true) (dcPI L0 σ0) 4 (A_X7_differingFigures_4 (f_X7_differingFigures_4 k))
  | 0 => by
    intro lc st L σ o h hI
    unfold A_X7_differingFigures_4 at h
    split at h
    · cases h
    · cases h
  | k + 1 => by
    have ih := b_X7_differingFigures_4 (G := G) (l := l) (d := d) (L0 := L0) (σ0 := σ0) hd k
    intro lc st L σ o h hI
    unfold A_X7_differingFigures_4 at h
    split at h
    · have hA0 := h
      exact exs (sp := [26]) (K := (kc 26 (A_X7_differingFigures_26 (f_X7_differingFigures_26 (f_X7_differingFigures_4 k))) k0)) ok_X7_differingFigures rt_X7_differingFigures (by omega) (hc_X7_differingFigures G l hd) (hrPI rfl rfl) (hkc (b_X7_differingFigures_26 hd ih) hk0) 36 hA0 hI
    · cases h
set_option maxRecDepth 20000 in
theorem ca_X7_differingFigures (G : GT) (l : Launch) {d : Nat} (hd : 2 ≤ d) : CA G l 257 (true, true) d ad_X7_differingFigures := by
  intro O L σ as k o h hW hok
  unfold ad_X7_differingFigures at h
  split at h
  · have hA0 := h
    obtain ⟨r, hr, hk⟩ := Option.bind_eq_some_iff.mp hA0
    exact ca_of (q := (dcPI L σ) r) (by decide) rfl (Nat.le_of_ble_eq_true rfl) hk (fun _ => rfl) (fun _ => rfl) (exs (sp := [4]) (K := (kc 4 (A_X7_differingFigures_4 (f_X7_differingFigures_4 FU)) k0)) (L0 := L) (σ0 := σ) ok_X7_differingFigures rt_X7_differingFigures (by omega) (hc_X7_differingFigures G l hd) (hrPI rfl rfl) (hkc (b_X7_differingFigures_4 hd FU) hk0) 36 hr (inv0 hW hok))
  · cases h
def tt_X7_partnerFor (pc : Nat) : TI := bif Nat.blt pc 43 then (bif Nat.blt pc 23 then (bif Nat.blt pc 10 then (bif Nat.blt pc 3 then (bif Nat.blt pc 1 then (bif Nat.beq pc 0 then (.iconst 0, 1, (0, 0, 0), 0, 0, []) else TN) else (bif Nat.blt pc 2 then (bif Nat.beq pc 1 then (.istore_n 3, 2, (3, 0, 0), 0, 0, []) else TN) else (bif Nat.beq pc 2 then (.iload_n 3, 3, (3, 0, 0), 0, 0, []) else TN))) else (bif Nat.blt pc 4 then (bif Nat.beq pc 3 then (.aload_n 0, 4, (0, 0, 0), 0, 0, []) else TN) else (bif Nat.blt pc 7 then (bif Nat.beq pc 4 then (.getfield 24, 7, (7, 0, 0), 0, 0, []) else TN) else (bif Nat.beq pc 7 then (.getfield 72, 10, (10, 3, 1), 0, 0, []) else TN)))) else (bif Nat.blt pc 17 then (bif Nat.blt pc 13 then (bif Nat.beq pc 10 then (.if_icmp .ge 78, 13, (88, 0, 0), 0, 0, []) else TN) else (bif Nat.blt pc 14 then (bif Nat.beq pc 13 then (.aload_n 0, 14, (0, 0, 0), 0, 0, []) else TN) else (bif Nat.beq pc 14 then (.getfield 24, 17, (7, 0, 0), 0, 0, []) else TN))) else (bif Nat.blt pc 18 then (bif Nat.beq pc 17 then (.iload_n 3, 18, (3, 0, 0), 0, 0, []) else TN) else (bif Nat.blt pc 21 then (bif Nat.beq pc 18 then (.invokevirtual 77, 21, (53, 1, 10), 0, 0, []) else TN) else (bif Nat.beq pc 21 then (.astore 4, 23, (4, 0, 0), 0, 0, []) else TN))))) else (bif Nat.blt pc 34 then (bif Nat.blt pc 29 then (bif Nat.blt pc 25 then (bif Nat.beq pc 23 then (.aload 4, 25, (4, 0, 0), 0, 0, []) else TN) else (bif Nat.blt pc 28 then (bif Nat.beq pc 25 then (.ifnull 57, 28, (82, 0, 0), 0, 0, []) else TN) else (bif Nat.beq pc 28 then (.aload_n 0, 29, (0, 0, 0), 0, 0, []) else TN))) else (bif Nat.blt pc 32 then (bif Nat.beq pc 29 then (.getfield 61, 32, (7, 6, 0), 0, 0, []) else TN) else (bif Nat.blt pc 33 then (bif Nat.beq pc 32 then (.iload_n 3, 33, (3, 0, 0), 0, 0, []) else TN) else (bif Nat.beq pc 33 then (.lshr, 34, (0, 0, 0), 0, 0, []) else TN)))) else (bif Nat.blt pc 37 then (bif Nat.blt pc 35 then (bif Nat.beq pc 34 then (.lconst 1, 35, (0, 0, 0), 0, 1, []) else TN) else (bif Nat.blt pc 36 then (bif Nat.beq pc 35 then (.land, 36, (0, 0, 0), 0, 0, []) else TN) else (bif Nat.beq pc 36 then (.lconst 0, 37, (0, 0, 0), 0, 0, []) else TN))) else (bif Nat.blt pc 38 then (bif Nat.beq pc 37 then (.lcmp, 38, (0, 0, 0), 0, 0, []) else TN) else (bif Nat.blt pc 41 then (bif Nat.beq pc 38 then (.ifCond .ne 44, 41, (82, 0, 0), 0, 0, []) else TN) else (bif Nat.beq pc 41 then (.aload 4, 43, (4, 0, 0), 0, 0, []) else TN)))))) else (bif Nat.blt pc 68 then (bif Nat.blt pc 57 then (bif Nat.blt pc 50 then (bif Nat.blt pc 44 then (bif Nat.beq pc 43 then (.aload_n 0, 44, (0, 0, 0), 0, 0, []) else TN) else (bif Nat.blt pc 47 then (bif Nat.beq pc 44 then (.getfield 24, 47, (7, 0, 0), 0, 0, []) else TN) else (bif Nat.beq pc 47 then (.getfield 81, 50, (10, 4, 1), 0, 0, []) else TN))) else (bif Nat.blt pc 53 then (bif Nat.beq pc 50 then (.invokevirtual 84, 53, (231, 1, 2), 0, 0, []) else TN) else (bif Nat.blt pc 54 then (bif Nat.beq pc 53 then (.aload_n 0, 54, (0, 0, 0), 0, 0, []) else TN) else (bif Nat.beq pc 54 then (.getfield 15, 57, (7, 2, 0), 0, 0, []) else TN)))) else (bif Nat.blt pc 62 then (bif Nat.blt pc 58 then (bif Nat.beq pc 57 then (.iload_n 1, 58, (1, 0, 0), 0, 0, []) else TN) else (bif Nat.blt pc 59 then (bif Nat.beq pc 58 then (.iaload, 59, (0, 0, 0), 0, 0, []) else TN) else (bif Nat.beq pc 59 then (.if_icmp .ne 23, 62, (82, 0, 0), 0, 0, []) else TN))) else (bif Nat.blt pc 64 then (bif Nat.beq pc 62 then (.aload 4, 64, (4, 0, 0), 0, 0, []) else TN) else (bif Nat.blt pc 67 then (bif Nat.beq pc 64 then (.getfield 90, 67, (2, 0, 1), 0, 0, []) else TN) else (bif Nat.beq pc 67 then (.aload_n 0, 68, (0, 0, 0), 0, 0, []) else TN))))) else (bif Nat.blt pc 80 then (bif Nat.blt pc 73 then (bif Nat.blt pc 71 then (bif Nat.beq pc 68 then (.getfield 9, 71, (7, 1, 0), 0, 0, []) else TN) else (bif Nat.blt pc 72 then (bif Nat.beq pc 71 then (.iload_n 1, 72, (1, 0, 0), 0, 0, []) else TN) else (bif Nat.beq pc 72 then (.iaload, 73, (0, 0, 0), 0, 0, []) else TN))) else (bif Nat.blt pc 76 then (bif Nat.beq pc 73 then (.invokestatic 93, 76, (257, 2, 0), 0, 0, []) else TN) else (bif Nat.blt pc 77 then (bif Nat.beq pc 76 then (.iload_n 2, 77, (2, 0, 0), 0, 0, []) else TN) else (bif Nat.beq pc 77 then (.if_icmp .ne 5, 80, (82, 0, 0), 0, 0, []) else TN)))) else (bif Nat.blt pc 85 then (bif Nat.blt pc 81 then (bif Nat.beq pc 80 then (.iload_n 3, 81, (3, 0, 0), 0, 0, []) else TN) else (bif Nat.blt pc 82 then (bif Nat.beq pc 81 then (.ireturn, 82, (0, 0, 0), 0, 0, []) else TN) else (bif Nat.beq pc 82 then (.iinc 3 1, 85, (3, 0, 0), 1, 0, []) else TN))) else (bif Nat.blt pc 88 then (bif Nat.beq pc 85 then (.goto (-83), 88, (2, 0, 0), 0, 0, []) else TN) else (bif Nat.blt pc 90 then (bif Nat.beq pc 88 then (.ldc 54, 90, (0, 0, 0), -1000000005, 0, []) else TN) else (bif Nat.beq pc 90 then (.ireturn, 91, (0, 0, 0), 0, 0, []) else TN))))))
def tb_X7_partnerFor (pc : Nat) : TI := bif Nat.ble 91 pc then TN else tt_X7_partnerFor pc
theorem ok_X7_partnerFor : tOK 7 (decide ("partnerFor" = "<init>")) cX7_partnerFor tb_X7_partnerFor := tOK_of 91 tn_of (by decide +kernel)
def f_X7_partnerFor_82 (c2 : Lay → Sto → Nat → Int32 → Int32 → Int32 → Option Int32) (L : Lay) (σ : Sto) (a0 : Nat) (a1 : Int32) (a2 : Int32) (a3 : Int32) : Option Int32 := c2 L σ a0 a1 a2 (a3 + 1)
def A_X7_partnerFor_82 (c : Lay → Sto → Nat → Int32 → Int32 → Int32 → Option Int32) (lc : List (Option AV)) (st : List AV) (L : Lay) (σ : Sto) : Option Int32 := match lc, st with
  | [some (.inr (.inr (.inl (ta0, some a0)))), some (.inl a1), some (.inl a2), some (.inl a3), _], [] => bif Nat.beq ta0 7 && true then c L σ a0 a1 a2 a3 else none
  | _, _ => none
def f_X7_partnerFor_2 : Nat → Lay → Sto → Nat → Int32 → Int32 → Int32 → Option Int32
  | 0 => fun _ _ _ _ _ _ => none
  | k + 1 => fun L σ a0 a1 a2 a3 => (σ.2.1 a0 0).bind fun x1 => (if (σ.1 x1 3) ≤ a3 then some (-1000000005) else (σ.2.1 a0 0).bind fun x2 => (f_X10_memberAt L σ x2 a3).bind fun o3 => (Option.elim o3 ((f_X7_partnerFor_82 (f_X7_partnerFor_2 k)) L σ a0 a1 a2 a3) (fun _ => (if (lg_cmp (((σ.2.2 a0 6) >>> (a3.toInt64 &&& 63)) &&& 1) 0) = 0 then (σ.2.1 a0 0).bind fun x4 => o3.bind fun x5 => (f_X2_branchOn L σ x5 (σ.1 x4 4)).bind fun r6 => (σ.2.1 a0 2).bind fun x7 => (rI L σ x7 a1).bind fun v8 => (if r6 = v8 then o3.bind fun x9 => (σ.2.1 a0 1).bind fun x10 => (rI L σ x10 a1).bind fun v11 => (f_X7_differingFigures L σ (σ.1 x9 0) v11).bind fun r12 => (if r12 = a2 then some a3 else (f_X7_partnerFor_82 (f_X7_partnerFor_2 k)) L σ a0 a1 a2 a3) else (f_X7_partnerFor_82 (f_X7_partnerFor_2 k)) L σ a0 a1 a2 a3) else (f_X7_partnerFor_82 (f_X7_partnerFor_2 k)) L σ a0 a1 a2 a3))))
def A_X7_partnerFor_2 (c : Lay → Sto → Nat → Int32 → Int32 → Int32 → Option Int32) (lc : List (Option AV)) (st : List AV) (L : Lay) (σ : Sto) : Option Int32 := match lc, st with
  | [some (.inr (.inr (.inl (ta0, some a0)))), some (.inl a1), some (.inl a2), some (.inl a3), _], [] => bif Nat.beq ta0 7 && true then c L σ a0 a1 a2 a3 else none
  | _, _ => none
def f_X7_partnerFor (L : Lay) (σ : Sto) (a0 : Nat) (a1 : Int32) (a2 : Int32) : Option Int32 := (f_X7_partnerFor_2 FU) L σ a0 a1 a2 0
def ad_X7_partnerFor : ADT := fun O L σ as k => match as with
  | [.inr (.inr (.inl (ta0, some a0))), .inl a1, .inl a2] => bif Nat.beq ta0 7 && true then (f_X7_partnerFor L σ a0 a1 a2).bind fun r => k (some (vI r)) L σ else none
  | _ => none
abbrev cl_X7_partnerFor {O : Type} : CLT O := (clc 53 ad_X10_memberAt (clc 231 ad_X2_branchOn (clc 257 ad_X7_differingFigures cl0)))
theorem hc_X7_partnerFor (G : GT) (l : Launch) {d : Nat} (hd : 3 ≤ d) {O : Type} : HCL G l (true, true) d (cl_X7_partnerFor (O := O)) := (hclc (ca_X10_memberAt G l (d := 2) (Nat.le_refl _)) (fun _ => rfl) (fun _ => rfl) (by omega) (hclc (ca_X2_branchOn G l (d := 1) (Nat.le_refl _)) (fun _ => rfl) (fun _ => rfl) (by omega) (hclc (ca_X7_differingFigures G l (d := 2) (Nat.le_refl _)) (fun _ => rfl) (fun _ => rfl) (by omega) hcl0)))
theorem rt_X7_partnerFor : retOK (0, 0) (some .int) := ⟨fun _ => rfl, fun h => absurd h (by decide), fun h => absurd h (by decide)⟩
set_option maxRecDepth 20000 in
theorem b_X7_partnerFor_82 {G : GT} {l : Launch} {d : Nat} {L0 : Lay} {σ0 : Sto} (hd : 3 ≤ d) {c2 : Lay → Sto → Nat → Int32 → Int32 → Int32 → Option Int32} (h2 : HF G l 7 "partnerFor" cX7_partnerFor 5 (some .int) d L0 σ0 (true, true) (dcPI L0 σ0) 2 (A_X7_partnerFor_2 c2)) : HF G l 7 "partnerFor" cX7_partnerFor 5 (some .int) d L0 σ0 (true, true) (dcPI L0 σ0) 82 (A_X7_partnerFor_82 (f_X7_partnerFor_82 c2)) := by
  intro lc st L σ o h hI
  unfold A_X7_partnerFor_82 at h
  split at h
  · obtain ⟨hq0, hA1⟩ := bif_s h
    obtain ⟨e0, hq1⟩ := beq_and hq0
    subst e0
    exact exs (sp := [2]) (K := (kc 2 (A_X7_partnerFor_2 c2) k0)) ok_X7_partnerFor rt_X7_partnerFor (by omega) (hc_X7_partnerFor G l hd) (hrPI rfl rfl) (hkc h2 hk0) 51 hA1 hI
  · cases h
set_option maxRecDepth 20000 in
theorem b_X7_partnerFor_2 {G : GT} {l : Launch} {d : Nat} {L0 : Lay} {σ0 : Sto} (hd : 3 ≤ d) : ∀ k : Nat, HF G l 7 "partnerFor" cX7_partnerFor 5 (some .int) d L0 σ0 (true, true) (dcPI L0 σ0) 2 (A_X7_partnerFor_2 (f_X7_partnerFor_2 k))
  | 0 => by
    intro lc st L σ o h hI
    unfold A_X7_partnerFor_2 at h
    split at h
    · obtain ⟨_, hA1⟩ := bif_s h
      cases hA1
    · cases h
  | k + 1 => by
    have ih := b_X7_partnerFor_2 (G := G) (l := l) (d := d) (L0 := L0) (σ0 := σ0) hd k
    intro lc st L σ o h hI
    unfold A_X7_partnerFor_2 at h
    split at h
    · obtain ⟨hq0, hA1⟩ := bif_s h
      obtain ⟨e0, hq1⟩ := beq_and hq0
      subst e0
      exact exs (sp := [82]) (K := (kc 82 (A_X7_partnerFor_82 (f_X7_partnerFor_82 (f_X7_partnerFor_2 k))) k0)) ok_X7_partnerFor rt_X7_partnerFor (by omega) (hc_X7_partnerFor G l hd) (hrPI rfl rfl) (hkc (b_X7_partnerFor_82 hd ih) hk0) 51 hA1 hI
    · cases h
set_option maxRecDepth 20000 in
theorem ca_X7_partnerFor (G : GT) (l : Launch) {d : Nat} (hd : 3 ≤ d) : CA G l 265 (true, true) d ad_X7_partnerFor := by
  intro O L σ as k o h hW hok
  unfold ad_X7_partnerFor at h
  split at h
  · obtain ⟨hq0, hA0⟩ := bif_s h
    obtain ⟨e0, hq1⟩ := beq_and hq0
    subst e0
    obtain ⟨r, hr, hk⟩ := Option.bind_eq_some_iff.mp hA0
    exact ca_of (q := (dcPI L σ) r) (by decide) rfl (Nat.le_of_ble_eq_true rfl) hk (fun _ => rfl) (fun _ => rfl) (exs (sp := [2]) (K := (kc 2 (A_X7_partnerFor_2 (f_X7_partnerFor_2 FU)) k0)) (L0 := L) (σ0 := σ) ok_X7_partnerFor rt_X7_partnerFor (by omega) (hc_X7_partnerFor G l hd) (hrPI rfl rfl) (hkc (b_X7_partnerFor_2 hd FU) hk0) 51 hr (inv0 hW hok))
  · cases h
def tt_X7_joinThoseWith (pc : Nat) : TI := bif Nat.blt pc 36 then (bif Nat.blt pc 16 then (bif Nat.blt pc 7 then (bif Nat.blt pc 2 then (bif Nat.blt pc 1 then (bif Nat.beq pc 0 then (.iconst 0, 1, (0, 0, 0), 0, 0, []) else TN) else (bif Nat.beq pc 1 then (.istore_n 2, 2, (2, 0, 0), 0, 0, []) else TN)) else (bif Nat.blt pc 3 then (bif Nat.beq pc 2 then (.iload_n 2, 3, (2, 0, 0), 0, 0, []) else TN) else (bif Nat.blt pc 4 then (bif Nat.beq pc 3 then (.aload_n 0, 4, (0, 0, 0), 0, 0, []) else TN) else (bif Nat.beq pc 4 then (.getfield 28, 7, (7, 3, 0), 0, 0, []) else TN)))) else (bif Nat.blt pc 11 then (bif Nat.blt pc 10 then (bif Nat.beq pc 7 then (.if_icmp .ge 64, 10, (71, 0, 0), 0, 0, []) else TN) else (bif Nat.beq pc 10 then (.aload_n 0, 11, (0, 0, 0), 0, 0, []) else TN)) else (bif Nat.blt pc 14 then (bif Nat.beq pc 11 then (.getfield 18, 14, (7, 4, 0), 0, 0, []) else TN) else (bif Nat.blt pc 15 then (bif Nat.beq pc 14 then (.iload_n 2, 15, (2, 0, 0), 0, 0, []) else TN) else (bif Nat.beq pc 15 then (.iaload, 16, (0, 0, 0), 0, 0, []) else TN))))) else (bif Nat.blt pc 24 then (bif Nat.blt pc 21 then (bif Nat.blt pc 18 then (bif Nat.beq pc 16 then (.ldc 54, 18, (0, 0, 0), -1000000005, 0, []) else TN) else (bif Nat.beq pc 18 then (.if_icmp .ne 12, 21, (30, 0, 0), 0, 0, []) else TN)) else (bif Nat.blt pc 22 then (bif Nat.beq pc 21 then (.aload_n 0, 22, (0, 0, 0), 0, 0, []) else TN) else (bif Nat.blt pc 23 then (bif Nat.beq pc 22 then (.iload_n 2, 23, (2, 0, 0), 0, 0, []) else TN) else (bif Nat.beq pc 23 then (.iload_n 1, 24, (1, 0, 0), 0, 0, []) else TN)))) else (bif Nat.blt pc 32 then (bif Nat.blt pc 27 then (bif Nat.beq pc 24 then (.invokevirtual 69, 27, (265, 2, 7), 0, 0, []) else TN) else (bif Nat.blt pc 30 then (bif Nat.beq pc 27 then (.goto 5, 30, (32, 0, 0), 0, 0, []) else TN) else (bif Nat.beq pc 30 then (.ldc 54, 32, (0, 0, 0), -1000000005, 0, []) else TN))) else (bif Nat.blt pc 33 then (bif Nat.beq pc 32 then (.istore_n 3, 33, (3, 0, 0), 0, 0, []) else TN) else (bif Nat.blt pc 34 then (bif Nat.beq pc 33 then (.iload_n 3, 34, (3, 0, 0), 0, 0, []) else TN) else (bif Nat.beq pc 34 then (.ldc 54, 36, (0, 0, 0), -1000000005, 0, []) else TN)))))) else (bif Nat.blt pc 53 then (bif Nat.blt pc 45 then (bif Nat.blt pc 40 then (bif Nat.blt pc 39 then (bif Nat.beq pc 36 then (.if_icmp .eq 29, 39, (65, 0, 0), 0, 0, []) else TN) else (bif Nat.beq pc 39 then (.aload_n 0, 40, (0, 0, 0), 0, 0, []) else TN)) else (bif Nat.blt pc 43 then (bif Nat.beq pc 40 then (.getfield 18, 43, (7, 4, 0), 0, 0, []) else TN) else (bif Nat.blt pc 44 then (bif Nat.beq pc 43 then (.iload_n 2, 44, (2, 0, 0), 0, 0, []) else TN) else (bif Nat.beq pc 44 then (.iload_n 3, 45, (3, 0, 0), 0, 0, []) else TN)))) else (bif Nat.blt pc 50 then (bif Nat.blt pc 46 then (bif Nat.beq pc 45 then (.iastore, 46, (0, 0, 0), 0, 0, []) else TN) else (bif Nat.blt pc 47 then (bif Nat.beq pc 46 then (.aload_n 0, 47, (0, 0, 0), 0, 0, []) else TN) else (bif Nat.beq pc 47 then (.getfield 21, 50, (7, 5, 0), 0, 0, []) else TN))) else (bif Nat.blt pc 51 then (bif Nat.beq pc 50 then (.iload_n 2, 51, (2, 0, 0), 0, 0, []) else TN) else (bif Nat.blt pc 52 then (bif Nat.beq pc 51 then (.iload_n 1, 52, (1, 0, 0), 0, 0, []) else TN) else (bif Nat.beq pc 52 then (.iastore, 53, (0, 0, 0), 0, 0, []) else TN))))) else (bif Nat.blt pc 60 then (bif Nat.blt pc 55 then (bif Nat.blt pc 54 then (bif Nat.beq pc 53 then (.aload_n 0, 54, (0, 0, 0), 0, 0, []) else TN) else (bif Nat.beq pc 54 then (.dup, 55, (0, 0, 0), 0, 0, []) else TN)) else (bif Nat.blt pc 58 then (bif Nat.beq pc 55 then (.getfield 61, 58, (7, 6, 0), 0, 0, []) else TN) else (bif Nat.blt pc 59 then (bif Nat.beq pc 58 then (.lconst 1, 59, (0, 0, 0), 0, 1, []) else TN) else (bif Nat.beq pc 59 then (.iload_n 3, 60, (3, 0, 0), 0, 0, []) else TN)))) else (bif Nat.blt pc 65 then (bif Nat.blt pc 61 then (bif Nat.beq pc 60 then (.lshl, 61, (0, 0, 0), 0, 0, []) else TN) else (bif Nat.blt pc 62 then (bif Nat.beq pc 61 then (.lor, 62, (0, 0, 0), 0, 0, []) else TN) else (bif Nat.beq pc 62 then (.putfield 61, 65, (7, 6, 0), 0, 0, []) else TN))) else (bif Nat.blt pc 68 then (bif Nat.beq pc 65 then (.iinc 2 1, 68, (2, 0, 0), 1, 0, []) else TN) else (bif Nat.blt pc 71 then (bif Nat.beq pc 68 then (.goto (-66), 71, (2, 0, 0), 0, 0, []) else TN) else (bif Nat.beq pc 71 then (.return_, 72, (0, 0, 0), 0, 0, []) else TN))))))
def tb_X7_joinThoseWith (pc : Nat) : TI := bif Nat.ble 72 pc then TN else tt_X7_joinThoseWith pc
theorem ok_X7_joinThoseWith : tOK 7 (decide ("joinThoseWith" = "<init>")) cX7_joinThoseWith tb_X7_joinThoseWith := tOK_of 72 tn_of (by decide +kernel)
def f_X7_joinThoseWith_65 (c2 : Lay → Sto → Nat → Int32 → Int32 → Option Sto) (L : Lay) (σ : Sto) (a0 : Nat) (a1 : Int32) (a2 : Int32) : Option Sto := c2 L σ a0 a1 (a2 + 1)
def A_X7_joinThoseWith_65 (c : Lay → Sto → Nat → Int32 → Int32 → Option Sto) (lc : List (Option AV)) (st : List AV) (L : Lay) (σ : Sto) : Option Sto := match lc, st with
  | [some (.inr (.inr (.inl (ta0, some a0)))), some (.inl a1), some (.inl a2), _], [] => bif Nat.beq ta0 7 && true then c L σ a0 a1 a2 else none
  | _, _ => none
def f_X7_joinThoseWith_32 (c2 : Lay → Sto → Nat → Int32 → Int32 → Option Sto) (L : Lay) (σ : Sto) (a0 : Nat) (a1 : Int32) (a2 : Int32) (s0 : Int32) : Option Sto := (if s0 = (-1000000005) then (f_X7_joinThoseWith_65 c2) L σ a0 a1 a2 else (σ.2.1 a0 4).bind fun x1 => (wI L σ x1 a2 s0).bind fun σ2 => (σ2.2.1 a0 5).bind fun x3 => (wI L σ2 x3 a2 a1).bind fun σ4 => (putJ σ4 a0 6 ((σ4.2.2 a0 6) ||| (1 <<< (s0.toInt64 &&& 63)))).bind fun σ5 => (f_X7_joinThoseWith_65 c2) L σ5 a0 a1 a2)
def A_X7_joinThoseWith_32 (c : Lay → Sto → Nat → Int32 → Int32 → Int32 → Option Sto) (lc : List (Option AV)) (st : List AV) (L : Lay) (σ : Sto) : Option Sto := match lc, st with
  | [some (.inr (.inr (.inl (ta0, some a0)))), some (.inl a1), some (.inl a2), _], [.inl s0] => bif Nat.beq ta0 7 && true then c L σ a0 a1 a2 s0 else none
  | _, _ => none
def f_X7_joinThoseWith_2 : Nat → Lay → Sto → Nat → Int32 → Int32 → Option Sto
  | 0 => fun _ _ _ _ _ => none
  | k + 1 => fun L σ a0 a1 a2 => (if (σ.1 a0 3) ≤ a2 then some σ else (σ.2.1 a0 4).bind fun x6 => (rI L σ x6 a2).bind fun v7 => (if v7 = (-1000000005) then (f_X7_partnerFor L σ a0 a2 a1).bind fun r8 => (f_X7_joinThoseWith_32 (f_X7_joinThoseWith_2 k)) L σ a0 a1 a2 r8 else (f_X7_joinThoseWith_32 (f_X7_joinThoseWith_2 k)) L σ a0 a1 a2 (-1000000005)))
def A_X7_joinThoseWith_2 (c : Lay → Sto → Nat → Int32 → Int32 → Option Sto) (lc : List (Option AV)) (st : List AV) (L : Lay) (σ : Sto) : Option Sto := match lc, st with
  | [some (.inr (.inr (.inl (ta0, some a0)))), some (.inl a1), some (.inl a2), _], [] => bif Nat.beq ta0 7 && true then c L σ a0 a1 a2 else none
  | _, _ => none
def f_X7_joinThoseWith (L : Lay) (σ : Sto) (a0 : Nat) (a1 : Int32) : Option Sto := (f_X7_joinThoseWith_2 FU) L σ a0 a1 0
def ad_X7_joinThoseWith : ADT := fun O L σ as k => match as with
  | [.inr (.inr (.inl (ta0, some a0))), .inl a1] => bif Nat.beq ta0 7 && true then (f_X7_joinThoseWith L σ a0 a1).bind fun σ2 => k none L σ2 else none
  | _ => none
abbrev cl_X7_joinThoseWith {O : Type} : CLT O := (clc 265 ad_X7_partnerFor cl0)
theorem hc_X7_joinThoseWith (G : GT) (l : Launch) {d : Nat} (hd : 4 ≤ d) {O : Type} : HCL G l (true, false) d (cl_X7_joinThoseWith (O := O)) := (hclc (ca_X7_partnerFor G l (d := 3) (Nat.le_refl _)) (fun _ => rfl) (fun e => by cases e) (by omega) hcl0)
theorem rt_X7_joinThoseWith : retOK (6, 0) none := ⟨fun h => absurd h (by decide), fun h => absurd h (by decide), fun _ => rfl⟩
set_option maxRecDepth 20000 in
theorem b_X7_joinThoseWith_65 {G : GT} {l : Launch} {d : Nat} {L0 : Lay} {σ0 : Sto} (hd : 4 ≤ d) {c2 : Lay → Sto → Nat → Int32 → Int32 → Option Sto} (h2 : HF G l 7 "joinThoseWith" cX7_joinThoseWith 4 none d L0 σ0 (true, false) (dcV L0) 2 (A_X7_joinThoseWith_2 c2)) : HF G l 7 "joinThoseWith" cX7_joinThoseWith 4 none d L0 σ0 (true, false) (dcV L0) 65 (A_X7_joinThoseWith_65 (f_X7_joinThoseWith_65 c2)) := by
  intro lc st L σ o h hI
  unfold A_X7_joinThoseWith_65 at h
  split at h
  · obtain ⟨hq0, hA1⟩ := bif_s h
    obtain ⟨e0, hq1⟩ := beq_and hq0
    subst e0
    exact exs (sp := [2]) (K := (kc 2 (A_X7_joinThoseWith_2 c2) k0)) ok_X7_joinThoseWith rt_X7_joinThoseWith (by omega) (hc_X7_joinThoseWith G l hd) (hrV rfl) (hkc h2 hk0) 46 hA1 hI
  · cases h
set_option maxRecDepth 20000 in
theorem b_X7_joinThoseWith_32 {G : GT} {l : Launch} {d : Nat} {L0 : Lay} {σ0 : Sto} (hd : 4 ≤ d) {c2 : Lay → Sto → Nat → Int32 → Int32 → Option Sto} (h2 : HF G l 7 "joinThoseWith" cX7_joinThoseWith 4 none d L0 σ0 (true, false) (dcV L0) 2 (A_X7_joinThoseWith_2 c2)) : HF G l 7 "joinThoseWith" cX7_joinThoseWith 4 none d L0 σ0 (true, false) (dcV L0) 32 (A_X7_joinThoseWith_32 (f_X7_joinThoseWith_32 c2)) := by
  intro lc st L σ o h hI
  unfold A_X7_joinThoseWith_32 at h
  split at h
  · obtain ⟨hq0, hA1⟩ := bif_s h
    obtain ⟨e0, hq1⟩ := beq_and hq0
    subst e0
    exact exs (sp := [65]) (K := (kc 65 (A_X7_joinThoseWith_65 (f_X7_joinThoseWith_65 c2)) k0)) ok_X7_joinThoseWith rt_X7_joinThoseWith (by omega) (hc_X7_joinThoseWith G l hd) (hrV rfl) (hkc (b_X7_joinThoseWith_65 hd h2) hk0) 46 hA1 hI
  · cases h
set_option maxRecDepth 20000 in
theorem b_X7_joinThoseWith_2 {G : GT} {l : Launch} {d : Nat} {L0 : Lay} {σ0 : Sto} (hd : 4 ≤ d) : ∀ k : Nat, HF G l 7 "joinThoseWith" cX7_joinThoseWith 4 none d L0 σ0 (true, false) (dcV L0) 2 (A_X7_joinThoseWith_2 (f_X7_joinThoseWith_2 k))
  | 0 => by
    intro lc st L σ o h hI
    unfold A_X7_joinThoseWith_2 at h
    split at h
    · obtain ⟨_, hA1⟩ := bif_s h
      cases hA1
    · cases h
  | k + 1 => by
    have ih := b_X7_joinThoseWith_2 (G := G) (l := l) (d := d) (L0 := L0) (σ0 := σ0) hd k
    intro lc st L σ o h hI
    unfold A_X7_joinThoseWith_2 at h
    split at h
    · obtain ⟨hq0, hA1⟩ := bif_s h
      obtain ⟨e0, hq1⟩ := beq_and hq0
      subst e0
      exact exs (sp := [32]) (K := (kc 32 (A_X7_joinThoseWith_32 (f_X7_joinThoseWith_32 (f_X7_joinThoseWith_2 k))) k0)) ok_X7_joinThoseWith rt_X7_joinThoseWith (by omega) (hc_X7_joinThoseWith G l hd) (hrV rfl) (hkc (b_X7_joinThoseWith_32 hd ih) hk0) 46 hA1 hI
    · cases h
set_option maxRecDepth 20000 in
theorem ca_X7_joinThoseWith (G : GT) (l : Launch) {d : Nat} (hd : 4 ≤ d) : CA G l 261 (true, false) d ad_X7_joinThoseWith := by
  intro O L σ as k o h hW hok
  unfold ad_X7_joinThoseWith at h
  split at h
  · obtain ⟨hq0, hA0⟩ := bif_s h
    obtain ⟨e0, hq1⟩ := beq_and hq0
    subst e0
    obtain ⟨r, hr, hk⟩ := Option.bind_eq_some_iff.mp hA0
    exact ca_of (q := (dcV L) r) (by decide) rfl (Nat.le_of_ble_eq_true rfl) hk (fun _ => rfl) (fun e => by cases e) (exs (sp := [2]) (K := (kc 2 (A_X7_joinThoseWith_2 (f_X7_joinThoseWith_2 FU)) k0)) (L0 := L) (σ0 := σ) ok_X7_joinThoseWith rt_X7_joinThoseWith (by omega) (hc_X7_joinThoseWith G l hd) (hrV rfl) (hkc (b_X7_joinThoseWith_2 hd FU) hk0) 46 hr (inv0 hW hok))
  · cases h
def tt_X7_join (pc : Nat) : TI := bif Nat.blt pc 14 then (bif Nat.blt pc 6 then (bif Nat.blt pc 1 then (bif Nat.beq pc 0 then (.aload_n 0, 1, (0, 0, 0), 0, 0, []) else TN) else (bif Nat.blt pc 4 then (bif Nat.beq pc 1 then (.getfield 18, 4, (7, 4, 0), 0, 0, []) else TN) else (bif Nat.beq pc 4 then (.ldc 54, 6, (0, 0, 0), -1000000005, 0, []) else TN))) else (bif Nat.blt pc 10 then (bif Nat.blt pc 9 then (bif Nat.beq pc 6 then (.invokestatic 55, 9, (30, 2, 0), 0, 0, []) else TN) else (bif Nat.beq pc 9 then (.aload_n 0, 10, (0, 0, 0), 0, 0, []) else TN)) else (bif Nat.blt pc 11 then (bif Nat.beq pc 10 then (.lconst 0, 11, (0, 0, 0), 0, 0, []) else TN) else (bif Nat.beq pc 11 then (.putfield 61, 14, (7, 6, 0), 0, 0, []) else TN)))) else (bif Nat.blt pc 19 then (bif Nat.blt pc 15 then (bif Nat.beq pc 14 then (.aload_n 0, 15, (0, 0, 0), 0, 0, []) else TN) else (bif Nat.blt pc 16 then (bif Nat.beq pc 15 then (.iconst 0, 16, (0, 0, 0), 0, 0, []) else TN) else (bif Nat.beq pc 16 then (.invokevirtual 65, 19, (261, 1, 7), 0, 0, []) else TN))) else (bif Nat.blt pc 21 then (bif Nat.blt pc 20 then (bif Nat.beq pc 19 then (.aload_n 0, 20, (0, 0, 0), 0, 0, []) else TN) else (bif Nat.beq pc 20 then (.iconst 1, 21, (0, 0, 0), 1, 0, []) else TN)) else (bif Nat.blt pc 24 then (bif Nat.beq pc 21 then (.invokevirtual 65, 24, (261, 1, 7), 0, 0, []) else TN) else (bif Nat.beq pc 24 then (.return_, 25, (0, 0, 0), 0, 0, []) else TN))))
def tb_X7_join (pc : Nat) : TI := bif Nat.ble 25 pc then TN else tt_X7_join pc
theorem ok_X7_join : tOK 7 (decide ("join" = "<init>")) cX7_join tb_X7_join := tOK_of 25 tn_of (by decide +kernel)
def f_X7_join (L : Lay) (σ : Sto) (a0 : Nat) : Option Sto := (f_J7_fill_53178 L σ (σ.2.1 a0 4) (-1000000005)).bind fun σ1 => (putJ σ1 a0 6 0).bind fun σ2 => (f_X7_joinThoseWith L σ2 a0 0).bind fun σ3 => (f_X7_joinThoseWith L σ3 a0 1).bind fun σ4 => some σ4
def ad_X7_join : ADT := fun O L σ as k => match as with
  | [.inr (.inr (.inl (ta0, some a0)))] => bif Nat.beq ta0 7 && true then (f_X7_join L σ a0).bind fun σ2 => k none L σ2 else none
  | _ => none
abbrev cl_X7_join {O : Type} : CLT O := (clc 30 ad_J7_fill_53178 (clc 261 ad_X7_joinThoseWith cl0))
theorem hc_X7_join (G : GT) (l : Launch) {d : Nat} (hd : 5 ≤ d) {O : Type} : HCL G l (true, false) d (cl_X7_join (O := O)) := (hclc (ca_J7_fill_53178 G l (d := 1) (Nat.le_refl _)) (fun _ => rfl) (fun e => by cases e) (by omega) (hclc (ca_X7_joinThoseWith G l (d := 4) (Nat.le_refl _)) (fun _ => rfl) (fun e => by cases e) (by omega) hcl0))
theorem rt_X7_join : retOK (6, 0) none := ⟨fun h => absurd h (by decide), fun h => absurd h (by decide), fun _ => rfl⟩
set_option maxRecDepth 20000 in
theorem ca_X7_join (G : GT) (l : Launch) {d : Nat} (hd : 5 ≤ d) : CA G l 260 (true, false) d ad_X7_join := by
  intro O L σ as k o h hW hok
  unfold ad_X7_join at h
  split at h
  · obtain ⟨hq0, hA0⟩ := bif_s h
    obtain ⟨e0, hq1⟩ := beq_and hq0
    subst e0
    obtain ⟨r, hr, hk⟩ := Option.bind_eq_some_iff.mp hA0
    exact ca_of (q := (dcV L) r) (by decide) rfl (Nat.le_of_ble_eq_true rfl) hk (fun _ => rfl) (fun e => by cases e) (exs (sp := []) (K := k0) (L0 := L) (σ0 := σ) ok_X7_join rt_X7_join (by omega) (hc_X7_join G l hd) (hrV rfl) hk0 17 hr (inv0 hW hok))
  · cases h
def tt_X11_joined (pc : Nat) : TI := bif Nat.blt pc 19 then (bif Nat.blt pc 9 then (bif Nat.blt pc 2 then (bif Nat.blt pc 1 then (bif Nat.beq pc 0 then (.iload_n 1, 1, (1, 0, 0), 0, 0, []) else TN) else (bif Nat.beq pc 1 then (.iconst 0, 2, (0, 0, 0), 0, 0, []) else TN)) else (bif Nat.blt pc 3 then (bif Nat.beq pc 2 then (.aload_n 0, 3, (0, 0, 0), 0, 0, []) else TN) else (bif Nat.blt pc 6 then (bif Nat.beq pc 3 then (.getfield 21, 6, (11, 1, 0), 0, 0, []) else TN) else (bif Nat.beq pc 6 then (.getfield 190, 9, (7, 3, 1), 0, 0, []) else TN)))) else (bif Nat.blt pc 11 then (bif Nat.blt pc 10 then (bif Nat.beq pc 9 then (.iconst 1, 10, (0, 0, 0), 1, 0, []) else TN) else (bif Nat.beq pc 10 then (.isub, 11, (0, 0, 0), 0, 0, []) else TN)) else (bif Nat.blt pc 14 then (bif Nat.beq pc 11 then (.invokestatic 115, 14, (83, 3, 0), 0, 0, []) else TN) else (bif Nat.blt pc 17 then (bif Nat.beq pc 14 then (.ifCond .ne 6, 17, (20, 0, 0), 0, 0, []) else TN) else (bif Nat.beq pc 17 then (.ldc 91, 19, (0, 0, 0), -1000000001, 0, []) else TN))))) else (bif Nat.blt pc 28 then (bif Nat.blt pc 21 then (bif Nat.blt pc 20 then (bif Nat.beq pc 19 then (.ireturn, 20, (0, 0, 0), 0, 0, []) else TN) else (bif Nat.beq pc 20 then (.aload_n 0, 21, (0, 0, 0), 0, 0, []) else TN)) else (bif Nat.blt pc 24 then (bif Nat.beq pc 21 then (.getfield 21, 24, (11, 1, 0), 0, 0, []) else TN) else (bif Nat.blt pc 27 then (bif Nat.beq pc 24 then (.invokevirtual 193, 27, (260, 0, 7), 0, 0, []) else TN) else (bif Nat.beq pc 27 then (.aload_n 0, 28, (0, 0, 0), 0, 0, []) else TN)))) else (bif Nat.blt pc 34 then (bif Nat.blt pc 31 then (bif Nat.beq pc 28 then (.getfield 21, 31, (11, 1, 0), 0, 0, []) else TN) else (bif Nat.beq pc 31 then (.getfield 196, 34, (7, 4, 1), 0, 0, []) else TN)) else (bif Nat.blt pc 35 then (bif Nat.beq pc 34 then (.iload_n 1, 35, (1, 0, 0), 0, 0, []) else TN) else (bif Nat.blt pc 36 then (bif Nat.beq pc 35 then (.iaload, 36, (0, 0, 0), 0, 0, []) else TN) else (bif Nat.beq pc 36 then (.ireturn, 37, (0, 0, 0), 0, 0, []) else TN)))))
def tb_X11_joined (pc : Nat) : TI := bif Nat.ble 37 pc then TN else tt_X11_joined pc
theorem ok_X11_joined : tOK 11 (decide ("joined" = "<init>")) cX11_joined tb_X11_joined := tOK_of 37 tn_of (by decide +kernel)
def f_X11_joined (L : Lay) (σ : Sto) (a0 : Nat) (a1 : Int32) : Option (Int32 × Sto) := (σ.2.1 a0 1).bind fun x1 => (f_X11_isWithin L σ a1 0 ((σ.1 x1 3) - 1)).bind fun r2 => (if r2 = 0 then some ((-1000000001), σ) else (σ.2.1 a0 1).bind fun x3 => (f_X7_join L σ x3).bind fun σ4 => (σ4.2.1 a0 1).bind fun x5 => (σ4.2.1 x5 4).bind fun x6 => (rI L σ4 x6 a1).bind fun v7 => some (v7, σ4))
def ad_X11_joined : ADT := fun O L σ as k => match as with
  | [.inr (.inr (.inl (ta0, some a0))), .inl a1] => bif Nat.beq ta0 11 && true then (f_X11_joined L σ a0 a1).bind fun r => k (some (vI r.1)) L r.2 else none
  | _ => none
abbrev cl_X11_joined {O : Type} : CLT O := (clc 83 ad_X11_isWithin (clc 260 ad_X7_join cl0))
theorem hc_X11_joined (G : GT) (l : Launch) {d : Nat} (hd : 6 ≤ d) {O : Type} : HCL G l (true, false) d (cl_X11_joined (O := O)) := (hclc (ca_X11_isWithin G l (d := 1) (Nat.le_refl _)) (fun _ => rfl) (fun e => by cases e) (by omega) (hclc (ca_X7_join G l (d := 5) (Nat.le_refl _)) (fun _ => rfl) (fun e => by cases e) (by omega) hcl0))
theorem rt_X11_joined : retOK (0, 0) (some .int) := ⟨fun _ => rfl, fun h => absurd h (by decide), fun h => absurd h (by decide)⟩
set_option maxRecDepth 20000 in
theorem ca_X11_joined (G : GT) (l : Launch) {d : Nat} (hd : 6 ≤ d) : CA G l 84 (true, false) d ad_X11_joined := by
  intro O L σ as k o h hW hok
  unfold ad_X11_joined at h
  split at h
  · obtain ⟨hq0, hA0⟩ := bif_s h
    obtain ⟨e0, hq1⟩ := beq_and hq0
    subst e0
    obtain ⟨r, hr, hk⟩ := Option.bind_eq_some_iff.mp hA0
    exact ca_of (q := (dcI L) r) (by decide) rfl (Nat.le_of_ble_eq_true rfl) hk (fun _ => rfl) (fun e => by cases e) (exs (sp := []) (K := k0) (L0 := L) (σ0 := σ) ok_X11_joined rt_X11_joined (by omega) (hc_X11_joined G l hd) (hrI rfl) hk0 23 hr (inv0 hW hok))
  · cases h
def tt_X9_byteAt (pc : Nat) : TI := bif Nat.blt pc 15 then (bif Nat.blt pc 6 then (bif Nat.blt pc 4 then (bif Nat.blt pc 1 then (bif Nat.beq pc 0 then (.iload_n 1, 1, (1, 0, 0), 0, 0, []) else TN) else (bif Nat.beq pc 1 then (.ifCond .lt 26, 4, (27, 0, 0), 0, 0, []) else TN)) else (bif Nat.blt pc 5 then (bif Nat.beq pc 4 then (.iload_n 1, 5, (1, 0, 0), 0, 0, []) else TN) else (bif Nat.beq pc 5 then (.aload_n 0, 6, (0, 0, 0), 0, 0, []) else TN))) else (bif Nat.blt pc 12 then (bif Nat.blt pc 9 then (bif Nat.beq pc 6 then (.getfield 13, 9, (9, 1, 0), 0, 0, []) else TN) else (bif Nat.beq pc 9 then (.if_icmp .ge 18, 12, (27, 0, 0), 0, 0, []) else TN)) else (bif Nat.blt pc 13 then (bif Nat.beq pc 12 then (.iload_n 1, 13, (1, 0, 0), 0, 0, []) else TN) else (bif Nat.beq pc 13 then (.bipush 108, 15, (0, 0, 0), 108, 0, []) else TN)))) else (bif Nat.blt pc 23 then (bif Nat.blt pc 19 then (bif Nat.blt pc 18 then (bif Nat.beq pc 15 then (.if_icmp .ge 12, 18, (27, 0, 0), 0, 0, []) else TN) else (bif Nat.beq pc 18 then (.aload_n 0, 19, (0, 0, 0), 0, 0, []) else TN)) else (bif Nat.blt pc 22 then (bif Nat.beq pc 19 then (.getfield 9, 22, (9, 0, 0), 0, 0, []) else TN) else (bif Nat.beq pc 22 then (.iload_n 1, 23, (1, 0, 0), 0, 0, []) else TN))) else (bif Nat.blt pc 27 then (bif Nat.blt pc 24 then (bif Nat.beq pc 23 then (.iaload, 24, (0, 0, 0), 0, 0, []) else TN) else (bif Nat.beq pc 24 then (.goto 4, 27, (28, 0, 0), 0, 0, []) else TN)) else (bif Nat.blt pc 28 then (bif Nat.beq pc 27 then (.iconst (-1), 28, (0, 0, 0), -1, 0, []) else TN) else (bif Nat.beq pc 28 then (.ireturn, 29, (0, 0, 0), 0, 0, []) else TN))))
def tb_X9_byteAt (pc : Nat) : TI := bif Nat.ble 29 pc then TN else tt_X9_byteAt pc
theorem ok_X9_byteAt : tOK 9 (decide ("byteAt" = "<init>")) cX9_byteAt tb_X9_byteAt := tOK_of 29 tn_of (by decide +kernel)
def f_X9_byteAt (L : Lay) (σ : Sto) (a0 : Nat) (a1 : Int32) : Option Int32 := (if a1 < 0 then some (-1) else (if (σ.1 a0 1) ≤ a1 then some (-1) else (if 108 ≤ a1 then some (-1) else (σ.2.1 a0 0).bind fun x1 => (rI L σ x1 a1).bind fun v2 => some v2)))
def ad_X9_byteAt : ADT := fun O L σ as k => match as with
  | [.inr (.inr (.inl (ta0, some a0))), .inl a1] => bif Nat.beq ta0 9 && true then (f_X9_byteAt L σ a0 a1).bind fun r => k (some (vI r)) L σ else none
  | _ => none
abbrev cl_X9_byteAt {O : Type} : CLT O := cl0
theorem hc_X9_byteAt (G : GT) (l : Launch) {d : Nat} (hd : 1 ≤ d) {O : Type} : HCL G l (true, true) d (cl_X9_byteAt (O := O)) := hcl0
theorem rt_X9_byteAt : retOK (0, 0) (some .int) := ⟨fun _ => rfl, fun h => absurd h (by decide), fun h => absurd h (by decide)⟩
set_option maxRecDepth 20000 in
theorem ca_X9_byteAt (G : GT) (l : Launch) {d : Nat} (hd : 1 ≤ d) : CA G l 271 (true, true) d ad_X9_byteAt := by
  intro O L σ as k o h hW hok
  unfold ad_X9_byteAt at h
  split at h
  · obtain ⟨hq0, hA0⟩ := bif_s h
    obtain ⟨e0, hq1⟩ := beq_and hq0
    subst e0
    obtain ⟨r, hr, hk⟩ := Option.bind_eq_some_iff.mp hA0
    exact ca_of (q := (dcPI L σ) r) (by decide) rfl (Nat.le_of_ble_eq_true rfl) hk (fun _ => rfl) (fun _ => rfl) (exs (sp := []) (K := k0) (L0 := L) (σ0 := σ) ok_X9_byteAt rt_X9_byteAt (by omega) (hc_X9_byteAt G l hd) (hrPI rfl rfl) hk0 19 hr (inv0 hW hok))
  · cases h
def tt_X9_sortAt (pc : Nat) : TI := bif Nat.blt pc 19 then (bif Nat.blt pc 7 then (bif Nat.blt pc 2 then (bif Nat.blt pc 1 then (bif Nat.beq pc 0 then (.aload_n 0, 1, (0, 0, 0), 0, 0, []) else TN) else (bif Nat.beq pc 1 then (.iload_n 1, 2, (1, 0, 0), 0, 0, []) else TN)) else (bif Nat.blt pc 5 then (bif Nat.beq pc 2 then (.invokevirtual 26, 5, (271, 1, 9), 0, 0, []) else TN) else (bif Nat.blt pc 6 then (bif Nat.beq pc 5 then (.istore_n 2, 6, (2, 0, 0), 0, 0, []) else TN) else (bif Nat.beq pc 6 then (.iload_n 2, 7, (2, 0, 0), 0, 0, []) else TN)))) else (bif Nat.blt pc 12 then (bif Nat.blt pc 10 then (bif Nat.beq pc 7 then (.ifCond .ge 5, 10, (12, 0, 0), 0, 0, []) else TN) else (bif Nat.blt pc 11 then (bif Nat.beq pc 10 then (.iconst 0, 11, (0, 0, 0), 0, 0, []) else TN) else (bif Nat.beq pc 11 then (.ireturn, 12, (0, 0, 0), 0, 0, []) else TN))) else (bif Nat.blt pc 13 then (bif Nat.beq pc 12 then (.iload_n 2, 13, (2, 0, 0), 0, 0, []) else TN) else (bif Nat.blt pc 16 then (bif Nat.beq pc 13 then (.invokestatic 46, 16, (78, 1, 0), 0, 0, []) else TN) else (bif Nat.beq pc 16 then (.ifCond .eq 5, 19, (21, 0, 0), 0, 0, []) else TN))))) else (bif Nat.blt pc 28 then (bif Nat.blt pc 22 then (bif Nat.blt pc 20 then (bif Nat.beq pc 19 then (.iconst 1, 20, (0, 0, 0), 1, 0, []) else TN) else (bif Nat.blt pc 21 then (bif Nat.beq pc 20 then (.ireturn, 21, (0, 0, 0), 0, 0, []) else TN) else (bif Nat.beq pc 21 then (.iload_n 2, 22, (2, 0, 0), 0, 0, []) else TN))) else (bif Nat.blt pc 24 then (bif Nat.beq pc 22 then (.bipush 48, 24, (0, 0, 0), 48, 0, []) else TN) else (bif Nat.blt pc 27 then (bif Nat.beq pc 24 then (.if_icmp .lt 13, 27, (37, 0, 0), 0, 0, []) else TN) else (bif Nat.beq pc 27 then (.iload_n 2, 28, (2, 0, 0), 0, 0, []) else TN)))) else (bif Nat.blt pc 34 then (bif Nat.blt pc 30 then (bif Nat.beq pc 28 then (.bipush 57, 30, (0, 0, 0), 57, 0, []) else TN) else (bif Nat.blt pc 33 then (bif Nat.beq pc 30 then (.if_icmp .gt 7, 33, (37, 0, 0), 0, 0, []) else TN) else (bif Nat.beq pc 33 then (.iconst 2, 34, (0, 0, 0), 2, 0, []) else TN))) else (bif Nat.blt pc 37 then (bif Nat.beq pc 34 then (.goto 4, 37, (38, 0, 0), 0, 0, []) else TN) else (bif Nat.blt pc 38 then (bif Nat.beq pc 37 then (.iconst 3, 38, (0, 0, 0), 3, 0, []) else TN) else (bif Nat.beq pc 38 then (.ireturn, 39, (0, 0, 0), 0, 0, []) else TN)))))
def tb_X9_sortAt (pc : Nat) : TI := bif Nat.ble 39 pc then TN else tt_X9_sortAt pc
theorem ok_X9_sortAt : tOK 9 (decide ("sortAt" = "<init>")) cX9_sortAt tb_X9_sortAt := tOK_of 39 tn_of (by decide +kernel)
def f_X9_sortAt (L : Lay) (σ : Sto) (a0 : Nat) (a1 : Int32) : Option Int32 := (f_X9_byteAt L σ a0 a1).bind fun r1 => (if 0 ≤ r1 then (f_X11_isLetter L σ r1).bind fun r2 => (if r2 = 0 then (if r1 < 48 then some 3 else (if 57 < r1 then some 3 else some 2)) else some 1) else some 0)
def ad_X9_sortAt : ADT := fun O L σ as k => match as with
  | [.inr (.inr (.inl (ta0, some a0))), .inl a1] => bif Nat.beq ta0 9 && true then (f_X9_sortAt L σ a0 a1).bind fun r => k (some (vI r)) L σ else none
  | _ => none
abbrev cl_X9_sortAt {O : Type} : CLT O := (clc 271 ad_X9_byteAt (clc 78 ad_X11_isLetter cl0))
theorem hc_X9_sortAt (G : GT) (l : Launch) {d : Nat} (hd : 2 ≤ d) {O : Type} : HCL G l (true, true) d (cl_X9_sortAt (O := O)) := (hclc (ca_X9_byteAt G l (d := 1) (Nat.le_refl _)) (fun _ => rfl) (fun _ => rfl) (by omega) (hclc (ca_X11_isLetter G l (d := 1) (Nat.le_refl _)) (fun _ => rfl) (fun _ => rfl) (by omega) hcl0))
theorem rt_X9_sortAt : retOK (0, 0) (some .int) := ⟨fun _ => rfl, fun h => absurd h (by decide), fun h => absurd h (by decide)⟩
set_option maxRecDepth 20000 in
theorem ca_X9_sortAt (G : GT) (l : Launch) {d : Nat} (hd : 2 ≤ d) : CA G l 281 (true, true) d ad_X9_sortAt := by
  intro O L σ as k o h hW hok
  unfold ad_X9_sortAt at h
  split at h
  · obtain ⟨hq0, hA0⟩ := bif_s h
    obtain ⟨e0, hq1⟩ := beq_and hq0
    subst e0
    obtain ⟨r, hr, hk⟩ := Option.bind_eq_some_iff.mp hA0
    exact ca_of (q := (dcPI L σ) r) (by decide) rfl (Nat.le_of_ble_eq_true rfl) hk (fun _ => rfl) (fun _ => rfl) (exs (sp := []) (K := k0) (L0 := L) (σ0 := σ) ok_X9_sortAt rt_X9_sortAt (by omega) (hc_X9_sortAt G l hd) (hrPI rfl rfl) hk0 26 hr (inv0 hW hok))
  · cases h
def tt_X9_isRow (pc : Nat) : TI := bif Nat.blt pc 7 then (bif Nat.blt pc 2 then (bif Nat.blt pc 1 then (bif Nat.beq pc 0 then (.iload_n 0, 1, (0, 0, 0), 0, 0, []) else TN) else (bif Nat.beq pc 1 then (.iconst 1, 2, (0, 0, 0), 1, 0, []) else TN)) else (bif Nat.blt pc 5 then (bif Nat.beq pc 2 then (.if_icmp .eq 8, 5, (10, 0, 0), 0, 0, []) else TN) else (bif Nat.blt pc 6 then (bif Nat.beq pc 5 then (.iload_n 0, 6, (0, 0, 0), 0, 0, []) else TN) else (bif Nat.beq pc 6 then (.iconst 2, 7, (0, 0, 0), 2, 0, []) else TN)))) else (bif Nat.blt pc 11 then (bif Nat.blt pc 10 then (bif Nat.beq pc 7 then (.if_icmp .ne 7, 10, (14, 0, 0), 0, 0, []) else TN) else (bif Nat.beq pc 10 then (.iconst 1, 11, (0, 0, 0), 1, 0, []) else TN)) else (bif Nat.blt pc 14 then (bif Nat.beq pc 11 then (.goto 4, 14, (15, 0, 0), 0, 0, []) else TN) else (bif Nat.blt pc 15 then (bif Nat.beq pc 14 then (.iconst 0, 15, (0, 0, 0), 0, 0, []) else TN) else (bif Nat.beq pc 15 then (.ireturn, 16, (0, 0, 0), 0, 0, []) else TN))))
def tb_X9_isRow (pc : Nat) : TI := bif Nat.ble 16 pc then TN else tt_X9_isRow pc
theorem ok_X9_isRow : tOK 9 (decide ("isRow" = "<init>")) cX9_isRow tb_X9_isRow := tOK_of 16 tn_of (by decide +kernel)
def f_X9_isRow (L : Lay) (σ : Sto) (a0 : Int32) : Option Int32 := (if a0 = 1 then (ckN 1 1).bind fun _ => some 1 else (if a0 = 2 then (ckN 1 1).bind fun _ => some 1 else (ckN 1 0).bind fun _ => some 0))
def ad_X9_isRow : ADT := fun O L σ as k => match as with
  | [.inl a0] => (f_X9_isRow L σ a0).bind fun r => k (some (vI r)) L σ
  | _ => none
abbrev cl_X9_isRow {O : Type} : CLT O := cl0
theorem hc_X9_isRow (G : GT) (l : Launch) {d : Nat} (hd : 1 ≤ d) {O : Type} : HCL G l (true, true) d (cl_X9_isRow (O := O)) := hcl0
theorem rt_X9_isRow : retOK (1, 0) (some .boolean) := ⟨fun _ => rfl, fun h => absurd h (by decide), fun h => absurd h (by decide)⟩
set_option maxRecDepth 20000 in
theorem ca_X9_isRow (G : GT) (l : Launch) {d : Nat} (hd : 1 ≤ d) : CA G l 276 (true, true) d ad_X9_isRow := by
  intro O L σ as k o h hW hok
  unfold ad_X9_isRow at h
  split at h
  · have hA0 := h
    obtain ⟨r, hr, hk⟩ := Option.bind_eq_some_iff.mp hA0
    exact ca_of (q := (dcPI L σ) r) (by decide) rfl (Nat.le_of_ble_eq_true rfl) hk (fun _ => rfl) (fun _ => rfl) (exs (sp := []) (K := k0) (L0 := L) (σ0 := σ) ok_X9_isRow rt_X9_isRow (by omega) (hc_X9_isRow G l hd) (hrPI rfl rfl) hk0 13 hr (inv0 hW hok))
  · cases h
def tt_X9_goOn (pc : Nat) : TI := bif Nat.blt pc 83 then (bif Nat.blt pc 40 then (bif Nat.blt pc 18 then (bif Nat.blt pc 7 then (bif Nat.blt pc 4 then (bif Nat.blt pc 1 then (bif Nat.beq pc 0 then (.aload_n 0, 1, (0, 0, 0), 0, 0, []) else TN) else (bif Nat.beq pc 1 then (.getfield 17, 4, (9, 3, 0), 0, 0, []) else TN)) else (bif Nat.blt pc 5 then (bif Nat.beq pc 4 then (.istore_n 1, 5, (1, 0, 0), 0, 0, []) else TN) else (bif Nat.blt pc 6 then (bif Nat.beq pc 5 then (.aload_n 0, 6, (0, 0, 0), 0, 0, []) else TN) else (bif Nat.beq pc 6 then (.iload_n 1, 7, (1, 0, 0), 0, 0, []) else TN)))) else (bif Nat.blt pc 11 then (bif Nat.blt pc 10 then (bif Nat.beq pc 7 then (.putfield 23, 10, (9, 2, 0), 0, 0, []) else TN) else (bif Nat.beq pc 10 then (.aload_n 0, 11, (0, 0, 0), 0, 0, []) else TN)) else (bif Nat.blt pc 14 then (bif Nat.beq pc 11 then (.getfield 23, 14, (9, 2, 0), 0, 0, []) else TN) else (bif Nat.blt pc 15 then (bif Nat.beq pc 14 then (.aload_n 0, 15, (0, 0, 0), 0, 0, []) else TN) else (bif Nat.beq pc 15 then (.getfield 13, 18, (9, 1, 0), 0, 0, []) else TN))))) else (bif Nat.blt pc 29 then (bif Nat.blt pc 22 then (bif Nat.blt pc 21 then (bif Nat.beq pc 18 then (.if_icmp .ge 29, 21, (47, 0, 0), 0, 0, []) else TN) else (bif Nat.beq pc 21 then (.aload_n 0, 22, (0, 0, 0), 0, 0, []) else TN)) else (bif Nat.blt pc 23 then (bif Nat.beq pc 22 then (.aload_n 0, 23, (0, 0, 0), 0, 0, []) else TN) else (bif Nat.blt pc 26 then (bif Nat.beq pc 23 then (.getfield 23, 26, (9, 2, 0), 0, 0, []) else TN) else (bif Nat.beq pc 26 then (.invokevirtual 26, 29, (271, 1, 9), 0, 0, []) else TN)))) else (bif Nat.blt pc 35 then (bif Nat.blt pc 31 then (bif Nat.beq pc 29 then (.bipush 32, 31, (0, 0, 0), 32, 0, []) else TN) else (bif Nat.blt pc 34 then (bif Nat.beq pc 31 then (.if_icmp .ne 16, 34, (47, 0, 0), 0, 0, []) else TN) else (bif Nat.beq pc 34 then (.aload_n 0, 35, (0, 0, 0), 0, 0, []) else TN))) else (bif Nat.blt pc 36 then (bif Nat.beq pc 35 then (.dup, 36, (0, 0, 0), 0, 0, []) else TN) else (bif Nat.blt pc 39 then (bif Nat.beq pc 36 then (.getfield 23, 39, (9, 2, 0), 0, 0, []) else TN) else (bif Nat.beq pc 39 then (.iconst 1, 40, (0, 0, 0), 1, 0, []) else TN)))))) else (bif Nat.blt pc 60 then (bif Nat.blt pc 49 then (bif Nat.blt pc 44 then (bif Nat.blt pc 41 then (bif Nat.beq pc 40 then (.iadd, 41, (0, 0, 0), 0, 0, []) else TN) else (bif Nat.beq pc 41 then (.putfield 23, 44, (9, 2, 0), 0, 0, []) else TN)) else (bif Nat.blt pc 47 then (bif Nat.beq pc 44 then (.goto (-34), 47, (10, 0, 0), 0, 0, []) else TN) else (bif Nat.blt pc 48 then (bif Nat.beq pc 47 then (.aload_n 0, 48, (0, 0, 0), 0, 0, []) else TN) else (bif Nat.beq pc 48 then (.aload_n 0, 49, (0, 0, 0), 0, 0, []) else TN)))) else (bif Nat.blt pc 53 then (bif Nat.blt pc 50 then (bif Nat.beq pc 49 then (.aload_n 0, 50, (0, 0, 0), 0, 0, []) else TN) else (bif Nat.beq pc 50 then (.getfield 23, 53, (9, 2, 0), 0, 0, []) else TN)) else (bif Nat.blt pc 56 then (bif Nat.beq pc 53 then (.invokevirtual 30, 56, (281, 1, 9), 0, 0, []) else TN) else (bif Nat.blt pc 59 then (bif Nat.beq pc 56 then (.putfield 33, 59, (9, 4, 0), 0, 0, []) else TN) else (bif Nat.beq pc 59 then (.aload_n 0, 60, (0, 0, 0), 0, 0, []) else TN))))) else (bif Nat.blt pc 71 then (bif Nat.blt pc 64 then (bif Nat.blt pc 61 then (bif Nat.beq pc 60 then (.aload_n 0, 61, (0, 0, 0), 0, 0, []) else TN) else (bif Nat.beq pc 61 then (.getfield 23, 64, (9, 2, 0), 0, 0, []) else TN)) else (bif Nat.blt pc 65 then (bif Nat.beq pc 64 then (.aload_n 0, 65, (0, 0, 0), 0, 0, []) else TN) else (bif Nat.blt pc 68 then (bif Nat.beq pc 65 then (.getfield 33, 68, (9, 4, 0), 0, 0, []) else TN) else (bif Nat.beq pc 68 then (.ifCond .eq 7, 71, (75, 0, 0), 0, 0, []) else TN)))) else (bif Nat.blt pc 76 then (bif Nat.blt pc 72 then (bif Nat.beq pc 71 then (.iconst 1, 72, (0, 0, 0), 1, 0, []) else TN) else (bif Nat.blt pc 75 then (bif Nat.beq pc 72 then (.goto 4, 75, (76, 0, 0), 0, 0, []) else TN) else (bif Nat.beq pc 75 then (.iconst 0, 76, (0, 0, 0), 0, 0, []) else TN))) else (bif Nat.blt pc 79 then (bif Nat.beq pc 76 then (.invokestatic 36, 79, (100, 1, 0), 0, 0, []) else TN) else (bif Nat.blt pc 80 then (bif Nat.beq pc 79 then (.iadd, 80, (0, 0, 0), 0, 0, []) else TN) else (bif Nat.beq pc 80 then (.putfield 17, 83, (9, 3, 0), 0, 0, []) else TN))))))) else (bif Nat.blt pc 126 then (bif Nat.blt pc 105 then (bif Nat.blt pc 94 then (bif Nat.blt pc 87 then (bif Nat.blt pc 84 then (bif Nat.beq pc 83 then (.aload_n 0, 84, (0, 0, 0), 0, 0, []) else TN) else (bif Nat.beq pc 84 then (.getfield 17, 87, (9, 3, 0), 0, 0, []) else TN)) else (bif Nat.blt pc 88 then (bif Nat.beq pc 87 then (.aload_n 0, 88, (0, 0, 0), 0, 0, []) else TN) else (bif Nat.blt pc 91 then (bif Nat.beq pc 88 then (.getfield 13, 91, (9, 1, 0), 0, 0, []) else TN) else (bif Nat.beq pc 91 then (.if_icmp .ge 41, 94, (132, 0, 0), 0, 0, []) else TN)))) else (bif Nat.blt pc 98 then (bif Nat.blt pc 95 then (bif Nat.beq pc 94 then (.aload_n 0, 95, (0, 0, 0), 0, 0, []) else TN) else (bif Nat.beq pc 95 then (.getfield 33, 98, (9, 4, 0), 0, 0, []) else TN)) else (bif Nat.blt pc 101 then (bif Nat.beq pc 98 then (.invokestatic 42, 101, (276, 1, 0), 0, 0, []) else TN) else (bif Nat.blt pc 104 then (bif Nat.beq pc 101 then (.ifCond .eq 31, 104, (132, 0, 0), 0, 0, []) else TN) else (bif Nat.beq pc 104 then (.aload_n 0, 105, (0, 0, 0), 0, 0, []) else TN))))) else (bif Nat.blt pc 116 then (bif Nat.blt pc 109 then (bif Nat.blt pc 106 then (bif Nat.beq pc 105 then (.aload_n 0, 106, (0, 0, 0), 0, 0, []) else TN) else (bif Nat.beq pc 106 then (.getfield 17, 109, (9, 3, 0), 0, 0, []) else TN)) else (bif Nat.blt pc 112 then (bif Nat.beq pc 109 then (.invokevirtual 30, 112, (281, 1, 9), 0, 0, []) else TN) else (bif Nat.blt pc 113 then (bif Nat.beq pc 112 then (.aload_n 0, 113, (0, 0, 0), 0, 0, []) else TN) else (bif Nat.beq pc 113 then (.getfield 33, 116, (9, 4, 0), 0, 0, []) else TN)))) else (bif Nat.blt pc 121 then (bif Nat.blt pc 119 then (bif Nat.beq pc 116 then (.if_icmp .ne 16, 119, (132, 0, 0), 0, 0, []) else TN) else (bif Nat.blt pc 120 then (bif Nat.beq pc 119 then (.aload_n 0, 120, (0, 0, 0), 0, 0, []) else TN) else (bif Nat.beq pc 120 then (.dup, 121, (0, 0, 0), 0, 0, []) else TN))) else (bif Nat.blt pc 124 then (bif Nat.beq pc 121 then (.getfield 17, 124, (9, 3, 0), 0, 0, []) else TN) else (bif Nat.blt pc 125 then (bif Nat.beq pc 124 then (.iconst 1, 125, (0, 0, 0), 1, 0, []) else TN) else (bif Nat.beq pc 125 then (.iadd, 126, (0, 0, 0), 0, 0, []) else TN)))))) else (bif Nat.blt pc 150 then (bif Nat.blt pc 139 then (bif Nat.blt pc 132 then (bif Nat.blt pc 129 then (bif Nat.beq pc 126 then (.putfield 17, 129, (9, 3, 0), 0, 0, []) else TN) else (bif Nat.beq pc 129 then (.goto (-46), 132, (83, 0, 0), 0, 0, []) else TN)) else (bif Nat.blt pc 133 then (bif Nat.beq pc 132 then (.aload_n 0, 133, (0, 0, 0), 0, 0, []) else TN) else (bif Nat.blt pc 136 then (bif Nat.beq pc 133 then (.getfield 33, 136, (9, 4, 0), 0, 0, []) else TN) else (bif Nat.beq pc 136 then (.invokestatic 42, 139, (276, 1, 0), 0, 0, []) else TN)))) else (bif Nat.blt pc 143 then (bif Nat.blt pc 142 then (bif Nat.beq pc 139 then (.ifCond .eq 29, 142, (168, 0, 0), 0, 0, []) else TN) else (bif Nat.beq pc 142 then (.aload_n 0, 143, (0, 0, 0), 0, 0, []) else TN)) else (bif Nat.blt pc 146 then (bif Nat.beq pc 143 then (.getfield 23, 146, (9, 2, 0), 0, 0, []) else TN) else (bif Nat.blt pc 147 then (bif Nat.beq pc 146 then (.iload_n 1, 147, (1, 0, 0), 0, 0, []) else TN) else (bif Nat.beq pc 147 then (.if_icmp .ne 21, 150, (168, 0, 0), 0, 0, []) else TN))))) else (bif Nat.blt pc 157 then (bif Nat.blt pc 152 then (bif Nat.blt pc 151 then (bif Nat.beq pc 150 then (.aload_n 0, 151, (0, 0, 0), 0, 0, []) else TN) else (bif Nat.beq pc 151 then (.iload_n 1, 152, (1, 0, 0), 0, 0, []) else TN)) else (bif Nat.blt pc 153 then (bif Nat.beq pc 152 then (.iconst 1, 153, (0, 0, 0), 1, 0, []) else TN) else (bif Nat.blt pc 154 then (bif Nat.beq pc 153 then (.isub, 154, (0, 0, 0), 0, 0, []) else TN) else (bif Nat.beq pc 154 then (.invokevirtual 30, 157, (281, 1, 9), 0, 0, []) else TN)))) else (bif Nat.blt pc 164 then (bif Nat.blt pc 160 then (bif Nat.beq pc 157 then (.invokestatic 42, 160, (276, 1, 0), 0, 0, []) else TN) else (bif Nat.blt pc 163 then (bif Nat.beq pc 160 then (.ifCond .eq 8, 163, (168, 0, 0), 0, 0, []) else TN) else (bif Nat.beq pc 163 then (.aload_n 0, 164, (0, 0, 0), 0, 0, []) else TN))) else (bif Nat.blt pc 165 then (bif Nat.beq pc 164 then (.iconst 4, 165, (0, 0, 0), 4, 0, []) else TN) else (bif Nat.blt pc 168 then (bif Nat.beq pc 165 then (.putfield 33, 168, (9, 4, 0), 0, 0, []) else TN) else (bif Nat.beq pc 168 then (.return_, 169, (0, 0, 0), 0, 0, []) else TN)))))))
def tb_X9_goOn (pc : Nat) : TI := bif Nat.ble 169 pc then TN else tt_X9_goOn pc
theorem ok_X9_goOn : tOK 9 (decide ("goOn" = "<init>")) cX9_goOn tb_X9_goOn := tOK_of 169 tn_of (by decide +kernel)
def f_X9_goOn_132 (L : Lay) (σ : Sto) (a0 : Nat) (a1 : Int32) : Option Sto := (f_X9_isRow L σ (σ.1 a0 4)).bind fun r1 => (if r1 = 0 then some σ else (if (σ.1 a0 2) = a1 then (f_X9_sortAt L σ a0 (a1 - 1)).bind fun r2 => (f_X9_isRow L σ r2).bind fun r3 => (if r3 = 0 then some σ else (putI σ a0 4 4).bind fun σ4 => some σ4) else some σ))
def A_X9_goOn_132 (c : Lay → Sto → Nat → Int32 → Option Sto) (lc : List (Option AV)) (st : List AV) (L : Lay) (σ : Sto) : Option Sto := match lc, st with
  | [some (.inr (.inr (.inl (ta0, some a0)))), some (.inl a1)], [] => bif Nat.beq ta0 9 && true then c L σ a0 a1 else none
  | _, _ => none
def f_X9_goOn_83 : Nat → Lay → Sto → Nat → Int32 → Option Sto
  | 0 => fun _ _ _ _ => none
  | k + 1 => fun L σ a0 a1 => (if (σ.1 a0 1) ≤ (σ.1 a0 3) then (f_X9_goOn_132) L σ a0 a1 else (f_X9_isRow L σ (σ.1 a0 4)).bind fun r5 => (if r5 = 0 then (f_X9_goOn_132) L σ a0 a1 else (f_X9_sortAt L σ a0 (σ.1 a0 3)).bind fun r6 => (if r6 = (σ.1 a0 4) then (putI σ a0 3 ((σ.1 a0 3) + 1)).bind fun σ7 => (f_X9_goOn_83 k) L σ7 a0 a1 else (f_X9_goOn_132) L σ a0 a1)))
def A_X9_goOn_83 (c : Lay → Sto → Nat → Int32 → Option Sto) (lc : List (Option AV)) (st : List AV) (L : Lay) (σ : Sto) : Option Sto := match lc, st with
  | [some (.inr (.inr (.inl (ta0, some a0)))), some (.inl a1)], [] => bif Nat.beq ta0 9 && true then c L σ a0 a1 else none
  | _, _ => none
def f_X9_goOn_76 (L : Lay) (σ : Sto) (a0 : Nat) (a1 : Int32) (s0 : Int32) (s1 : Int32) (s2 : Nat) : Option Sto := (f_X11_oneIf L σ s0).bind fun r8 => (putI σ s2 3 (s1 + r8)).bind fun σ9 => (f_X9_goOn_83 FU) L σ9 a0 a1
def A_X9_goOn_76 (c : Lay → Sto → Nat → Int32 → Int32 → Int32 → Nat → Option Sto) (lc : List (Option AV)) (st : List AV) (L : Lay) (σ : Sto) : Option Sto := match lc, st with
  | [some (.inr (.inr (.inl (ta0, some a0)))), some (.inl a1)], [.inl s0, .inl s1, .inr (.inr (.inl (ts2, some s2)))] => bif Nat.beq ta0 9 && (Nat.beq ts2 9 && true) then c L σ a0 a1 s0 s1 s2 else none
  | _, _ => none
def f_X9_goOn_47 (L : Lay) (σ : Sto) (a0 : Nat) (a1 : Int32) : Option Sto := (f_X9_sortAt L σ a0 (σ.1 a0 2)).bind fun r10 => (putI σ a0 4 r10).bind fun σ11 => (if (σ11.1 a0 4) = 0 then (f_X9_goOn_76) L σ11 a0 a1 0 (σ11.1 a0 2) a0 else (f_X9_goOn_76) L σ11 a0 a1 1 (σ11.1 a0 2) a0)
def A_X9_goOn_47 (c : Lay → Sto → Nat → Int32 → Option Sto) (lc : List (Option AV)) (st : List AV) (L : Lay) (σ : Sto) : Option Sto := match lc, st with
  | [some (.inr (.inr (.inl (ta0, some a0)))), some (.inl a1)], [] => bif Nat.beq ta0 9 && true then c L σ a0 a1 else none
  | _, _ => none
def f_X9_goOn_10 : Nat → Lay → Sto → Nat → Int32 → Option Sto
  | 0 => fun _ _ _ _ => none
  | k + 1 => fun L σ a0 a1 => (if (σ.1 a0 1) ≤ (σ.1 a0 2) then (f_X9_goOn_47) L σ a0 a1 else (f_X9_byteAt L σ a0 (σ.1 a0 2)).bind fun r12 => (if r12 = 32 then (putI σ a0 2 ((σ.1 a0 2) + 1)).bind fun σ13 => (f_X9_goOn_10 k) L σ13 a0 a1 else (f_X9_goOn_47) L σ a0 a1))
def A_X9_goOn_10 (c : Lay → Sto → Nat → Int32 → Option Sto) (lc : List (Option AV)) (st : List AV) (L : Lay) (σ : Sto) : Option Sto := match lc, st with
  | [some (.inr (.inr (.inl (ta0, some a0)))), some (.inl a1)], [] => bif Nat.beq ta0 9 && true then c L σ a0 a1 else none
  | _, _ => none
def f_X9_goOn (L : Lay) (σ : Sto) (a0 : Nat) : Option Sto := (putI σ a0 2 (σ.1 a0 3)).bind fun σ14 => (f_X9_goOn_10 FU) L σ14 a0 (σ.1 a0 3)
def ad_X9_goOn : ADT := fun O L σ as k => match as with
  | [.inr (.inr (.inl (ta0, some a0)))] => bif Nat.beq ta0 9 && true then (f_X9_goOn L σ a0).bind fun σ2 => k none L σ2 else none
  | _ => none
abbrev cl_X9_goOn {O : Type} : CLT O := (clc 276 ad_X9_isRow (clc 281 ad_X9_sortAt (clc 100 ad_X11_oneIf (clc 271 ad_X9_byteAt cl0))))
theorem hc_X9_goOn (G : GT) (l : Launch) {d : Nat} (hd : 3 ≤ d) {O : Type} : HCL G l (true, false) d (cl_X9_goOn (O := O)) := (hclc (ca_X9_isRow G l (d := 1) (Nat.le_refl _)) (fun _ => rfl) (fun e => by cases e) (by omega) (hclc (ca_X9_sortAt G l (d := 2) (Nat.le_refl _)) (fun _ => rfl) (fun e => by cases e) (by omega) (hclc (ca_X11_oneIf G l (d := 1) (Nat.le_refl _)) (fun _ => rfl) (fun e => by cases e) (by omega) (hclc (ca_X9_byteAt G l (d := 1) (Nat.le_refl _)) (fun _ => rfl) (fun e => by cases e) (by omega) hcl0))))
theorem rt_X9_goOn : retOK (6, 0) none := ⟨fun h => absurd h (by decide), fun h => absurd h (by decide), fun _ => rfl⟩
set_option maxRecDepth 20000 in
theorem b_X9_goOn_132 {G : GT} {l : Launch} {d : Nat} {L0 : Lay} {σ0 : Sto} (hd : 3 ≤ d) : HF G l 9 "goOn" cX9_goOn 2 none d L0 σ0 (true, false) (dcV L0) 132 (A_X9_goOn_132 f_X9_goOn_132) := by
  intro lc st L σ o h hI
  unfold A_X9_goOn_132 at h
  split at h
  · obtain ⟨hq0, hA1⟩ := bif_s h
    obtain ⟨e0, hq1⟩ := beq_and hq0
    subst e0
    exact exs (sp := []) (K := k0) ok_X9_goOn rt_X9_goOn (by omega) (hc_X9_goOn G l hd) (hrV rfl) hk0 87 hA1 hI
  · cases h
set_option maxRecDepth 20000 in
theorem b_X9_goOn_83 {G : GT} {l : Launch} {d : Nat} {L0 : Lay} {σ0 : Sto} (hd : 3 ≤ d) : ∀ k : Nat, HF G l 9 "goOn" cX9_goOn 2 none d L0 σ0 (true, false) (dcV L0) 83 (A_X9_goOn_83 (f_X9_goOn_83 k))
  | 0 => by
    intro lc st L σ o h hI
    unfold A_X9_goOn_83 at h
    split at h
    · obtain ⟨_, hA1⟩ := bif_s h
      cases hA1
    · cases h
  | k + 1 => by
    have ih := b_X9_goOn_83 (G := G) (l := l) (d := d) (L0 := L0) (σ0 := σ0) hd k
    intro lc st L σ o h hI
    unfold A_X9_goOn_83 at h
    split at h
    · obtain ⟨hq0, hA1⟩ := bif_s h
      obtain ⟨e0, hq1⟩ := beq_and hq0
      subst e0
      exact exs (sp := [83, 132]) (K := (kc 83 (A_X9_goOn_83 (f_X9_goOn_83 k)) (kc 132 (A_X9_goOn_132 (f_X9_goOn_132)) k0))) ok_X9_goOn rt_X9_goOn (by omega) (hc_X9_goOn G l hd) (hrV rfl) (hkc ih (hkc (b_X9_goOn_132 hd) hk0)) 87 hA1 hI
    · cases h
set_option maxRecDepth 20000 in
theorem b_X9_goOn_76 {G : GT} {l : Launch} {d : Nat} {L0 : Lay} {σ0 : Sto} (hd : 3 ≤ d) : HF G l 9 "goOn" cX9_goOn 2 none d L0 σ0 (true, false) (dcV L0) 76 (A_X9_goOn_76 f_X9_goOn_76) := by
  intro lc st L σ o h hI
  unfold A_X9_goOn_76 at h
  split at h
  · obtain ⟨hq0, hA1⟩ := bif_s h
    obtain ⟨e0, hq1⟩ := beq_and hq0
    obtain ⟨e1, hq2⟩ := beq_and hq1
    subst e0
    subst e1
    exact exs (sp := [83]) (K := (kc 83 (A_X9_goOn_83 (f_X9_goOn_83 FU)) k0)) ok_X9_goOn rt_X9_goOn (by omega) (hc_X9_goOn G l hd) (hrV rfl) (hkc (b_X9_goOn_83 hd FU) hk0) 87 hA1 hI
  · cases h
set_option maxRecDepth 20000 in
theorem b_X9_goOn_47 {G : GT} {l : Launch} {d : Nat} {L0 : Lay} {σ0 : Sto} (hd : 3 ≤ d) : HF G l 9 "goOn" cX9_goOn 2 none d L0 σ0 (true, false) (dcV L0) 47 (A_X9_goOn_47 f_X9_goOn_47) := by
  intro lc st L σ o h hI
  unfold A_X9_goOn_47 at h
  split at h
  · obtain ⟨hq0, hA1⟩ := bif_s h
    obtain ⟨e0, hq1⟩ := beq_and hq0
    subst e0
    exact exs (sp := [76]) (K := (kc 76 (A_X9_goOn_76 (f_X9_goOn_76)) k0)) ok_X9_goOn rt_X9_goOn (by omega) (hc_X9_goOn G l hd) (hrV rfl) (hkc (b_X9_goOn_76 hd) hk0) 87 hA1 hI
  · cases h
set_option maxRecDepth 20000 in
theorem b_X9_goOn_10 {G : GT} {l : Launch} {d : Nat} {L0 : Lay} {σ0 : Sto} (hd : 3 ≤ d) : ∀ k : Nat, HF G l 9 "goOn" cX9_goOn 2 none d L0 σ0 (true, false) (dcV L0) 10 (A_X9_goOn_10 (f_X9_goOn_10 k))
  | 0 => by
    intro lc st L σ o h hI
    unfold A_X9_goOn_10 at h
    split at h
    · obtain ⟨_, hA1⟩ := bif_s h
      cases hA1
    · cases h
  | k + 1 => by
    have ih := b_X9_goOn_10 (G := G) (l := l) (d := d) (L0 := L0) (σ0 := σ0) hd k
    intro lc st L σ o h hI
    unfold A_X9_goOn_10 at h
    split at h
    · obtain ⟨hq0, hA1⟩ := bif_s h
      obtain ⟨e0, hq1⟩ := beq_and hq0
      subst e0
      exact exs (sp := [10, 47]) (K := (kc 10 (A_X9_goOn_10 (f_X9_goOn_10 k)) (kc 47 (A_X9_goOn_47 (f_X9_goOn_47)) k0))) ok_X9_goOn rt_X9_goOn (by omega) (hc_X9_goOn G l hd) (hrV rfl) (hkc ih (hkc (b_X9_goOn_47 hd) hk0)) 87 hA1 hI
    · cases h
set_option maxRecDepth 20000 in
theorem ca_X9_goOn (G : GT) (l : Launch) {d : Nat} (hd : 3 ≤ d) : CA G l 272 (true, false) d ad_X9_goOn := by
  intro O L σ as k o h hW hok
  unfold ad_X9_goOn at h
  split at h
  · obtain ⟨hq0, hA0⟩ := bif_s h
    obtain ⟨e0, hq1⟩ := beq_and hq0
    subst e0
    obtain ⟨r, hr, hk⟩ := Option.bind_eq_some_iff.mp hA0
    exact ca_of (q := (dcV L) r) (by decide) rfl (Nat.le_of_ble_eq_true rfl) hk (fun _ => rfl) (fun e => by cases e) (exs (sp := [10]) (K := (kc 10 (A_X9_goOn_10 (f_X9_goOn_10 FU)) k0)) (L0 := L) (σ0 := σ) ok_X9_goOn rt_X9_goOn (by omega) (hc_X9_goOn G l hd) (hrV rfl) (hkc (b_X9_goOn_10 hd FU) hk0) 87 hr (inv0 hW hok))
  · cases h
def tt_X9_rewind (pc : Nat) : TI := bif Nat.blt pc 5 then (bif Nat.blt pc 1 then (bif Nat.beq pc 0 then (.aload_n 0, 1, (0, 0, 0), 0, 0, []) else TN) else (bif Nat.blt pc 2 then (bif Nat.beq pc 1 then (.iconst 0, 2, (0, 0, 0), 0, 0, []) else TN) else (bif Nat.beq pc 2 then (.putfield 17, 5, (9, 3, 0), 0, 0, []) else TN))) else (bif Nat.blt pc 6 then (bif Nat.beq pc 5 then (.aload_n 0, 6, (0, 0, 0), 0, 0, []) else TN) else (bif Nat.blt pc 9 then (bif Nat.beq pc 6 then (.invokevirtual 20, 9, (272, 0, 9), 0, 0, []) else TN) else (bif Nat.beq pc 9 then (.return_, 10, (0, 0, 0), 0, 0, []) else TN)))
def tb_X9_rewind (pc : Nat) : TI := bif Nat.ble 10 pc then TN else tt_X9_rewind pc
theorem ok_X9_rewind : tOK 9 (decide ("rewind" = "<init>")) cX9_rewind tb_X9_rewind := tOK_of 10 tn_of (by decide +kernel)
def f_X9_rewind (L : Lay) (σ : Sto) (a0 : Nat) : Option Sto := (putI σ a0 3 0).bind fun σ1 => (f_X9_goOn L σ1 a0).bind fun σ2 => some σ2
def ad_X9_rewind : ADT := fun O L σ as k => match as with
  | [.inr (.inr (.inl (ta0, some a0)))] => bif Nat.beq ta0 9 && true then (f_X9_rewind L σ a0).bind fun σ2 => k none L σ2 else none
  | _ => none
abbrev cl_X9_rewind {O : Type} : CLT O := (clc 272 ad_X9_goOn cl0)
theorem hc_X9_rewind (G : GT) (l : Launch) {d : Nat} (hd : 4 ≤ d) {O : Type} : HCL G l (true, false) d (cl_X9_rewind (O := O)) := (hclc (ca_X9_goOn G l (d := 3) (Nat.le_refl _)) (fun _ => rfl) (fun e => by cases e) (by omega) hcl0)
theorem rt_X9_rewind : retOK (6, 0) none := ⟨fun h => absurd h (by decide), fun h => absurd h (by decide), fun _ => rfl⟩
set_option maxRecDepth 20000 in
theorem ca_X9_rewind (G : GT) (l : Launch) {d : Nat} (hd : 4 ≤ d) : CA G l 279 (true, false) d ad_X9_rewind := by
  intro O L σ as k o h hW hok
  unfold ad_X9_rewind at h
  split at h
  · obtain ⟨hq0, hA0⟩ := bif_s h
    obtain ⟨e0, hq1⟩ := beq_and hq0
    subst e0
    obtain ⟨r, hr, hk⟩ := Option.bind_eq_some_iff.mp hA0
    exact ca_of (q := (dcV L) r) (by decide) rfl (Nat.le_of_ble_eq_true rfl) hk (fun _ => rfl) (fun e => by cases e) (exs (sp := []) (K := k0) (L0 := L) (σ0 := σ) ok_X9_rewind rt_X9_rewind (by omega) (hc_X9_rewind G l hd) (hrV rfl) hk0 9 hr (inv0 hW hok))
  · cases h
def tt_J0_coder_7d493 (pc : Nat) : TI := bif Nat.blt pc 7 then (bif Nat.blt pc 3 then (bif Nat.beq pc 0 then (.getstatic 38, 3, (0, 0, 0), 1, 0, []) else TN) else (bif Nat.blt pc 6 then (bif Nat.beq pc 3 then (.ifCond .eq 10, 6, (13, 0, 0), 0, 0, []) else TN) else (bif Nat.beq pc 6 then (.aload_n 0, 7, (0, 0, 0), 0, 0, []) else TN))) else (bif Nat.blt pc 13 then (bif Nat.blt pc 10 then (bif Nat.beq pc 7 then (.getfield 15, 10, (50, 1, 0), 0, 0, []) else TN) else (bif Nat.beq pc 10 then (.goto 4, 13, (14, 0, 0), 0, 0, []) else TN)) else (bif Nat.blt pc 14 then (bif Nat.beq pc 13 then (.iconst 1, 14, (0, 0, 0), 1, 0, []) else TN) else (bif Nat.beq pc 14 then (.ireturn, 15, (0, 0, 0), 0, 0, []) else TN)))
def tb_J0_coder_7d493 (pc : Nat) : TI := bif Nat.ble 15 pc then TN else tt_J0_coder_7d493 pc
theorem ok_J0_coder_7d493 : tOK 14 (decide ("coder" = "<init>")) cJ0_coder_7d493 tb_J0_coder_7d493 := tOK_of 15 tn_of (by decide +kernel)
def f_J0_coder_7d493 (L : Lay) (σ : Sto) (a0 : Nat) : Option Int32 := (if (1 : Int32) = 0 then (ckN 3 1).bind fun _ => some 1 else (ckN 3 0).bind fun _ => some 0)
def ad_J0_coder_7d493 : ADT := fun O L σ as k => match as with
  | [.inr (.inr (.inr (ta0, a0)))] => bif Nat.beq ta0 0 && true then (f_J0_coder_7d493 L σ a0).bind fun r => k (some (vI r)) L σ else none
  | _ => none
abbrev cl_J0_coder_7d493 {O : Type} : CLT O := cl0
theorem hc_J0_coder_7d493 (G : GT) (l : Launch) {d : Nat} (hd : 1 ≤ d) {O : Type} : HCL G l (true, true) d (cl_J0_coder_7d493 (O := O)) := hcl0
theorem rt_J0_coder_7d493 : retOK (3, 0) (some .byte) := ⟨fun _ => rfl, fun h => absurd h (by decide), fun h => absurd h (by decide)⟩
set_option maxRecDepth 20000 in
theorem ca_J0_coder_7d493 (G : GT) (l : Launch) {d : Nat} (hd : 1 ≤ d) : CA G l 5 (true, true) d ad_J0_coder_7d493 := by
  intro O L σ as k o h hW hok
  unfold ad_J0_coder_7d493 at h
  split at h
  · obtain ⟨hq0, hA0⟩ := bif_s h
    obtain ⟨e0, hq1⟩ := beq_and hq0
    subst e0
    obtain ⟨r, hr, hk⟩ := Option.bind_eq_some_iff.mp hA0
    exact ca_of (q := (dcPI L σ) r) (by decide) rfl (Nat.le_of_ble_eq_true rfl) hk (fun _ => rfl) (fun _ => rfl) (exs (sp := []) (K := k0) (L0 := L) (σ0 := σ) ok_J0_coder_7d493 rt_J0_coder_7d493 (by omega) (hc_J0_coder_7d493 G l hd) (hrPI rfl rfl) hk0 10 hr (inv0 hW hok))
  · cases h
def tt_J0_length_8abf5 (pc : Nat) : TI := bif Nat.blt pc 5 then (bif Nat.blt pc 1 then (bif Nat.beq pc 0 then (.aload_n 0, 1, (0, 0, 0), 0, 0, []) else TN) else (bif Nat.blt pc 4 then (bif Nat.beq pc 1 then (.getfield 9, 4, (50, 0, 0), 0, 0, []) else TN) else (bif Nat.beq pc 4 then (.arraylength, 5, (0, 0, 0), 0, 0, []) else TN))) else (bif Nat.blt pc 9 then (bif Nat.blt pc 6 then (bif Nat.beq pc 5 then (.aload_n 0, 6, (0, 0, 0), 0, 0, []) else TN) else (bif Nat.beq pc 6 then (.invokevirtual 335, 9, (5, 0, 50), 0, 0, []) else TN)) else (bif Nat.blt pc 10 then (bif Nat.beq pc 9 then (.ishr, 10, (0, 0, 0), 0, 0, []) else TN) else (bif Nat.beq pc 10 then (.ireturn, 11, (0, 0, 0), 0, 0, []) else TN)))
def tb_J0_length_8abf5 (pc : Nat) : TI := bif Nat.ble 11 pc then TN else tt_J0_length_8abf5 pc
theorem ok_J0_length_8abf5 : tOK 14 (decide ("length" = "<init>")) cJ0_length_8abf5 tb_J0_length_8abf5 := tOK_of 11 tn_of (by decide +kernel)
def f_J0_length_8abf5 (L : Lay) (σ : Sto) (a0 : Nat) : Option Int32 := (f_J0_coder_7d493 L σ a0).bind fun r1 => some ((nI (cal 1 a0).length) >>> (r1 &&& 31))
def ad_J0_length_8abf5 : ADT := fun O L σ as k => match as with
  | [.inr (.inr (.inr (ta0, a0)))] => bif Nat.beq ta0 0 && true then (f_J0_length_8abf5 L σ a0).bind fun r => k (some (vI r)) L σ else none
  | _ => none
abbrev cl_J0_length_8abf5 {O : Type} : CLT O := (clc 5 ad_J0_coder_7d493 cl0)
theorem hc_J0_length_8abf5 (G : GT) (l : Launch) {d : Nat} (hd : 2 ≤ d) {O : Type} : HCL G l (true, true) d (cl_J0_length_8abf5 (O := O)) := (hclc (ca_J0_coder_7d493 G l (d := 1) (Nat.le_refl _)) (fun _ => rfl) (fun _ => rfl) (by omega) hcl0)
theorem rt_J0_length_8abf5 : retOK (0, 0) (some .int) := ⟨fun _ => rfl, fun h => absurd h (by decide), fun h => absurd h (by decide)⟩
set_option maxRecDepth 20000 in
theorem ca_J0_length_8abf5 (G : GT) (l : Launch) {d : Nat} (hd : 2 ≤ d) : CA G l 9 (true, true) d ad_J0_length_8abf5 := by
  intro O L σ as k o h hW hok
  unfold ad_J0_length_8abf5 at h
  split at h
  · obtain ⟨hq0, hA0⟩ := bif_s h
    obtain ⟨e0, hq1⟩ := beq_and hq0
    subst e0
    obtain ⟨r, hr, hk⟩ := Option.bind_eq_some_iff.mp hA0
    exact ca_of (q := (dcPI L σ) r) (by decide) rfl (Nat.le_of_ble_eq_true rfl) hk (fun _ => rfl) (fun _ => rfl) (exs (sp := []) (K := k0) (L0 := L) (σ0 := σ) ok_J0_length_8abf5 rt_J0_length_8abf5 (by omega) (hc_J0_length_8abf5 G l hd) (hrPI rfl rfl) hk0 10 hr (inv0 hW hok))
  · cases h
def tt_J0_isLatin1_aae02 (pc : Nat) : TI := bif Nat.blt pc 10 then (bif Nat.blt pc 6 then (bif Nat.blt pc 3 then (bif Nat.beq pc 0 then (.getstatic 38, 3, (0, 0, 0), 1, 0, []) else TN) else (bif Nat.beq pc 3 then (.ifCond .eq 14, 6, (17, 0, 0), 0, 0, []) else TN)) else (bif Nat.blt pc 7 then (bif Nat.beq pc 6 then (.aload_n 0, 7, (0, 0, 0), 0, 0, []) else TN) else (bif Nat.beq pc 7 then (.getfield 15, 10, (50, 1, 0), 0, 0, []) else TN))) else (bif Nat.blt pc 14 then (bif Nat.blt pc 13 then (bif Nat.beq pc 10 then (.ifCond .ne 7, 13, (17, 0, 0), 0, 0, []) else TN) else (bif Nat.beq pc 13 then (.iconst 1, 14, (0, 0, 0), 1, 0, []) else TN)) else (bif Nat.blt pc 17 then (bif Nat.beq pc 14 then (.goto 4, 17, (18, 0, 0), 0, 0, []) else TN) else (bif Nat.blt pc 18 then (bif Nat.beq pc 17 then (.iconst 0, 18, (0, 0, 0), 0, 0, []) else TN) else (bif Nat.beq pc 18 then (.ireturn, 19, (0, 0, 0), 0, 0, []) else TN))))
def tb_J0_isLatin1_aae02 (pc : Nat) : TI := bif Nat.ble 19 pc then TN else tt_J0_isLatin1_aae02 pc
theorem ok_J0_isLatin1_aae02 : tOK 14 (decide ("isLatin1" = "<init>")) cJ0_isLatin1_aae02 tb_J0_isLatin1_aae02 := tOK_of 19 tn_of (by decide +kernel)
def f_J0_isLatin1_aae02 (L : Lay) (σ : Sto) (a0 : Nat) : Option Int32 := (if (1 : Int32) = 0 then (ckN 1 0).bind fun _ => some 0 else (if (0 : Int32) = 0 then (ckN 1 1).bind fun _ => some 1 else (ckN 1 0).bind fun _ => some 0))
def ad_J0_isLatin1_aae02 : ADT := fun O L σ as k => match as with
  | [.inr (.inr (.inr (ta0, a0)))] => bif Nat.beq ta0 0 && true then (f_J0_isLatin1_aae02 L σ a0).bind fun r => k (some (vI r)) L σ else none
  | _ => none
abbrev cl_J0_isLatin1_aae02 {O : Type} : CLT O := cl0
theorem hc_J0_isLatin1_aae02 (G : GT) (l : Launch) {d : Nat} (hd : 1 ≤ d) {O : Type} : HCL G l (true, true) d (cl_J0_isLatin1_aae02 (O := O)) := hcl0
theorem rt_J0_isLatin1_aae02 : retOK (1, 0) (some .boolean) := ⟨fun _ => rfl, fun h => absurd h (by decide), fun h => absurd h (by decide)⟩
set_option maxRecDepth 20000 in
theorem ca_J0_isLatin1_aae02 (G : GT) (l : Launch) {d : Nat} (hd : 1 ≤ d) : CA G l 8 (true, true) d ad_J0_isLatin1_aae02 := by
  intro O L σ as k o h hW hok
  unfold ad_J0_isLatin1_aae02 at h
  split at h
  · obtain ⟨hq0, hA0⟩ := bif_s h
    obtain ⟨e0, hq1⟩ := beq_and hq0
    subst e0
    obtain ⟨r, hr, hk⟩ := Option.bind_eq_some_iff.mp hA0
    exact ca_of (q := (dcPI L σ) r) (by decide) rfl (Nat.le_of_ble_eq_true rfl) hk (fun _ => rfl) (fun _ => rfl) (exs (sp := []) (K := k0) (L0 := L) (σ0 := σ) ok_J0_isLatin1_aae02 rt_J0_isLatin1_aae02 (by omega) (hc_J0_isLatin1_aae02 G l hd) (hrPI rfl rfl) hk0 12 hr (inv0 hW hok))
  · cases h
def tt_J3_checkIndex_8e157 (pc : Nat) : TI := bif Nat.blt pc 9 then (bif Nat.blt pc 4 then (bif Nat.blt pc 1 then (bif Nat.beq pc 0 then (.iload_n 0, 1, (0, 0, 0), 0, 0, []) else TN) else (bif Nat.beq pc 1 then (.ifCond .lt 8, 4, (9, 0, 0), 0, 0, []) else TN)) else (bif Nat.blt pc 5 then (bif Nat.beq pc 4 then (.iload_n 0, 5, (0, 0, 0), 0, 0, []) else TN) else (bif Nat.blt pc 6 then (bif Nat.beq pc 5 then (.iload_n 1, 6, (1, 0, 0), 0, 0, []) else TN) else (bif Nat.beq pc 6 then (.if_icmp .lt 10, 9, (16, 0, 0), 0, 0, []) else TN)))) else (bif Nat.blt pc 11 then (bif Nat.blt pc 10 then (bif Nat.beq pc 9 then (.aload_n 2, 10, (2, 0, 0), 0, 0, []) else TN) else (bif Nat.beq pc 10 then (.iload_n 0, 11, (0, 0, 0), 0, 0, []) else TN)) else (bif Nat.blt pc 16 then (bif Nat.beq pc 11 then (.iload_n 1, 12, (1, 0, 0), 0, 0, []) else TN) else (bif Nat.blt pc 17 then (bif Nat.beq pc 16 then (.iload_n 0, 17, (0, 0, 0), 0, 0, []) else TN) else (bif Nat.beq pc 17 then (.ireturn, 18, (0, 0, 0), 0, 0, []) else TN))))
def tb_J3_checkIndex_8e157 (pc : Nat) : TI := bif Nat.ble 18 pc then TN else tt_J3_checkIndex_8e157 pc
theorem ok_J3_checkIndex_8e157 : tOK 23 (decide ("checkIndex" = "<init>")) cJ3_checkIndex_8e157 tb_J3_checkIndex_8e157 := tOK_of 18 tn_of (by decide +kernel)
def f_J3_checkIndex_8e157_9 (L : Lay) (σ : Sto) (a0 : Int32) (a1 : Int32) (a2 : Nat) : Option Int32 := none
def A_J3_checkIndex_8e157_9 (c : Lay → Sto → Int32 → Int32 → Nat → Option Int32) (lc : List (Option AV)) (st : List AV) (L : Lay) (σ : Sto) : Option Int32 := match lc, st with
  | [some (.inl a0), some (.inl a1), some (.inr (.inr (.inr (ta2, a2))))], [] => bif Nat.beq ta2 3 && true then c L σ a0 a1 a2 else none
  | _, _ => none
def f_J3_checkIndex_8e157 (L : Lay) (σ : Sto) (a0 : Int32) (a1 : Int32) (a2 : Nat) : Option Int32 := (if a0 < 0 then (f_J3_checkIndex_8e157_9) L σ a0 a1 a2 else (if a0 < a1 then some a0 else (f_J3_checkIndex_8e157_9) L σ a0 a1 a2))
def ad_J3_checkIndex_8e157 : ADT := fun O L σ as k => match as with
  | [.inl a0, .inl a1, .inr (.inr (.inr (ta2, a2)))] => bif Nat.beq ta2 3 && true then (f_J3_checkIndex_8e157 L σ a0 a1 a2).bind fun r => k (some (vI r)) L σ else none
  | _ => none
abbrev cl_J3_checkIndex_8e157 {O : Type} : CLT O := cl0
theorem hc_J3_checkIndex_8e157 (G : GT) (l : Launch) {d : Nat} (hd : 1 ≤ d) {O : Type} : HCL G l (true, true) d (cl_J3_checkIndex_8e157 (O := O)) := hcl0
theorem rt_J3_checkIndex_8e157 : retOK (0, 0) (some .int) := ⟨fun _ => rfl, fun h => absurd h (by decide), fun h => absurd h (by decide)⟩
set_option maxRecDepth 20000 in
theorem b_J3_checkIndex_8e157_9 {G : GT} {l : Launch} {d : Nat} {L0 : Lay} {σ0 : Sto} (hd : 1 ≤ d) : HF G l 23 "checkIndex" cJ3_checkIndex_8e157 3 (some .int) d L0 σ0 (true, true) (dcPI L0 σ0) 9 (A_J3_checkIndex_8e157_9 f_J3_checkIndex_8e157_9) := by
  intro lc st L σ o h hI
  unfold A_J3_checkIndex_8e157_9 at h
  split at h
  · obtain ⟨hq0, hA1⟩ := bif_s h
    obtain ⟨e0, hq1⟩ := beq_and hq0
    subst e0
    exact exs (sp := []) (K := k0) ok_J3_checkIndex_8e157 rt_J3_checkIndex_8e157 (by omega) (hc_J3_checkIndex_8e157 G l hd) (hrPI rfl rfl) hk0 15 hA1 hI
  · cases h
set_option maxRecDepth 20000 in
theorem ca_J3_checkIndex_8e157 (G : GT) (l : Launch) {d : Nat} (hd : 1 ≤ d) : CA G l 28 (true, true) d ad_J3_checkIndex_8e157 := by
  intro O L σ as k o h hW hok
  unfold ad_J3_checkIndex_8e157 at h
  split at h
  · obtain ⟨hq0, hA0⟩ := bif_s h
    obtain ⟨e0, hq1⟩ := beq_and hq0
    subst e0
    obtain ⟨r, hr, hk⟩ := Option.bind_eq_some_iff.mp hA0
    exact ca_of (q := (dcPI L σ) r) (by decide) rfl (Nat.le_of_ble_eq_true rfl) hk (fun _ => rfl) (fun _ => rfl) (exs (sp := [9]) (K := (kc 9 (A_J3_checkIndex_8e157_9 (f_J3_checkIndex_8e157_9)) k0)) (L0 := L) (σ0 := σ) ok_J3_checkIndex_8e157 rt_J3_checkIndex_8e157 (by omega) (hc_J3_checkIndex_8e157 G l hd) (hrPI rfl rfl) (hkc (b_J3_checkIndex_8e157_9 hd) hk0) 15 hr (inv0 hW hok))
  · cases h
