def tt_X11_plan (pc : Nat) : TI := bif Nat.blt pc 9 then (bif Nat.blt pc 2 then (bif Nat.blt pc 1 then (bif Nat.beq pc 0 then (.aload_n 0, 1, (0, 0, 0), 0, 0, []) else TN) else (bif Nat.beq pc 1 then (.iload_n 1, 2, (1, 0, 0), 0, 0, []) else TN)) else (bif Nat.blt pc 3 then (bif Nat.beq pc 2 then (.iload_n 2, 3, (2, 0, 0), 0, 0, []) else TN) else (bif Nat.blt pc 6 then (bif Nat.beq pc 3 then (.invokevirtual 383, 6, (91, 2, 11), 0, 0, []) else TN) else (bif Nat.beq pc 6 then (.ifCond .eq 13, 9, (19, 0, 0), 0, 0, []) else TN)))) else (bif Nat.blt pc 16 then (bif Nat.blt pc 10 then (bif Nat.beq pc 9 then (.aload_n 0, 10, (0, 0, 0), 0, 0, []) else TN) else (bif Nat.blt pc 13 then (bif Nat.beq pc 10 then (.getfield 73, 13, (11, 12, 0), 0, 0, []) else TN) else (bif Nat.beq pc 13 then (.getfield 386, 16, (6, 9, 1), 0, 0, []) else TN))) else (bif Nat.blt pc 19 then (bif Nat.beq pc 16 then (.goto 5, 19, (21, 0, 0), 0, 0, []) else TN) else (bif Nat.blt pc 21 then (bif Nat.beq pc 19 then (.ldc 91, 21, (0, 0, 0), -1000000001, 0, []) else TN) else (bif Nat.beq pc 21 then (.ireturn, 22, (0, 0, 0), 0, 0, []) else TN))))
def tb_X11_plan (pc : Nat) : TI := bif Nat.ble 22 pc then TN else tt_X11_plan pc
theorem ok_X11_plan : tOK 11 (decide ("plan" = "<init>")) cX11_plan tb_X11_plan := tOK_of 22 tn_of (by decide +kernel)
def f_X11_plan (L : Lay) (σ : Sto) (a0 : Nat) (a1 : Int32) (a2 : Int32) : Option (Int32 × Sto) := (f_X11_makePlan L σ a0 a1 a2).bind fun r1 => (if r1.1 = 0 then some ((-1000000001), r1.2) else (r1.2.2.1 a0 12).bind fun x2 => some ((r1.2.1 x2 9), r1.2))
def ad_X11_plan : ADT := fun O L σ as k => match as with
  | [.inr (.inr (.inl (ta0, some a0))), .inl a1, .inl a2] => bif Nat.beq ta0 11 && true then (f_X11_plan L σ a0 a1 a2).bind fun r => k (some (vI r.1)) L r.2 else none
  | _ => none
abbrev cl_X11_plan {O : Type} : CLT O := (clc 91 ad_X11_makePlan cl0)
theorem hc_X11_plan (G : GT) (l : Launch) {d : Nat} (hd : 106 ≤ d) {O : Type} : HCL G l (true, false) d (cl_X11_plan (O := O)) := (hclc (ca_X11_makePlan G l (d := 105) (Nat.le_refl _)) (fun _ => rfl) (fun e => by cases e) (by omega) hcl0)
theorem rt_X11_plan : retOK (0, 0) (some .int) := ⟨fun _ => rfl, fun h => absurd h (by decide), fun h => absurd h (by decide)⟩
set_option maxRecDepth 20000 in
theorem ca_X11_plan (G : GT) (l : Launch) {d : Nat} (hd : 106 ≤ d) : CA G l 104 (true, false) d ad_X11_plan := by
  intro O L σ as k o h hW hok
  unfold ad_X11_plan at h
  split at h
  · obtain ⟨hq0, hA0⟩ := bif_s h
    obtain ⟨e0, hq1⟩ := beq_and hq0
    subst e0
    obtain ⟨r, hr, hk⟩ := Option.bind_eq_some_iff.mp hA0
    exact ca_of (q := (dcI L) r) (by decide) rfl (Nat.le_of_ble_eq_true rfl) hk (fun _ => rfl) (fun e => by cases e) (exs (sp := []) (K := k0) (L0 := L) (σ0 := σ) ok_X11_plan rt_X11_plan (by omega) (hc_X11_plan G l hd) (hrI rfl) hk0 14 hr (inv0 hW hok))
  · cases h
def tt_X11_planned (pc : Nat) : TI := bif Nat.blt pc 9 then (bif Nat.blt pc 2 then (bif Nat.blt pc 1 then (bif Nat.beq pc 0 then (.aload_n 0, 1, (0, 0, 0), 0, 0, []) else TN) else (bif Nat.beq pc 1 then (.iload_n 1, 2, (1, 0, 0), 0, 0, []) else TN)) else (bif Nat.blt pc 3 then (bif Nat.beq pc 2 then (.iload_n 2, 3, (2, 0, 0), 0, 0, []) else TN) else (bif Nat.blt pc 6 then (bif Nat.beq pc 3 then (.invokevirtual 383, 6, (91, 2, 11), 0, 0, []) else TN) else (bif Nat.beq pc 6 then (.ifCond .eq 13, 9, (19, 0, 0), 0, 0, []) else TN)))) else (bif Nat.blt pc 16 then (bif Nat.blt pc 10 then (bif Nat.beq pc 9 then (.aload_n 0, 10, (0, 0, 0), 0, 0, []) else TN) else (bif Nat.blt pc 13 then (bif Nat.beq pc 10 then (.getfield 73, 13, (11, 12, 0), 0, 0, []) else TN) else (bif Nat.beq pc 13 then (.getfield 389, 16, (6, 8, 1), 0, 0, []) else TN))) else (bif Nat.blt pc 19 then (bif Nat.beq pc 16 then (.goto 5, 19, (21, 0, 0), 0, 0, []) else TN) else (bif Nat.blt pc 21 then (bif Nat.beq pc 19 then (.ldc 91, 21, (0, 0, 0), -1000000001, 0, []) else TN) else (bif Nat.beq pc 21 then (.ireturn, 22, (0, 0, 0), 0, 0, []) else TN))))
def tb_X11_planned (pc : Nat) : TI := bif Nat.ble 22 pc then TN else tt_X11_planned pc
theorem ok_X11_planned : tOK 11 (decide ("planned" = "<init>")) cX11_planned tb_X11_planned := tOK_of 22 tn_of (by decide +kernel)
def f_X11_planned (L : Lay) (σ : Sto) (a0 : Nat) (a1 : Int32) (a2 : Int32) : Option (Int32 × Sto) := (f_X11_makePlan L σ a0 a1 a2).bind fun r1 => (if r1.1 = 0 then some ((-1000000001), r1.2) else (r1.2.2.1 a0 12).bind fun x2 => some ((r1.2.1 x2 8), r1.2))
def ad_X11_planned : ADT := fun O L σ as k => match as with
  | [.inr (.inr (.inl (ta0, some a0))), .inl a1, .inl a2] => bif Nat.beq ta0 11 && true then (f_X11_planned L σ a0 a1 a2).bind fun r => k (some (vI r.1)) L r.2 else none
  | _ => none
abbrev cl_X11_planned {O : Type} : CLT O := (clc 91 ad_X11_makePlan cl0)
theorem hc_X11_planned (G : GT) (l : Launch) {d : Nat} (hd : 106 ≤ d) {O : Type} : HCL G l (true, false) d (cl_X11_planned (O := O)) := (hclc (ca_X11_makePlan G l (d := 105) (Nat.le_refl _)) (fun _ => rfl) (fun e => by cases e) (by omega) hcl0)
theorem rt_X11_planned : retOK (0, 0) (some .int) := ⟨fun _ => rfl, fun h => absurd h (by decide), fun h => absurd h (by decide)⟩
set_option maxRecDepth 20000 in
theorem ca_X11_planned (G : GT) (l : Launch) {d : Nat} (hd : 106 ≤ d) : CA G l 105 (true, false) d ad_X11_planned := by
  intro O L σ as k o h hW hok
  unfold ad_X11_planned at h
  split at h
  · obtain ⟨hq0, hA0⟩ := bif_s h
    obtain ⟨e0, hq1⟩ := beq_and hq0
    subst e0
    obtain ⟨r, hr, hk⟩ := Option.bind_eq_some_iff.mp hA0
    exact ca_of (q := (dcI L) r) (by decide) rfl (Nat.le_of_ble_eq_true rfl) hk (fun _ => rfl) (fun e => by cases e) (exs (sp := []) (K := k0) (L0 := L) (σ0 := σ) ok_X11_planned rt_X11_planned (by omega) (hc_X11_planned G l hd) (hrI rfl) hk0 14 hr (inv0 hW hok))
  · cases h
def tt_X7_addLines (pc : Nat) : TI := bif Nat.blt pc 31 then (bif Nat.blt pc 14 then (bif Nat.blt pc 6 then (bif Nat.blt pc 4 then (bif Nat.blt pc 1 then (bif Nat.beq pc 0 then (.aload_n 0, 1, (0, 0, 0), 0, 0, []) else TN) else (bif Nat.beq pc 1 then (.getfield 28, 4, (7, 3, 0), 0, 0, []) else TN)) else (bif Nat.blt pc 5 then (bif Nat.beq pc 4 then (.istore_n 3, 5, (3, 0, 0), 0, 0, []) else TN) else (bif Nat.beq pc 5 then (.iconst 0, 6, (0, 0, 0), 0, 0, []) else TN))) else (bif Nat.blt pc 10 then (bif Nat.blt pc 8 then (bif Nat.beq pc 6 then (.istore 4, 8, (4, 0, 0), 0, 0, []) else TN) else (bif Nat.beq pc 8 then (.iload 4, 10, (4, 0, 0), 0, 0, []) else TN)) else (bif Nat.blt pc 11 then (bif Nat.beq pc 10 then (.aload_n 1, 11, (1, 0, 0), 0, 0, []) else TN) else (bif Nat.beq pc 11 then (.getfield 37, 14, (8, 1, 1), 0, 0, []) else TN)))) else (bif Nat.blt pc 24 then (bif Nat.blt pc 18 then (bif Nat.blt pc 17 then (bif Nat.beq pc 14 then (.if_icmp .ge 42, 17, (56, 0, 0), 0, 0, []) else TN) else (bif Nat.beq pc 17 then (.aload_n 0, 18, (0, 0, 0), 0, 0, []) else TN)) else (bif Nat.blt pc 21 then (bif Nat.beq pc 18 then (.invokevirtual 32, 21, (259, 0, 7), 0, 0, []) else TN) else (bif Nat.beq pc 21 then (.ifCond .ne 35, 24, (56, 0, 0), 0, 0, []) else TN))) else (bif Nat.blt pc 28 then (bif Nat.blt pc 25 then (bif Nat.beq pc 24 then (.aload_n 1, 25, (1, 0, 0), 0, 0, []) else TN) else (bif Nat.beq pc 25 then (.getfield 42, 28, (8, 0, 1), 0, 0, []) else TN)) else (bif Nat.blt pc 30 then (bif Nat.beq pc 28 then (.iload 4, 30, (4, 0, 0), 0, 0, []) else TN) else (bif Nat.beq pc 30 then (.saload, 31, (0, 0, 0), 0, 0, []) else TN))))) else (bif Nat.blt pc 46 then (bif Nat.blt pc 39 then (bif Nat.blt pc 37 then (bif Nat.blt pc 34 then (bif Nat.beq pc 31 then (.invokestatic 46, 34, (80, 1, 0), 0, 0, []) else TN) else (bif Nat.beq pc 34 then (.ifCond .eq 16, 37, (50, 0, 0), 0, 0, []) else TN)) else (bif Nat.blt pc 38 then (bif Nat.beq pc 37 then (.aload_n 0, 38, (0, 0, 0), 0, 0, []) else TN) else (bif Nat.beq pc 38 then (.aload_n 1, 39, (1, 0, 0), 0, 0, []) else TN))) else (bif Nat.blt pc 44 then (bif Nat.blt pc 42 then (bif Nat.beq pc 39 then (.getfield 42, 42, (8, 0, 1), 0, 0, []) else TN) else (bif Nat.beq pc 42 then (.iload 4, 44, (4, 0, 0), 0, 0, []) else TN)) else (bif Nat.blt pc 45 then (bif Nat.beq pc 44 then (.saload, 45, (0, 0, 0), 0, 0, []) else TN) else (bif Nat.beq pc 45 then (.iload_n 2, 46, (2, 0, 0), 0, 0, []) else TN)))) else (bif Nat.blt pc 56 then (bif Nat.blt pc 50 then (bif Nat.blt pc 49 then (bif Nat.beq pc 46 then (.invokevirtual 50, 49, (255, 2, 7), 0, 0, []) else TN) else (bif Nat.beq pc 49 then (.pop, 50, (0, 0, 0), 0, 0, []) else TN)) else (bif Nat.blt pc 53 then (bif Nat.beq pc 50 then (.iinc 4 1, 53, (4, 0, 0), 1, 0, []) else TN) else (bif Nat.beq pc 53 then (.goto (-45), 56, (8, 0, 0), 0, 0, []) else TN))) else (bif Nat.blt pc 60 then (bif Nat.blt pc 57 then (bif Nat.beq pc 56 then (.aload_n 0, 57, (0, 0, 0), 0, 0, []) else TN) else (bif Nat.beq pc 57 then (.getfield 28, 60, (7, 3, 0), 0, 0, []) else TN)) else (bif Nat.blt pc 61 then (bif Nat.beq pc 60 then (.iload_n 3, 61, (3, 0, 0), 0, 0, []) else TN) else (bif Nat.blt pc 62 then (bif Nat.beq pc 61 then (.isub, 62, (0, 0, 0), 0, 0, []) else TN) else (bif Nat.beq pc 62 then (.ireturn, 63, (0, 0, 0), 0, 0, []) else TN))))))
def tb_X7_addLines (pc : Nat) : TI := bif Nat.ble 63 pc then TN else tt_X7_addLines pc
theorem ok_X7_addLines : tOK 7 (decide ("addLines" = "<init>")) cX7_addLines tb_X7_addLines := tOK_of 63 tn_of (by decide +kernel)
def f_X7_addLines_50 (c8 : Lay → Sto → Nat → Option Nat → Int32 → Int32 → Int32 → Option (Int32 × Sto)) (L : Lay) (σ : Sto) (a0 : Nat) (a1 : Option Nat) (a2 : Int32) (a3 : Int32) (a4 : Int32) : Option (Int32 × Sto) := c8 L σ a0 a1 a2 a3 (a4 + 1)
def A_X7_addLines_50 (c : Lay → Sto → Nat → Option Nat → Int32 → Int32 → Int32 → Option (Int32 × Sto)) (lc : List (Option AV)) (st : List AV) (L : Lay) (σ : Sto) : Option (Int32 × Sto) := match lc, st with
  | [some (.inr (.inr (.inl (ta0, some a0)))), some (.inr (.inr (.inl (ta1, a1)))), some (.inl a2), some (.inl a3), some (.inl a4)], [] => bif Nat.beq ta0 7 && (Nat.beq ta1 8 && true) then c L σ a0 a1 a2 a3 a4 else none
  | _, _ => none
def f_X7_addLines_56 (L : Lay) (σ : Sto) (a0 : Nat) (a3 : Int32) : Option (Int32 × Sto) := some (((σ.1 a0 3) - a3), σ)
def A_X7_addLines_56 (c : Lay → Sto → Nat → Int32 → Option (Int32 × Sto)) (lc : List (Option AV)) (st : List AV) (L : Lay) (σ : Sto) : Option (Int32 × Sto) := match lc, st with
  | [some (.inr (.inr (.inl (ta0, some a0)))), _, _, some (.inl a3), _], [] => bif Nat.beq ta0 7 && true then c L σ a0 a3 else none
  | _, _ => none
def f_X7_addLines_8 : Nat → Lay → Sto → Nat → Option Nat → Int32 → Int32 → Int32 → Option (Int32 × Sto)
  | 0 => fun _ _ _ _ _ _ _ => none
  | k + 1 => fun L σ a0 a1 a2 a3 a4 => a1.bind fun x1 => (if (σ.1 x1 1) ≤ a4 then (f_X7_addLines_56) L σ a0 a3 else (f_X7_isFull L σ a0).bind fun r2 => (if r2 = 0 then a1.bind fun x3 => (σ.2.1 x3 0).bind fun x4 => (rI L σ x4 a4).bind fun v5 => (f_X11_isMark L σ v5).bind fun r6 => (if r6 = 0 then (f_X7_addLines_50 (f_X7_addLines_8 k)) L σ a0 a1 a2 a3 a4 else a1.bind fun x7 => (σ.2.1 x7 0).bind fun x8 => (rI L σ x8 a4).bind fun v9 => (f_X7_addLine L σ a0 v9 a2).bind fun r10 => (f_X7_addLines_50 (f_X7_addLines_8 k)) L r10.2 a0 a1 a2 a3 a4) else (f_X7_addLines_56) L σ a0 a3))
def A_X7_addLines_8 (c : Lay → Sto → Nat → Option Nat → Int32 → Int32 → Int32 → Option (Int32 × Sto)) (lc : List (Option AV)) (st : List AV) (L : Lay) (σ : Sto) : Option (Int32 × Sto) := match lc, st with
  | [some (.inr (.inr (.inl (ta0, some a0)))), some (.inr (.inr (.inl (ta1, a1)))), some (.inl a2), some (.inl a3), some (.inl a4)], [] => bif Nat.beq ta0 7 && (Nat.beq ta1 8 && true) then c L σ a0 a1 a2 a3 a4 else none
  | _, _ => none
def f_X7_addLines (L : Lay) (σ : Sto) (a0 : Nat) (a1 : Option Nat) (a2 : Int32) : Option (Int32 × Sto) := (f_X7_addLines_8 FU) L σ a0 a1 a2 (σ.1 a0 3) 0
def ad_X7_addLines : ADT := fun O L σ as k => match as with
  | [.inr (.inr (.inl (ta0, some a0))), .inr (.inr (.inl (ta1, a1))), .inl a2] => bif Nat.beq ta0 7 && (Nat.beq ta1 8 && true) then (f_X7_addLines L σ a0 a1 a2).bind fun r => k (some (vI r.1)) L r.2 else none
  | _ => none
abbrev cl_X7_addLines {O : Type} : CLT O := (clc 259 ad_X7_isFull (clc 80 ad_X11_isMark (clc 255 ad_X7_addLine cl0)))
theorem hc_X7_addLines (G : GT) (l : Launch) {d : Nat} (hd : 3 ≤ d) {O : Type} : HCL G l (true, false) d (cl_X7_addLines (O := O)) := (hclc (ca_X7_isFull G l (d := 1) (Nat.le_refl _)) (fun _ => rfl) (fun e => by cases e) (by omega) (hclc (ca_X11_isMark G l (d := 2) (Nat.le_refl _)) (fun _ => rfl) (fun e => by cases e) (by omega) (hclc (ca_X7_addLine G l (d := 2) (Nat.le_refl _)) (fun _ => rfl) (fun e => by cases e) (by omega) hcl0)))
theorem rt_X7_addLines : retOK (0, 0) (some .int) := ⟨fun _ => rfl, fun h => absurd h (by decide), fun h => absurd h (by decide)⟩
set_option maxRecDepth 20000 in
theorem b_X7_addLines_50 {G : GT} {l : Launch} {d : Nat} {L0 : Lay} {σ0 : Sto} (hd : 3 ≤ d) {c8 : Lay → Sto → Nat → Option Nat → Int32 → Int32 → Int32 → Option (Int32 × Sto)} (h8 : HF G l 7 "addLines" cX7_addLines 5 (some .int) d L0 σ0 (true, false) (dcI L0) 8 (A_X7_addLines_8 c8)) : HF G l 7 "addLines" cX7_addLines 5 (some .int) d L0 σ0 (true, false) (dcI L0) 50 (A_X7_addLines_50 (f_X7_addLines_50 c8)) := by
  intro lc st L σ o h hI
  unfold A_X7_addLines_50 at h
  split at h
  · obtain ⟨hq0, hA1⟩ := bif_s h
    obtain ⟨e0, hq1⟩ := beq_and hq0
    obtain ⟨e1, hq2⟩ := beq_and hq1
    subst e0
    subst e1
    exact exs (sp := [8]) (K := (kc 8 (A_X7_addLines_8 c8) k0)) ok_X7_addLines rt_X7_addLines (by omega) (hc_X7_addLines G l hd) (hrI rfl) (hkc h8 hk0) 36 hA1 hI
  · cases h
set_option maxRecDepth 20000 in
theorem b_X7_addLines_56 {G : GT} {l : Launch} {d : Nat} {L0 : Lay} {σ0 : Sto} (hd : 3 ≤ d) : HF G l 7 "addLines" cX7_addLines 5 (some .int) d L0 σ0 (true, false) (dcI L0) 56 (A_X7_addLines_56 f_X7_addLines_56) := by
  intro lc st L σ o h hI
  unfold A_X7_addLines_56 at h
  split at h
  · obtain ⟨hq0, hA1⟩ := bif_s h
    obtain ⟨e0, hq1⟩ := beq_and hq0
    subst e0
    exact exs (sp := []) (K := k0) ok_X7_addLines rt_X7_addLines (by omega) (hc_X7_addLines G l hd) (hrI rfl) hk0 36 hA1 hI
  · cases h
set_option maxRecDepth 20000 in
theorem b_X7_addLines_8 {G : GT} {l : Launch} {d : Nat} {L0 : Lay} {σ0 : Sto} (hd : 3 ≤ d) : ∀ k : Nat, HF G l 7 "addLines" cX7_addLines 5 (some .int) d L0 σ0 (true, false) (dcI L0) 8 (A_X7_addLines_8 (f_X7_addLines_8 k))
  | 0 => by
    intro lc st L σ o h hI
    unfold A_X7_addLines_8 at h
    split at h
    · obtain ⟨_, hA1⟩ := bif_s h
      cases hA1
    · cases h
  | k + 1 => by
    have ih := b_X7_addLines_8 (G := G) (l := l) (d := d) (L0 := L0) (σ0 := σ0) hd k
    intro lc st L σ o h hI
    unfold A_X7_addLines_8 at h
    split at h
    · obtain ⟨hq0, hA1⟩ := bif_s h
      obtain ⟨e0, hq1⟩ := beq_and hq0
      obtain ⟨e1, hq2⟩ := beq_and hq1
      subst e0
      subst e1
      exact exs (sp := [50, 56]) (K := (kc 50 (A_X7_addLines_50 (f_X7_addLines_50 (f_X7_addLines_8 k))) (kc 56 (A_X7_addLines_56 (f_X7_addLines_56)) k0))) ok_X7_addLines rt_X7_addLines (by omega) (hc_X7_addLines G l hd) (hrI rfl) (hkc (b_X7_addLines_50 hd ih) (hkc (b_X7_addLines_56 hd) hk0)) 36 hA1 hI
    · cases h
set_option maxRecDepth 20000 in
theorem ca_X7_addLines (G : GT) (l : Launch) {d : Nat} (hd : 3 ≤ d) : CA G l 256 (true, false) d ad_X7_addLines := by
  intro O L σ as k o h hW hok
  unfold ad_X7_addLines at h
  split at h
  · obtain ⟨hq0, hA0⟩ := bif_s h
    obtain ⟨e0, hq1⟩ := beq_and hq0
    obtain ⟨e1, hq2⟩ := beq_and hq1
    subst e0
    subst e1
    obtain ⟨r, hr, hk⟩ := Option.bind_eq_some_iff.mp hA0
    exact ca_of (q := (dcI L) r) (by decide) rfl (Nat.le_of_ble_eq_true rfl) hk (fun _ => rfl) (fun e => by cases e) (exs (sp := [8]) (K := (kc 8 (A_X7_addLines_8 (f_X7_addLines_8 FU)) k0)) (L0 := L) (σ0 := σ) ok_X7_addLines rt_X7_addLines (by omega) (hc_X7_addLines G l hd) (hrI rfl) (hkc (b_X7_addLines_8 hd FU) hk0) 36 hr (inv0 hW hok))
  · cases h
def tt_X11_roll (pc : Nat) : TI := bif Nat.blt pc 23 then (bif Nat.blt pc 10 then (bif Nat.blt pc 5 then (bif Nat.blt pc 1 then (bif Nat.beq pc 0 then (.aload_n 0, 1, (0, 0, 0), 0, 0, []) else TN) else (bif Nat.blt pc 2 then (bif Nat.beq pc 1 then (.iload_n 2, 2, (2, 0, 0), 0, 0, []) else TN) else (bif Nat.beq pc 2 then (.invokevirtual 178, 5, (113, 1, 11), 0, 0, []) else TN))) else (bif Nat.blt pc 6 then (bif Nat.beq pc 5 then (.astore_n 3, 6, (3, 0, 0), 0, 0, []) else TN) else (bif Nat.blt pc 7 then (bif Nat.beq pc 6 then (.aload_n 3, 7, (3, 0, 0), 0, 0, []) else TN) else (bif Nat.beq pc 7 then (.ifnull 14, 10, (21, 0, 0), 0, 0, []) else TN)))) else (bif Nat.blt pc 15 then (bif Nat.blt pc 11 then (bif Nat.beq pc 10 then (.aload_n 0, 11, (0, 0, 0), 0, 0, []) else TN) else (bif Nat.blt pc 14 then (bif Nat.beq pc 11 then (.getfield 12, 14, (11, 0, 0), 0, 0, []) else TN) else (bif Nat.beq pc 14 then (.iload_n 1, 15, (1, 0, 0), 0, 0, []) else TN))) else (bif Nat.blt pc 18 then (bif Nat.beq pc 15 then (.invokevirtual 101, 18, (47, 1, 10), 0, 0, []) else TN) else (bif Nat.blt pc 21 then (bif Nat.beq pc 18 then (.ifCond .ne 6, 21, (24, 0, 0), 0, 0, []) else TN) else (bif Nat.beq pc 21 then (.ldc 91, 23, (0, 0, 0), -1000000001, 0, []) else TN))))) else (bif Nat.blt pc 36 then (bif Nat.blt pc 28 then (bif Nat.blt pc 24 then (bif Nat.beq pc 23 then (.ireturn, 24, (0, 0, 0), 0, 0, []) else TN) else (bif Nat.blt pc 25 then (bif Nat.beq pc 24 then (.aload_n 3, 25, (3, 0, 0), 0, 0, []) else TN) else (bif Nat.beq pc 25 then (.invokevirtual 182, 28, (269, 0, 8), 0, 0, []) else TN))) else (bif Nat.blt pc 31 then (bif Nat.beq pc 28 then (.ifCond .eq 8, 31, (36, 0, 0), 0, 0, []) else TN) else (bif Nat.blt pc 33 then (bif Nat.beq pc 31 then (.ldc 185, 33, (0, 0, 0), -1000000011, 0, []) else TN) else (bif Nat.beq pc 33 then (.goto 12, 36, (45, 0, 0), 0, 0, []) else TN)))) else (bif Nat.blt pc 41 then (bif Nat.blt pc 37 then (bif Nat.beq pc 36 then (.aload_n 0, 37, (0, 0, 0), 0, 0, []) else TN) else (bif Nat.blt pc 40 then (bif Nat.beq pc 37 then (.getfield 21, 40, (11, 1, 0), 0, 0, []) else TN) else (bif Nat.beq pc 40 then (.aload_n 3, 41, (3, 0, 0), 0, 0, []) else TN))) else (bif Nat.blt pc 42 then (bif Nat.beq pc 41 then (.iload_n 1, 42, (1, 0, 0), 0, 0, []) else TN) else (bif Nat.blt pc 45 then (bif Nat.beq pc 42 then (.invokevirtual 186, 45, (256, 2, 7), 0, 0, []) else TN) else (bif Nat.beq pc 45 then (.ireturn, 46, (0, 0, 0), 0, 0, []) else TN)))))
def tb_X11_roll (pc : Nat) : TI := bif Nat.ble 46 pc then TN else tt_X11_roll pc
theorem ok_X11_roll : tOK 11 (decide ("roll" = "<init>")) cX11_roll tb_X11_roll := tOK_of 46 tn_of (by decide +kernel)
def f_X11_roll (L : Lay) (σ : Sto) (a0 : Nat) (a1 : Int32) (a2 : Int32) : Option (Int32 × Sto) := (f_X11_sheetAt L σ a0 a2).bind fun o1 => (Option.elim o1 (some ((-1000000001), σ)) (fun _ => (σ.2.1 a0 0).bind fun x2 => (f_X10_hasBranch L σ x2 a1).bind fun r3 => (if r3 = 0 then some ((-1000000001), σ) else o1.bind fun x4 => (f_X8_isMissing L σ x4).bind fun r5 => (if r5 = 0 then (σ.2.1 a0 1).bind fun x6 => (f_X7_addLines L σ x6 o1 a1).bind fun r7 => some (r7.1, r7.2) else some ((-1000000011), σ)))))
def ad_X11_roll : ADT := fun O L σ as k => match as with
  | [.inr (.inr (.inl (ta0, some a0))), .inl a1, .inl a2] => bif Nat.beq ta0 11 && true then (f_X11_roll L σ a0 a1 a2).bind fun r => k (some (vI r.1)) L r.2 else none
  | _ => none
abbrev cl_X11_roll {O : Type} : CLT O := (clc 113 ad_X11_sheetAt (clc 47 ad_X10_hasBranch (clc 269 ad_X8_isMissing (clc 256 ad_X7_addLines cl0))))
theorem hc_X11_roll (G : GT) (l : Launch) {d : Nat} (hd : 4 ≤ d) {O : Type} : HCL G l (true, false) d (cl_X11_roll (O := O)) := (hclc (ca_X11_sheetAt G l (d := 1) (Nat.le_refl _)) (fun _ => rfl) (fun e => by cases e) (by omega) (hclc (ca_X10_hasBranch G l (d := 2) (Nat.le_refl _)) (fun _ => rfl) (fun e => by cases e) (by omega) (hclc (ca_X8_isMissing G l (d := 1) (Nat.le_refl _)) (fun _ => rfl) (fun e => by cases e) (by omega) (hclc (ca_X7_addLines G l (d := 3) (Nat.le_refl _)) (fun _ => rfl) (fun e => by cases e) (by omega) hcl0))))
theorem rt_X11_roll : retOK (0, 0) (some .int) := ⟨fun _ => rfl, fun h => absurd h (by decide), fun h => absurd h (by decide)⟩
set_option maxRecDepth 20000 in
theorem ca_X11_roll (G : GT) (l : Launch) {d : Nat} (hd : 4 ≤ d) : CA G l 106 (true, false) d ad_X11_roll := by
  intro O L σ as k o h hW hok
  unfold ad_X11_roll at h
  split at h
  · obtain ⟨hq0, hA0⟩ := bif_s h
    obtain ⟨e0, hq1⟩ := beq_and hq0
    subst e0
    obtain ⟨r, hr, hk⟩ := Option.bind_eq_some_iff.mp hA0
    exact ca_of (q := (dcI L) r) (by decide) rfl (Nat.le_of_ble_eq_true rfl) hk (fun _ => rfl) (fun e => by cases e) (exs (sp := []) (K := k0) (L0 := L) (σ0 := σ) ok_X11_roll rt_X11_roll (by omega) (hc_X11_roll G l hd) (hrI rfl) hk0 27 hr (inv0 hW hok))
  · cases h
def tt_X7_linesOf (pc : Nat) : TI := bif Nat.blt pc 18 then (bif Nat.blt pc 6 then (bif Nat.blt pc 3 then (bif Nat.blt pc 1 then (bif Nat.beq pc 0 then (.iconst 0, 1, (0, 0, 0), 0, 0, []) else TN) else (bif Nat.blt pc 2 then (bif Nat.beq pc 1 then (.istore_n 2, 2, (2, 0, 0), 0, 0, []) else TN) else (bif Nat.beq pc 2 then (.iconst 0, 3, (0, 0, 0), 0, 0, []) else TN))) else (bif Nat.blt pc 4 then (bif Nat.beq pc 3 then (.istore_n 3, 4, (3, 0, 0), 0, 0, []) else TN) else (bif Nat.blt pc 5 then (bif Nat.beq pc 4 then (.iload_n 3, 5, (3, 0, 0), 0, 0, []) else TN) else (bif Nat.beq pc 5 then (.aload_n 0, 6, (0, 0, 0), 0, 0, []) else TN)))) else (bif Nat.blt pc 13 then (bif Nat.blt pc 9 then (bif Nat.beq pc 6 then (.getfield 28, 9, (7, 3, 0), 0, 0, []) else TN) else (bif Nat.blt pc 12 then (bif Nat.beq pc 9 then (.if_icmp .ge 30, 12, (39, 0, 0), 0, 0, []) else TN) else (bif Nat.beq pc 12 then (.iload_n 2, 13, (2, 0, 0), 0, 0, []) else TN))) else (bif Nat.blt pc 14 then (bif Nat.beq pc 13 then (.aload_n 0, 14, (0, 0, 0), 0, 0, []) else TN) else (bif Nat.blt pc 17 then (bif Nat.beq pc 14 then (.getfield 15, 17, (7, 2, 0), 0, 0, []) else TN) else (bif Nat.beq pc 17 then (.iload_n 3, 18, (3, 0, 0), 0, 0, []) else TN))))) else (bif Nat.blt pc 28 then (bif Nat.blt pc 23 then (bif Nat.blt pc 19 then (bif Nat.beq pc 18 then (.iaload, 19, (0, 0, 0), 0, 0, []) else TN) else (bif Nat.blt pc 20 then (bif Nat.beq pc 19 then (.iload_n 1, 20, (1, 0, 0), 0, 0, []) else TN) else (bif Nat.beq pc 20 then (.if_icmp .ne 7, 23, (27, 0, 0), 0, 0, []) else TN))) else (bif Nat.blt pc 24 then (bif Nat.beq pc 23 then (.iconst 1, 24, (0, 0, 0), 1, 0, []) else TN) else (bif Nat.blt pc 27 then (bif Nat.beq pc 24 then (.goto 4, 27, (28, 0, 0), 0, 0, []) else TN) else (bif Nat.beq pc 27 then (.iconst 0, 28, (0, 0, 0), 0, 0, []) else TN)))) else (bif Nat.blt pc 33 then (bif Nat.blt pc 31 then (bif Nat.beq pc 28 then (.invokestatic 96, 31, (100, 1, 0), 0, 0, []) else TN) else (bif Nat.blt pc 32 then (bif Nat.beq pc 31 then (.iadd, 32, (0, 0, 0), 0, 0, []) else TN) else (bif Nat.beq pc 32 then (.istore_n 2, 33, (2, 0, 0), 0, 0, []) else TN))) else (bif Nat.blt pc 39 then (bif Nat.blt pc 36 then (bif Nat.beq pc 33 then (.iinc 3 1, 36, (3, 0, 0), 1, 0, []) else TN) else (bif Nat.beq pc 36 then (.goto (-32), 39, (4, 0, 0), 0, 0, []) else TN)) else (bif Nat.blt pc 40 then (bif Nat.beq pc 39 then (.iload_n 2, 40, (2, 0, 0), 0, 0, []) else TN) else (bif Nat.beq pc 40 then (.ireturn, 41, (0, 0, 0), 0, 0, []) else TN)))))
def tb_X7_linesOf (pc : Nat) : TI := bif Nat.ble 41 pc then TN else tt_X7_linesOf pc
theorem ok_X7_linesOf : tOK 7 (decide ("linesOf" = "<init>")) cX7_linesOf tb_X7_linesOf := tOK_of 41 tn_of (by decide +kernel)
def f_X7_linesOf_28 (c4 : Lay → Sto → Nat → Int32 → Int32 → Int32 → Option Int32) (L : Lay) (σ : Sto) (a0 : Nat) (a1 : Int32) (a3 : Int32) (s0 : Int32) (s1 : Int32) : Option Int32 := (f_X11_oneIf L σ s0).bind fun r1 => c4 L σ a0 a1 (s1 + r1) (a3 + 1)
def A_X7_linesOf_28 (c : Lay → Sto → Nat → Int32 → Int32 → Int32 → Int32 → Option Int32) (lc : List (Option AV)) (st : List AV) (L : Lay) (σ : Sto) : Option Int32 := match lc, st with
  | [some (.inr (.inr (.inl (ta0, some a0)))), some (.inl a1), _, some (.inl a3)], [.inl s0, .inl s1] => bif Nat.beq ta0 7 && true then c L σ a0 a1 a3 s0 s1 else none
  | _, _ => none
def f_X7_linesOf_4 : Nat → Lay → Sto → Nat → Int32 → Int32 → Int32 → Option Int32
  | 0 => fun _ _ _ _ _ _ => none
  | k + 1 => fun L σ a0 a1 a2 a3 => (if (σ.1 a0 3) ≤ a3 then some a2 else (σ.2.1 a0 2).bind fun x2 => (rI L σ x2 a3).bind fun v3 => (if v3 = a1 then (f_X7_linesOf_28 (f_X7_linesOf_4 k)) L σ a0 a1 a3 1 a2 else (f_X7_linesOf_28 (f_X7_linesOf_4 k)) L σ a0 a1 a3 0 a2))
def A_X7_linesOf_4 (c : Lay → Sto → Nat → Int32 → Int32 → Int32 → Option Int32) (lc : List (Option AV)) (st : List AV) (L : Lay) (σ : Sto) : Option Int32 := match lc, st with
  | [some (.inr (.inr (.inl (ta0, some a0)))), some (.inl a1), some (.inl a2), some (.inl a3)], [] => bif Nat.beq ta0 7 && true then c L σ a0 a1 a2 a3 else none
  | _, _ => none
def f_X7_linesOf (L : Lay) (σ : Sto) (a0 : Nat) (a1 : Int32) : Option Int32 := (f_X7_linesOf_4 FU) L σ a0 a1 0 0
def ad_X7_linesOf : ADT := fun O L σ as k => match as with
  | [.inr (.inr (.inl (ta0, some a0))), .inl a1] => bif Nat.beq ta0 7 && true then (f_X7_linesOf L σ a0 a1).bind fun r => k (some (vI r)) L σ else none
  | _ => none
abbrev cl_X7_linesOf {O : Type} : CLT O := (clc 100 ad_X11_oneIf cl0)
theorem hc_X7_linesOf (G : GT) (l : Launch) {d : Nat} (hd : 2 ≤ d) {O : Type} : HCL G l (true, true) d (cl_X7_linesOf (O := O)) := (hclc (ca_X11_oneIf G l (d := 1) (Nat.le_refl _)) (fun _ => rfl) (fun _ => rfl) (by omega) hcl0)
theorem rt_X7_linesOf : retOK (0, 0) (some .int) := ⟨fun _ => rfl, fun h => absurd h (by decide), fun h => absurd h (by decide)⟩
set_option maxRecDepth 20000 in
theorem b_X7_linesOf_28 {G : GT} {l : Launch} {d : Nat} {L0 : Lay} {σ0 : Sto} (hd : 2 ≤ d) {c4 : Lay → Sto → Nat → Int32 → Int32 → Int32 → Option Int32} (h4 : HF G l 7 "linesOf" cX7_linesOf 4 (some .int) d L0 σ0 (true, true) (dcPI L0 σ0) 4 (A_X7_linesOf_4 c4)) : HF G l 7 "linesOf" cX7_linesOf 4 (some .int) d L0 σ0 (true, true) (dcPI L0 σ0) 28 (A_X7_linesOf_28 (f_X7_linesOf_28 c4)) := by
  intro lc st L σ o h hI
  unfold A_X7_linesOf_28 at h
  split at h
  · obtain ⟨hq0, hA1⟩ := bif_s h
    obtain ⟨e0, hq1⟩ := beq_and hq0
    subst e0
    exact exs (sp := [4]) (K := (kc 4 (A_X7_linesOf_4 c4) k0)) ok_X7_linesOf rt_X7_linesOf (by omega) (hc_X7_linesOf G l hd) (hrPI rfl rfl) (hkc h4 hk0) 28 hA1 hI
  · cases h
set_option maxRecDepth 20000 in
theorem b_X7_linesOf_4 {G : GT} {l : Launch} {d : Nat} {L0 : Lay} {σ0 : Sto} (hd : 2 ≤ d) : ∀ k : Nat, HF G l 7 "linesOf" cX7_linesOf 4 (some .int) d L0 σ0 (true, true) (dcPI L0 σ0) 4 (A_X7_linesOf_4 (f_X7_linesOf_4 k))
  | 0 => by
    intro lc st L σ o h hI
    unfold A_X7_linesOf_4 at h
    split at h
    · obtain ⟨_, hA1⟩ := bif_s h
      cases hA1
    · cases h
  | k + 1 => by
    have ih := b_X7_linesOf_4 (G := G) (l := l) (d := d) (L0 := L0) (σ0 := σ0) hd k
    intro lc st L σ o h hI
    unfold A_X7_linesOf_4 at h
    split at h
    · obtain ⟨hq0, hA1⟩ := bif_s h
      obtain ⟨e0, hq1⟩ := beq_and hq0
      subst e0
      exact exs (sp := [28]) (K := (kc 28 (A_X7_linesOf_28 (f_X7_linesOf_28 (f_X7_linesOf_4 k))) k0)) ok_X7_linesOf rt_X7_linesOf (by omega) (hc_X7_linesOf G l hd) (hrPI rfl rfl) (hkc (b_X7_linesOf_28 hd ih) hk0) 28 hA1 hI
    · cases h
set_option maxRecDepth 20000 in
theorem ca_X7_linesOf (G : GT) (l : Launch) {d : Nat} (hd : 2 ≤ d) : CA G l 263 (true, true) d ad_X7_linesOf := by
  intro O L σ as k o h hW hok
  unfold ad_X7_linesOf at h
  split at h
  · obtain ⟨hq0, hA0⟩ := bif_s h
    obtain ⟨e0, hq1⟩ := beq_and hq0
    subst e0
    obtain ⟨r, hr, hk⟩ := Option.bind_eq_some_iff.mp hA0
    exact ca_of (q := (dcPI L σ) r) (by decide) rfl (Nat.le_of_ble_eq_true rfl) hk (fun _ => rfl) (fun _ => rfl) (exs (sp := [4]) (K := (kc 4 (A_X7_linesOf_4 (f_X7_linesOf_4 FU)) k0)) (L0 := L) (σ0 := σ) ok_X7_linesOf rt_X7_linesOf (by omega) (hc_X7_linesOf G l hd) (hrPI rfl rfl) (hkc (b_X7_linesOf_4 hd FU) hk0) 28 hr (inv0 hW hok))
  · cases h
def tt_X7_joinedLinesOf (pc : Nat) : TI := bif Nat.blt pc 38 then (bif Nat.blt pc 18 then (bif Nat.blt pc 7 then (bif Nat.blt pc 2 then (bif Nat.blt pc 1 then (bif Nat.beq pc 0 then (.iconst 0, 1, (0, 0, 0), 0, 0, []) else TN) else (bif Nat.beq pc 1 then (.istore_n 3, 2, (3, 0, 0), 0, 0, []) else TN)) else (bif Nat.blt pc 3 then (bif Nat.beq pc 2 then (.iconst 0, 3, (0, 0, 0), 0, 0, []) else TN) else (bif Nat.blt pc 5 then (bif Nat.beq pc 3 then (.istore 4, 5, (4, 0, 0), 0, 0, []) else TN) else (bif Nat.beq pc 5 then (.iload 4, 7, (4, 0, 0), 0, 0, []) else TN)))) else (bif Nat.blt pc 11 then (bif Nat.blt pc 8 then (bif Nat.beq pc 7 then (.aload_n 0, 8, (0, 0, 0), 0, 0, []) else TN) else (bif Nat.beq pc 8 then (.getfield 28, 11, (7, 3, 0), 0, 0, []) else TN)) else (bif Nat.blt pc 14 then (bif Nat.beq pc 11 then (.if_icmp .ge 66, 14, (77, 0, 0), 0, 0, []) else TN) else (bif Nat.blt pc 15 then (bif Nat.beq pc 14 then (.aload_n 0, 15, (0, 0, 0), 0, 0, []) else TN) else (bif Nat.beq pc 15 then (.getfield 18, 18, (7, 4, 0), 0, 0, []) else TN))))) else (bif Nat.blt pc 27 then (bif Nat.blt pc 21 then (bif Nat.blt pc 20 then (bif Nat.beq pc 18 then (.iload 4, 20, (4, 0, 0), 0, 0, []) else TN) else (bif Nat.beq pc 20 then (.iaload, 21, (0, 0, 0), 0, 0, []) else TN)) else (bif Nat.blt pc 23 then (bif Nat.beq pc 21 then (.ldc 54, 23, (0, 0, 0), -1000000005, 0, []) else TN) else (bif Nat.blt pc 26 then (bif Nat.beq pc 23 then (.if_icmp .eq 18, 26, (41, 0, 0), 0, 0, []) else TN) else (bif Nat.beq pc 26 then (.aload_n 0, 27, (0, 0, 0), 0, 0, []) else TN)))) else (bif Nat.blt pc 33 then (bif Nat.blt pc 30 then (bif Nat.beq pc 27 then (.getfield 21, 30, (7, 5, 0), 0, 0, []) else TN) else (bif Nat.blt pc 32 then (bif Nat.beq pc 30 then (.iload 4, 32, (4, 0, 0), 0, 0, []) else TN) else (bif Nat.beq pc 32 then (.iaload, 33, (0, 0, 0), 0, 0, []) else TN))) else (bif Nat.blt pc 34 then (bif Nat.beq pc 33 then (.iload_n 2, 34, (2, 0, 0), 0, 0, []) else TN) else (bif Nat.blt pc 37 then (bif Nat.beq pc 34 then (.if_icmp .ne 7, 37, (41, 0, 0), 0, 0, []) else TN) else (bif Nat.beq pc 37 then (.iconst 1, 38, (0, 0, 0), 1, 0, []) else TN)))))) else (bif Nat.blt pc 58 then (bif Nat.blt pc 47 then (bif Nat.blt pc 42 then (bif Nat.blt pc 41 then (bif Nat.beq pc 38 then (.goto 4, 41, (42, 0, 0), 0, 0, []) else TN) else (bif Nat.beq pc 41 then (.iconst 0, 42, (0, 0, 0), 0, 0, []) else TN)) else (bif Nat.blt pc 44 then (bif Nat.beq pc 42 then (.istore 5, 44, (5, 0, 0), 0, 0, []) else TN) else (bif Nat.blt pc 45 then (bif Nat.beq pc 44 then (.iload_n 3, 45, (3, 0, 0), 0, 0, []) else TN) else (bif Nat.beq pc 45 then (.iload 5, 47, (5, 0, 0), 0, 0, []) else TN)))) else (bif Nat.blt pc 54 then (bif Nat.blt pc 50 then (bif Nat.beq pc 47 then (.ifCond .eq 18, 50, (65, 0, 0), 0, 0, []) else TN) else (bif Nat.blt pc 51 then (bif Nat.beq pc 50 then (.aload_n 0, 51, (0, 0, 0), 0, 0, []) else TN) else (bif Nat.beq pc 51 then (.getfield 15, 54, (7, 2, 0), 0, 0, []) else TN))) else (bif Nat.blt pc 56 then (bif Nat.beq pc 54 then (.iload 4, 56, (4, 0, 0), 0, 0, []) else TN) else (bif Nat.blt pc 57 then (bif Nat.beq pc 56 then (.iaload, 57, (0, 0, 0), 0, 0, []) else TN) else (bif Nat.beq pc 57 then (.iload_n 1, 58, (1, 0, 0), 0, 0, []) else TN))))) else (bif Nat.blt pc 69 then (bif Nat.blt pc 62 then (bif Nat.blt pc 61 then (bif Nat.beq pc 58 then (.if_icmp .ne 7, 61, (65, 0, 0), 0, 0, []) else TN) else (bif Nat.beq pc 61 then (.iconst 1, 62, (0, 0, 0), 1, 0, []) else TN)) else (bif Nat.blt pc 65 then (bif Nat.beq pc 62 then (.goto 4, 65, (66, 0, 0), 0, 0, []) else TN) else (bif Nat.blt pc 66 then (bif Nat.beq pc 65 then (.iconst 0, 66, (0, 0, 0), 0, 0, []) else TN) else (bif Nat.beq pc 66 then (.invokestatic 96, 69, (100, 1, 0), 0, 0, []) else TN)))) else (bif Nat.blt pc 74 then (bif Nat.blt pc 70 then (bif Nat.beq pc 69 then (.iadd, 70, (0, 0, 0), 0, 0, []) else TN) else (bif Nat.blt pc 71 then (bif Nat.beq pc 70 then (.istore_n 3, 71, (3, 0, 0), 0, 0, []) else TN) else (bif Nat.beq pc 71 then (.iinc 4 1, 74, (4, 0, 0), 1, 0, []) else TN))) else (bif Nat.blt pc 77 then (bif Nat.beq pc 74 then (.goto (-69), 77, (5, 0, 0), 0, 0, []) else TN) else (bif Nat.blt pc 78 then (bif Nat.beq pc 77 then (.iload_n 3, 78, (3, 0, 0), 0, 0, []) else TN) else (bif Nat.beq pc 78 then (.ireturn, 79, (0, 0, 0), 0, 0, []) else TN))))))
def tb_X7_joinedLinesOf (pc : Nat) : TI := bif Nat.ble 79 pc then TN else tt_X7_joinedLinesOf pc
theorem ok_X7_joinedLinesOf : tOK 7 (decide ("joinedLinesOf" = "<init>")) cX7_joinedLinesOf tb_X7_joinedLinesOf := tOK_of 79 tn_of (by decide +kernel)
def f_X7_joinedLinesOf_66 (c5 : Lay → Sto → Nat → Int32 → Int32 → Int32 → Int32 → Option Int32) (L : Lay) (σ : Sto) (a0 : Nat) (a1 : Int32) (a2 : Int32) (a4 : Int32) (s0 : Int32) (s1 : Int32) : Option Int32 := (f_X11_oneIf L σ s0).bind fun r1 => c5 L σ a0 a1 a2 (s1 + r1) (a4 + 1)
def A_X7_joinedLinesOf_66 (c : Lay → Sto → Nat → Int32 → Int32 → Int32 → Int32 → Int32 → Option Int32) (lc : List (Option AV)) (st : List AV) (L : Lay) (σ : Sto) : Option Int32 := match lc, st with
  | [some (.inr (.inr (.inl (ta0, some a0)))), some (.inl a1), some (.inl a2), _, some (.inl a4), _], [.inl s0, .inl s1] => bif Nat.beq ta0 7 && true then c L σ a0 a1 a2 a4 s0 s1 else none
  | _, _ => none
def f_X7_joinedLinesOf_65 (c5 : Lay → Sto → Nat → Int32 → Int32 → Int32 → Int32 → Option Int32) (L : Lay) (σ : Sto) (a0 : Nat) (a1 : Int32) (a2 : Int32) (a4 : Int32) (s0 : Int32) : Option Int32 := (f_X7_joinedLinesOf_66 c5) L σ a0 a1 a2 a4 0 s0
def A_X7_joinedLinesOf_65 (c : Lay → Sto → Nat → Int32 → Int32 → Int32 → Int32 → Option Int32) (lc : List (Option AV)) (st : List AV) (L : Lay) (σ : Sto) : Option Int32 := match lc, st with
  | [some (.inr (.inr (.inl (ta0, some a0)))), some (.inl a1), some (.inl a2), _, some (.inl a4), _], [.inl s0] => bif Nat.beq ta0 7 && true then c L σ a0 a1 a2 a4 s0 else none
  | _, _ => none
def f_X7_joinedLinesOf_42 (c5 : Lay → Sto → Nat → Int32 → Int32 → Int32 → Int32 → Option Int32) (L : Lay) (σ : Sto) (a0 : Nat) (a1 : Int32) (a2 : Int32) (a3 : Int32) (a4 : Int32) (s0 : Int32) : Option Int32 := (if s0 = 0 then (f_X7_joinedLinesOf_65 c5) L σ a0 a1 a2 a4 a3 else (σ.2.1 a0 2).bind fun x2 => (rI L σ x2 a4).bind fun v3 => (if v3 = a1 then (f_X7_joinedLinesOf_66 c5) L σ a0 a1 a2 a4 1 a3 else (f_X7_joinedLinesOf_65 c5) L σ a0 a1 a2 a4 a3))
def A_X7_joinedLinesOf_42 (c : Lay → Sto → Nat → Int32 → Int32 → Int32 → Int32 → Int32 → Option Int32) (lc : List (Option AV)) (st : List AV) (L : Lay) (σ : Sto) : Option Int32 := match lc, st with
  | [some (.inr (.inr (.inl (ta0, some a0)))), some (.inl a1), some (.inl a2), some (.inl a3), some (.inl a4), _], [.inl s0] => bif Nat.beq ta0 7 && true then c L σ a0 a1 a2 a3 a4 s0 else none
  | _, _ => none
def f_X7_joinedLinesOf_41 (c5 : Lay → Sto → Nat → Int32 → Int32 → Int32 → Int32 → Option Int32) (L : Lay) (σ : Sto) (a0 : Nat) (a1 : Int32) (a2 : Int32) (a3 : Int32) (a4 : Int32) : Option Int32 := (f_X7_joinedLinesOf_42 c5) L σ a0 a1 a2 a3 a4 0
def A_X7_joinedLinesOf_41 (c : Lay → Sto → Nat → Int32 → Int32 → Int32 → Int32 → Option Int32) (lc : List (Option AV)) (st : List AV) (L : Lay) (σ : Sto) : Option Int32 := match lc, st with
  | [some (.inr (.inr (.inl (ta0, some a0)))), some (.inl a1), some (.inl a2), some (.inl a3), some (.inl a4), _], [] => bif Nat.beq ta0 7 && true then c L σ a0 a1 a2 a3 a4 else none
  | _, _ => none
def f_X7_joinedLinesOf_5 : Nat → Lay → Sto → Nat → Int32 → Int32 → Int32 → Int32 → Option Int32
  | 0 => fun _ _ _ _ _ _ _ => none
  | k + 1 => fun L σ a0 a1 a2 a3 a4 => (if (σ.1 a0 3) ≤ a4 then some a3 else (σ.2.1 a0 4).bind fun x4 => (rI L σ x4 a4).bind fun v5 => (if v5 = (-1000000005) then (f_X7_joinedLinesOf_41 (f_X7_joinedLinesOf_5 k)) L σ a0 a1 a2 a3 a4 else (σ.2.1 a0 5).bind fun x6 => (rI L σ x6 a4).bind fun v7 => (if v7 = a2 then (f_X7_joinedLinesOf_42 (f_X7_joinedLinesOf_5 k)) L σ a0 a1 a2 a3 a4 1 else (f_X7_joinedLinesOf_41 (f_X7_joinedLinesOf_5 k)) L σ a0 a1 a2 a3 a4)))
def A_X7_joinedLinesOf_5 (c : Lay → Sto → Nat → Int32 → Int32 → Int32 → Int32 → Option Int32) (lc : List (Option AV)) (st : List AV) (L : Lay) (σ : Sto) : Option Int32 := match lc, st with
  | [some (.inr (.inr (.inl (ta0, some a0)))), some (.inl a1), some (.inl a2), some (.inl a3), some (.inl a4), _], [] => bif Nat.beq ta0 7 && true then c L σ a0 a1 a2 a3 a4 else none
  | _, _ => none
def f_X7_joinedLinesOf (L : Lay) (σ : Sto) (a0 : Nat) (a1 : Int32) (a2 : Int32) : Option Int32 := (f_X7_joinedLinesOf_5 FU) L σ a0 a1 a2 0 0
def ad_X7_joinedLinesOf : ADT := fun O L σ as k => match as with
  | [.inr (.inr (.inl (ta0, some a0))), .inl a1, .inl a2] => bif Nat.beq ta0 7 && true then (f_X7_joinedLinesOf L σ a0 a1 a2).bind fun r => k (some (vI r)) L σ else none
  | _ => none
abbrev cl_X7_joinedLinesOf {O : Type} : CLT O := (clc 100 ad_X11_oneIf cl0)
theorem hc_X7_joinedLinesOf (G : GT) (l : Launch) {d : Nat} (hd : 2 ≤ d) {O : Type} : HCL G l (true, true) d (cl_X7_joinedLinesOf (O := O)) := (hclc (ca_X11_oneIf G l (d := 1) (Nat.le_refl _)) (fun _ => rfl) (fun _ => rfl) (by omega) hcl0)
theorem rt_X7_joinedLinesOf : retOK (0, 0) (some .int) := ⟨fun _ => rfl, fun h => absurd h (by decide), fun h => absurd h (by decide)⟩
set_option maxRecDepth 20000 in
theorem b_X7_joinedLinesOf_66 {G : GT} {l : Launch} {d : Nat} {L0 : Lay} {σ0 : Sto} (hd : 2 ≤ d) {c5 : Lay → Sto → Nat → Int32 → Int32 → Int32 → Int32 → Option Int32} (h5 : HF G l 7 "joinedLinesOf" cX7_joinedLinesOf 6 (some .int) d L0 σ0 (true, true) (dcPI L0 σ0) 5 (A_X7_joinedLinesOf_5 c5)) : HF G l 7 "joinedLinesOf" cX7_joinedLinesOf 6 (some .int) d L0 σ0 (true, true) (dcPI L0 σ0) 66 (A_X7_joinedLinesOf_66 (f_X7_joinedLinesOf_66 c5)) := by
  intro lc st L σ o h hI
  unfold A_X7_joinedLinesOf_66 at h
  split at h
  · obtain ⟨hq0, hA1⟩ := bif_s h
    obtain ⟨e0, hq1⟩ := beq_and hq0
    subst e0
    exact exs (sp := [5]) (K := (kc 5 (A_X7_joinedLinesOf_5 c5) k0)) ok_X7_joinedLinesOf rt_X7_joinedLinesOf (by omega) (hc_X7_joinedLinesOf G l hd) (hrPI rfl rfl) (hkc h5 hk0) 46 hA1 hI
  · cases h
set_option maxRecDepth 20000 in
theorem b_X7_joinedLinesOf_65 {G : GT} {l : Launch} {d : Nat} {L0 : Lay} {σ0 : Sto} (hd : 2 ≤ d) {c5 : Lay → Sto → Nat → Int32 → Int32 → Int32 → Int32 → Option Int32} (h5 : HF G l 7 "joinedLinesOf" cX7_joinedLinesOf 6 (some .int) d L0 σ0 (true, true) (dcPI L0 σ0) 5 (A_X7_joinedLinesOf_5 c5)) : HF G l 7 "joinedLinesOf" cX7_joinedLinesOf 6 (some .int) d L0 σ0 (true, true) (dcPI L0 σ0) 65 (A_X7_joinedLinesOf_65 (f_X7_joinedLinesOf_65 c5)) := by
  intro lc st L σ o h hI
  unfold A_X7_joinedLinesOf_65 at h
  split at h
  · obtain ⟨hq0, hA1⟩ := bif_s h
    obtain ⟨e0, hq1⟩ := beq_and hq0
    subst e0
    exact exs (sp := [66]) (K := (kc 66 (A_X7_joinedLinesOf_66 (f_X7_joinedLinesOf_66 c5)) k0)) ok_X7_joinedLinesOf rt_X7_joinedLinesOf (by omega) (hc_X7_joinedLinesOf G l hd) (hrPI rfl rfl) (hkc (b_X7_joinedLinesOf_66 hd h5) hk0) 46 hA1 hI
  · cases h
set_option maxRecDepth 20000 in
theorem b_X7_joinedLinesOf_42 {G : GT} {l : Launch} {d : Nat} {L0 : Lay} {σ0 : Sto} (hd : 2 ≤ d) {c5 : Lay → Sto → Nat → Int32 → Int32 → Int32 → Int32 → Option Int32} (h5 : HF G l 7 "joinedLinesOf" cX7_joinedLinesOf 6 (some .int) d L0 σ0 (true, true) (dcPI L0 σ0) 5 (A_X7_joinedLinesOf_5 c5)) : HF G l 7 "joinedLinesOf" cX7_joinedLinesOf 6 (some .int) d L0 σ0 (true, true) (dcPI L0 σ0) 42 (A_X7_joinedLinesOf_42 (f_X7_joinedLinesOf_42 c5)) := by
  intro lc st L σ o h hI
  unfold A_X7_joinedLinesOf_42 at h
  split at h
  · obtain ⟨hq0, hA1⟩ := bif_s h
    obtain ⟨e0, hq1⟩ := beq_and hq0
    subst e0
    exact exs (sp := [65, 66]) (K := (kc 65 (A_X7_joinedLinesOf_65 (f_X7_joinedLinesOf_65 c5)) (kc 66 (A_X7_joinedLinesOf_66 (f_X7_joinedLinesOf_66 c5)) k0))) ok_X7_joinedLinesOf rt_X7_joinedLinesOf (by omega) (hc_X7_joinedLinesOf G l hd) (hrPI rfl rfl) (hkc (b_X7_joinedLinesOf_65 hd h5) (hkc (b_X7_joinedLinesOf_66 hd h5) hk0)) 46 hA1 hI
  · cases h
set_option maxRecDepth 20000 in
theorem b_X7_joinedLinesOf_41 {G : GT} {l : Launch} {d : Nat} {L0 : Lay} {σ0 : Sto} (hd : 2 ≤ d) {c5 : Lay → Sto → Nat → Int32 → Int32 → Int32 → Int32 → Option Int32} (h5 : HF G l 7 "joinedLinesOf" cX7_joinedLinesOf 6 (some .int) d L0 σ0 (true, true) (dcPI L0 σ0) 5 (A_X7_joinedLinesOf_5 c5)) : HF G l 7 "joinedLinesOf" cX7_joinedLinesOf 6 (some .int) d L0 σ0 (true, true) (dcPI L0 σ0) 41 (A_X7_joinedLinesOf_41 (f_X7_joinedLinesOf_41 c5)) := by
  intro lc st L σ o h hI
  unfold A_X7_joinedLinesOf_41 at h
  split at h
  · obtain ⟨hq0, hA1⟩ := bif_s h
    obtain ⟨e0, hq1⟩ := beq_and hq0
    subst e0
    exact exs (sp := [42]) (K := (kc 42 (A_X7_joinedLinesOf_42 (f_X7_joinedLinesOf_42 c5)) k0)) ok_X7_joinedLinesOf rt_X7_joinedLinesOf (by omega) (hc_X7_joinedLinesOf G l hd) (hrPI rfl rfl) (hkc (b_X7_joinedLinesOf_42 hd h5) hk0) 46 hA1 hI
  · cases h
set_option maxRecDepth 20000 in
theorem b_X7_joinedLinesOf_5 {G : GT} {l : Launch} {d : Nat} {L0 : Lay} {σ0 : Sto} (hd : 2 ≤ d) : ∀ k : Nat, HF G l 7 "joinedLinesOf" cX7_joinedLinesOf 6 (some .int) d L0 σ0 (true, true) (dcPI L0 σ0) 5 (A_X7_joinedLinesOf_5 (f_X7_joinedLinesOf_5 k))
  | 0 => by
    intro lc st L σ o h hI
    unfold A_X7_joinedLinesOf_5 at h
    split at h
    · obtain ⟨_, hA1⟩ := bif_s h
      cases hA1
    · cases h
  | k + 1 => by
    have ih := b_X7_joinedLinesOf_5 (G := G) (l := l) (d := d) (L0 := L0) (σ0 := σ0) hd k
    intro lc st L σ o h hI
    unfold A_X7_joinedLinesOf_5 at h
    split at h
    · obtain ⟨hq0, hA1⟩ := bif_s h
      obtain ⟨e0, hq1⟩ := beq_and hq0
      subst e0
      exact exs (sp := [41, 42]) (K := (kc 41 (A_X7_joinedLinesOf_41 (f_X7_joinedLinesOf_41 (f_X7_joinedLinesOf_5 k))) (kc 42 (A_X7_joinedLinesOf_42 (f_X7_joinedLinesOf_42 (f_X7_joinedLinesOf_5 k))) k0))) ok_X7_joinedLinesOf rt_X7_joinedLinesOf (by omega) (hc_X7_joinedLinesOf G l hd) (hrPI rfl rfl) (hkc (b_X7_joinedLinesOf_41 hd ih) (hkc (b_X7_joinedLinesOf_42 hd ih) hk0)) 46 hA1 hI
    · cases h
set_option maxRecDepth 20000 in
theorem ca_X7_joinedLinesOf (G : GT) (l : Launch) {d : Nat} (hd : 2 ≤ d) : CA G l 262 (true, true) d ad_X7_joinedLinesOf := by
  intro O L σ as k o h hW hok
  unfold ad_X7_joinedLinesOf at h
  split at h
  · obtain ⟨hq0, hA0⟩ := bif_s h
    obtain ⟨e0, hq1⟩ := beq_and hq0
    subst e0
    obtain ⟨r, hr, hk⟩ := Option.bind_eq_some_iff.mp hA0
    exact ca_of (q := (dcPI L σ) r) (by decide) rfl (Nat.le_of_ble_eq_true rfl) hk (fun _ => rfl) (fun _ => rfl) (exs (sp := [5]) (K := (kc 5 (A_X7_joinedLinesOf_5 (f_X7_joinedLinesOf_5 FU)) k0)) (L0 := L) (σ0 := σ) ok_X7_joinedLinesOf rt_X7_joinedLinesOf (by omega) (hc_X7_joinedLinesOf G l hd) (hrPI rfl rfl) (hkc (b_X7_joinedLinesOf_5 hd FU) hk0) 46 hr (inv0 hW hok))
  · cases h
def tt_X7_membersWithout (pc : Nat) : TI := bif Nat.blt pc 35 then (bif Nat.blt pc 19 then (bif Nat.blt pc 5 then (bif Nat.blt pc 2 then (bif Nat.blt pc 1 then (bif Nat.beq pc 0 then (.iconst 0, 1, (0, 0, 0), 0, 0, []) else TN) else (bif Nat.beq pc 1 then (.istore_n 2, 2, (2, 0, 0), 0, 0, []) else TN)) else (bif Nat.blt pc 3 then (bif Nat.beq pc 2 then (.iconst 0, 3, (0, 0, 0), 0, 0, []) else TN) else (bif Nat.blt pc 4 then (bif Nat.beq pc 3 then (.istore_n 3, 4, (3, 0, 0), 0, 0, []) else TN) else (bif Nat.beq pc 4 then (.iload_n 3, 5, (3, 0, 0), 0, 0, []) else TN)))) else (bif Nat.blt pc 12 then (bif Nat.blt pc 6 then (bif Nat.beq pc 5 then (.aload_n 0, 6, (0, 0, 0), 0, 0, []) else TN) else (bif Nat.blt pc 9 then (bif Nat.beq pc 6 then (.getfield 24, 9, (7, 0, 0), 0, 0, []) else TN) else (bif Nat.beq pc 9 then (.getfield 72, 12, (10, 3, 1), 0, 0, []) else TN))) else (bif Nat.blt pc 15 then (bif Nat.beq pc 12 then (.if_icmp .ge 64, 15, (76, 0, 0), 0, 0, []) else TN) else (bif Nat.blt pc 16 then (bif Nat.beq pc 15 then (.aload_n 0, 16, (0, 0, 0), 0, 0, []) else TN) else (bif Nat.beq pc 16 then (.getfield 61, 19, (7, 6, 0), 0, 0, []) else TN))))) else (bif Nat.blt pc 24 then (bif Nat.blt pc 21 then (bif Nat.blt pc 20 then (bif Nat.beq pc 19 then (.iload_n 3, 20, (3, 0, 0), 0, 0, []) else TN) else (bif Nat.beq pc 20 then (.lshr, 21, (0, 0, 0), 0, 0, []) else TN)) else (bif Nat.blt pc 22 then (bif Nat.beq pc 21 then (.lconst 1, 22, (0, 0, 0), 0, 1, []) else TN) else (bif Nat.blt pc 23 then (bif Nat.beq pc 22 then (.land, 23, (0, 0, 0), 0, 0, []) else TN) else (bif Nat.beq pc 23 then (.lconst 0, 24, (0, 0, 0), 0, 0, []) else TN)))) else (bif Nat.blt pc 29 then (bif Nat.blt pc 25 then (bif Nat.beq pc 24 then (.lcmp, 25, (0, 0, 0), 0, 0, []) else TN) else (bif Nat.blt pc 28 then (bif Nat.beq pc 25 then (.ifCond .ne 7, 28, (32, 0, 0), 0, 0, []) else TN) else (bif Nat.beq pc 28 then (.iconst 1, 29, (0, 0, 0), 1, 0, []) else TN))) else (bif Nat.blt pc 32 then (bif Nat.beq pc 29 then (.goto 4, 32, (33, 0, 0), 0, 0, []) else TN) else (bif Nat.blt pc 33 then (bif Nat.beq pc 32 then (.iconst 0, 33, (0, 0, 0), 0, 0, []) else TN) else (bif Nat.beq pc 33 then (.istore 4, 35, (4, 0, 0), 0, 0, []) else TN)))))) else (bif Nat.blt pc 57 then (bif Nat.blt pc 45 then (bif Nat.blt pc 38 then (bif Nat.blt pc 36 then (bif Nat.beq pc 35 then (.iload_n 2, 36, (2, 0, 0), 0, 0, []) else TN) else (bif Nat.beq pc 36 then (.iload 4, 38, (4, 0, 0), 0, 0, []) else TN)) else (bif Nat.blt pc 41 then (bif Nat.beq pc 38 then (.ifCond .eq 26, 41, (64, 0, 0), 0, 0, []) else TN) else (bif Nat.blt pc 42 then (bif Nat.beq pc 41 then (.aload_n 0, 42, (0, 0, 0), 0, 0, []) else TN) else (bif Nat.beq pc 42 then (.getfield 24, 45, (7, 0, 0), 0, 0, []) else TN)))) else (bif Nat.blt pc 50 then (bif Nat.blt pc 46 then (bif Nat.beq pc 45 then (.iload_n 3, 46, (3, 0, 0), 0, 0, []) else TN) else (bif Nat.blt pc 47 then (bif Nat.beq pc 46 then (.aload_n 0, 47, (0, 0, 0), 0, 0, []) else TN) else (bif Nat.beq pc 47 then (.getfield 24, 50, (7, 0, 0), 0, 0, []) else TN))) else (bif Nat.blt pc 53 then (bif Nat.beq pc 50 then (.getfield 81, 53, (10, 4, 1), 0, 0, []) else TN) else (bif Nat.blt pc 56 then (bif Nat.beq pc 53 then (.invokevirtual 100, 56, (46, 2, 10), 0, 0, []) else TN) else (bif Nat.beq pc 56 then (.iload_n 1, 57, (1, 0, 0), 0, 0, []) else TN))))) else (bif Nat.blt pc 68 then (bif Nat.blt pc 61 then (bif Nat.blt pc 60 then (bif Nat.beq pc 57 then (.if_icmp .ne 7, 60, (64, 0, 0), 0, 0, []) else TN) else (bif Nat.beq pc 60 then (.iconst 1, 61, (0, 0, 0), 1, 0, []) else TN)) else (bif Nat.blt pc 64 then (bif Nat.beq pc 61 then (.goto 4, 64, (65, 0, 0), 0, 0, []) else TN) else (bif Nat.blt pc 65 then (bif Nat.beq pc 64 then (.iconst 0, 65, (0, 0, 0), 0, 0, []) else TN) else (bif Nat.beq pc 65 then (.invokestatic 96, 68, (100, 1, 0), 0, 0, []) else TN)))) else (bif Nat.blt pc 73 then (bif Nat.blt pc 69 then (bif Nat.beq pc 68 then (.iadd, 69, (0, 0, 0), 0, 0, []) else TN) else (bif Nat.blt pc 70 then (bif Nat.beq pc 69 then (.istore_n 2, 70, (2, 0, 0), 0, 0, []) else TN) else (bif Nat.beq pc 70 then (.iinc 3 1, 73, (3, 0, 0), 1, 0, []) else TN))) else (bif Nat.blt pc 76 then (bif Nat.beq pc 73 then (.goto (-69), 76, (4, 0, 0), 0, 0, []) else TN) else (bif Nat.blt pc 77 then (bif Nat.beq pc 76 then (.iload_n 2, 77, (2, 0, 0), 0, 0, []) else TN) else (bif Nat.beq pc 77 then (.ireturn, 78, (0, 0, 0), 0, 0, []) else TN))))))
def tb_X7_membersWithout (pc : Nat) : TI := bif Nat.ble 78 pc then TN else tt_X7_membersWithout pc
theorem ok_X7_membersWithout : tOK 7 (decide ("membersWithout" = "<init>")) cX7_membersWithout tb_X7_membersWithout := tOK_of 78 tn_of (by decide +kernel)
def f_X7_membersWithout_65 (c4 : Lay → Sto → Nat → Int32 → Int32 → Int32 → Option Int32) (L : Lay) (σ : Sto) (a0 : Nat) (a1 : Int32) (a3 : Int32) (s0 : Int32) (s1 : Int32) : Option Int32 := (f_X11_oneIf L σ s0).bind fun r1 => c4 L σ a0 a1 (s1 + r1) (a3 + 1)
def A_X7_membersWithout_65 (c : Lay → Sto → Nat → Int32 → Int32 → Int32 → Int32 → Option Int32) (lc : List (Option AV)) (st : List AV) (L : Lay) (σ : Sto) : Option Int32 := match lc, st with
  | [some (.inr (.inr (.inl (ta0, some a0)))), some (.inl a1), _, some (.inl a3), _], [.inl s0, .inl s1] => bif Nat.beq ta0 7 && true then c L σ a0 a1 a3 s0 s1 else none
  | _, _ => none
def f_X7_membersWithout_64 (c4 : Lay → Sto → Nat → Int32 → Int32 → Int32 → Option Int32) (L : Lay) (σ : Sto) (a0 : Nat) (a1 : Int32) (a3 : Int32) (s0 : Int32) : Option Int32 := (f_X7_membersWithout_65 c4) L σ a0 a1 a3 0 s0
def A_X7_membersWithout_64 (c : Lay → Sto → Nat → Int32 → Int32 → Int32 → Option Int32) (lc : List (Option AV)) (st : List AV) (L : Lay) (σ : Sto) : Option Int32 := match lc, st with
  | [some (.inr (.inr (.inl (ta0, some a0)))), some (.inl a1), _, some (.inl a3), _], [.inl s0] => bif Nat.beq ta0 7 && true then c L σ a0 a1 a3 s0 else none
  | _, _ => none
def f_X7_membersWithout_33 (c4 : Lay → Sto → Nat → Int32 → Int32 → Int32 → Option Int32) (L : Lay) (σ : Sto) (a0 : Nat) (a1 : Int32) (a2 : Int32) (a3 : Int32) (s0 : Int32) : Option Int32 := (if s0 = 0 then (f_X7_membersWithout_64 c4) L σ a0 a1 a3 a2 else (σ.2.1 a0 0).bind fun x2 => (σ.2.1 a0 0).bind fun x3 => (f_X10_branchOn L σ x3 a3 (σ.1 x2 4)).bind fun r4 => (if r4 = a1 then (f_X7_membersWithout_65 c4) L σ a0 a1 a3 1 a2 else (f_X7_membersWithout_64 c4) L σ a0 a1 a3 a2))
def A_X7_membersWithout_33 (c : Lay → Sto → Nat → Int32 → Int32 → Int32 → Int32 → Option Int32) (lc : List (Option AV)) (st : List AV) (L : Lay) (σ : Sto) : Option Int32 := match lc, st with
  | [some (.inr (.inr (.inl (ta0, some a0)))), some (.inl a1), some (.inl a2), some (.inl a3), _], [.inl s0] => bif Nat.beq ta0 7 && true then c L σ a0 a1 a2 a3 s0 else none
  | _, _ => none
def f_X7_membersWithout_4 : Nat → Lay → Sto → Nat → Int32 → Int32 → Int32 → Option Int32
  | 0 => fun _ _ _ _ _ _ => none
  | k + 1 => fun L σ a0 a1 a2 a3 => (σ.2.1 a0 0).bind fun x5 => (if (σ.1 x5 3) ≤ a3 then some a2 else (if (lg_cmp (((σ.2.2 a0 6) >>> (a3.toInt64 &&& 63)) &&& 1) 0) = 0 then (f_X7_membersWithout_33 (f_X7_membersWithout_4 k)) L σ a0 a1 a2 a3 1 else (f_X7_membersWithout_33 (f_X7_membersWithout_4 k)) L σ a0 a1 a2 a3 0))
def A_X7_membersWithout_4 (c : Lay → Sto → Nat → Int32 → Int32 → Int32 → Option Int32) (lc : List (Option AV)) (st : List AV) (L : Lay) (σ : Sto) : Option Int32 := match lc, st with
  | [some (.inr (.inr (.inl (ta0, some a0)))), some (.inl a1), some (.inl a2), some (.inl a3), _], [] => bif Nat.beq ta0 7 && true then c L σ a0 a1 a2 a3 else none
  | _, _ => none
def f_X7_membersWithout (L : Lay) (σ : Sto) (a0 : Nat) (a1 : Int32) : Option Int32 := (f_X7_membersWithout_4 FU) L σ a0 a1 0 0
def ad_X7_membersWithout : ADT := fun O L σ as k => match as with
  | [.inr (.inr (.inl (ta0, some a0))), .inl a1] => bif Nat.beq ta0 7 && true then (f_X7_membersWithout L σ a0 a1).bind fun r => k (some (vI r)) L σ else none
  | _ => none
abbrev cl_X7_membersWithout {O : Type} : CLT O := (clc 100 ad_X11_oneIf (clc 46 ad_X10_branchOn cl0))
theorem hc_X7_membersWithout (G : GT) (l : Launch) {d : Nat} (hd : 4 ≤ d) {O : Type} : HCL G l (true, true) d (cl_X7_membersWithout (O := O)) := (hclc (ca_X11_oneIf G l (d := 1) (Nat.le_refl _)) (fun _ => rfl) (fun _ => rfl) (by omega) (hclc (ca_X10_branchOn G l (d := 3) (Nat.le_refl _)) (fun _ => rfl) (fun _ => rfl) (by omega) hcl0))
theorem rt_X7_membersWithout : retOK (0, 0) (some .int) := ⟨fun _ => rfl, fun h => absurd h (by decide), fun h => absurd h (by decide)⟩
set_option maxRecDepth 20000 in
theorem b_X7_membersWithout_65 {G : GT} {l : Launch} {d : Nat} {L0 : Lay} {σ0 : Sto} (hd : 4 ≤ d) {c4 : Lay → Sto → Nat → Int32 → Int32 → Int32 → Option Int32} (h4 : HF G l 7 "membersWithout" cX7_membersWithout 5 (some .int) d L0 σ0 (true, true) (dcPI L0 σ0) 4 (A_X7_membersWithout_4 c4)) : HF G l 7 "membersWithout" cX7_membersWithout 5 (some .int) d L0 σ0 (true, true) (dcPI L0 σ0) 65 (A_X7_membersWithout_65 (f_X7_membersWithout_65 c4)) := by
  intro lc st L σ o h hI
  unfold A_X7_membersWithout_65 at h
  split at h
  · obtain ⟨hq0, hA1⟩ := bif_s h
    obtain ⟨e0, hq1⟩ := beq_and hq0
    subst e0
    exact exs (sp := [4]) (K := (kc 4 (A_X7_membersWithout_4 c4) k0)) ok_X7_membersWithout rt_X7_membersWithout (by omega) (hc_X7_membersWithout G l hd) (hrPI rfl rfl) (hkc h4 hk0) 47 hA1 hI
  · cases h
set_option maxRecDepth 20000 in
theorem b_X7_membersWithout_64 {G : GT} {l : Launch} {d : Nat} {L0 : Lay} {σ0 : Sto} (hd : 4 ≤ d) {c4 : Lay → Sto → Nat → Int32 → Int32 → Int32 → Option Int32} (h4 : HF G l 7 "membersWithout" cX7_membersWithout 5 (some .int) d L0 σ0 (true, true) (dcPI L0 σ0) 4 (A_X7_membersWithout_4 c4)) : HF G l 7 "membersWithout" cX7_membersWithout 5 (some .int) d L0 σ0 (true, true) (dcPI L0 σ0) 64 (A_X7_membersWithout_64 (f_X7_membersWithout_64 c4)) := by
  intro lc st L σ o h hI
  unfold A_X7_membersWithout_64 at h
  split at h
  · obtain ⟨hq0, hA1⟩ := bif_s h
    obtain ⟨e0, hq1⟩ := beq_and hq0
    subst e0
    exact exs (sp := [65]) (K := (kc 65 (A_X7_membersWithout_65 (f_X7_membersWithout_65 c4)) k0)) ok_X7_membersWithout rt_X7_membersWithout (by omega) (hc_X7_membersWithout G l hd) (hrPI rfl rfl) (hkc (b_X7_membersWithout_65 hd h4) hk0) 47 hA1 hI
  · cases h
set_option maxRecDepth 20000 in
theorem b_X7_membersWithout_33 {G : GT} {l : Launch} {d : Nat} {L0 : Lay} {σ0 : Sto} (hd : 4 ≤ d) {c4 : Lay → Sto → Nat → Int32 → Int32 → Int32 → Option Int32} (h4 : HF G l 7 "membersWithout" cX7_membersWithout 5 (some .int) d L0 σ0 (true, true) (dcPI L0 σ0) 4 (A_X7_membersWithout_4 c4)) : HF G l 7 "membersWithout" cX7_membersWithout 5 (some .int) d L0 σ0 (true, true) (dcPI L0 σ0) 33 (A_X7_membersWithout_33 (f_X7_membersWithout_33 c4)) := by
  intro lc st L σ o h hI
  unfold A_X7_membersWithout_33 at h
  split at h
  · obtain ⟨hq0, hA1⟩ := bif_s h
    obtain ⟨e0, hq1⟩ := beq_and hq0
    subst e0
    exact exs (sp := [64, 65]) (K := (kc 64 (A_X7_membersWithout_64 (f_X7_membersWithout_64 c4)) (kc 65 (A_X7_membersWithout_65 (f_X7_membersWithout_65 c4)) k0))) ok_X7_membersWithout rt_X7_membersWithout (by omega) (hc_X7_membersWithout G l hd) (hrPI rfl rfl) (hkc (b_X7_membersWithout_64 hd h4) (hkc (b_X7_membersWithout_65 hd h4) hk0)) 47 hA1 hI
  · cases h
set_option maxRecDepth 20000 in
theorem b_X7_membersWithout_4 {G : GT} {l : Launch} {d : Nat} {L0 : Lay} {σ0 : Sto} (hd : 4 ≤ d) : ∀ k : Nat, HF G l 7 "membersWithout" cX7_membersWithout 5 (some .int) d L0 σ0 (true, true) (dcPI L0 σ0) 4 (A_X7_membersWithout_4 (f_X7_membersWithout_4 k))
  | 0 => by
    intro lc st L σ o h hI
    unfold A_X7_membersWithout_4 at h
    split at h
    · obtain ⟨_, hA1⟩ := bif_s h
      cases hA1
    · cases h
  | k + 1 => by
    have ih := b_X7_membersWithout_4 (G := G) (l := l) (d := d) (L0 := L0) (σ0 := σ0) hd k
    intro lc st L σ o h hI
    unfold A_X7_membersWithout_4 at h
    split at h
    · obtain ⟨hq0, hA1⟩ := bif_s h
      obtain ⟨e0, hq1⟩ := beq_and hq0
      subst e0
      exact exs (sp := [33]) (K := (kc 33 (A_X7_membersWithout_33 (f_X7_membersWithout_33 (f_X7_membersWithout_4 k))) k0)) ok_X7_membersWithout rt_X7_membersWithout (by omega) (hc_X7_membersWithout G l hd) (hrPI rfl rfl) (hkc (b_X7_membersWithout_33 hd ih) hk0) 47 hA1 hI
    · cases h
set_option maxRecDepth 20000 in
theorem ca_X7_membersWithout (G : GT) (l : Launch) {d : Nat} (hd : 4 ≤ d) : CA G l 264 (true, true) d ad_X7_membersWithout := by
  intro O L σ as k o h hW hok
  unfold ad_X7_membersWithout at h
  split at h
  · obtain ⟨hq0, hA0⟩ := bif_s h
    obtain ⟨e0, hq1⟩ := beq_and hq0
    subst e0
    obtain ⟨r, hr, hk⟩ := Option.bind_eq_some_iff.mp hA0
    exact ca_of (q := (dcPI L σ) r) (by decide) rfl (Nat.le_of_ble_eq_true rfl) hk (fun _ => rfl) (fun _ => rfl) (exs (sp := [4]) (K := (kc 4 (A_X7_membersWithout_4 (f_X7_membersWithout_4 FU)) k0)) (L0 := L) (σ0 := σ) ok_X7_membersWithout rt_X7_membersWithout (by omega) (hc_X7_membersWithout G l hd) (hrPI rfl rfl) (hkc (b_X7_membersWithout_4 hd FU) hk0) 47 hr (inv0 hW hok))
  · cases h
def tt_X11_rolls (pc : Nat) : TI := bif Nat.blt pc 70 then (bif Nat.blt pc 21 then (bif Nat.blt pc 11 then (bif Nat.blt pc 4 then (bif Nat.blt pc 1 then (bif Nat.beq pc 0 then (.aload_n 0, 1, (0, 0, 0), 0, 0, []) else TN) else (bif Nat.beq pc 1 then (.getfield 12, 4, (11, 0, 0), 0, 0, []) else TN)) else (bif Nat.blt pc 5 then (bif Nat.beq pc 4 then (.iload_n 1, 5, (1, 0, 0), 0, 0, []) else TN) else (bif Nat.blt pc 8 then (bif Nat.beq pc 5 then (.invokevirtual 101, 8, (47, 1, 10), 0, 0, []) else TN) else (bif Nat.beq pc 8 then (.ifCond .ne 6, 11, (14, 0, 0), 0, 0, []) else TN)))) else (bif Nat.blt pc 14 then (bif Nat.blt pc 13 then (bif Nat.beq pc 11 then (.ldc 91, 13, (0, 0, 0), -1000000001, 0, []) else TN) else (bif Nat.beq pc 13 then (.ireturn, 14, (0, 0, 0), 0, 0, []) else TN)) else (bif Nat.blt pc 15 then (bif Nat.beq pc 14 then (.aload_n 0, 15, (0, 0, 0), 0, 0, []) else TN) else (bif Nat.blt pc 18 then (bif Nat.beq pc 15 then (.getfield 21, 18, (11, 1, 0), 0, 0, []) else TN) else (bif Nat.beq pc 18 then (.invokevirtual 193, 21, (260, 0, 7), 0, 0, []) else TN))))) else (bif Nat.blt pc 61 then (bif Nat.blt pc 56 then (bif Nat.blt pc 22 then (bif Nat.beq pc 21 then (.iload_n 2, 22, (2, 0, 0), 0, 0, []) else TN) else (bif Nat.beq pc 22 then (.tableswitch 81 0 4 #[34, 43, 52, 62, 72], 56, (103, 0, 0), 0, 0, [(0, 56), (1, 65), (2, 74), (3, 84), (4, 94)]) else TN)) else (bif Nat.blt pc 57 then (bif Nat.beq pc 56 then (.aload_n 0, 57, (0, 0, 0), 0, 0, []) else TN) else (bif Nat.blt pc 60 then (bif Nat.beq pc 57 then (.getfield 12, 60, (11, 0, 0), 0, 0, []) else TN) else (bif Nat.beq pc 60 then (.iload_n 1, 61, (1, 0, 0), 0, 0, []) else TN)))) else (bif Nat.blt pc 65 then (bif Nat.blt pc 64 then (bif Nat.beq pc 61 then (.invokevirtual 200, 64, (54, 1, 10), 0, 0, []) else TN) else (bif Nat.beq pc 64 then (.ireturn, 65, (0, 0, 0), 0, 0, []) else TN)) else (bif Nat.blt pc 66 then (bif Nat.beq pc 65 then (.aload_n 0, 66, (0, 0, 0), 0, 0, []) else TN) else (bif Nat.blt pc 69 then (bif Nat.beq pc 66 then (.getfield 21, 69, (11, 1, 0), 0, 0, []) else TN) else (bif Nat.beq pc 69 then (.iload_n 1, 70, (1, 0, 0), 0, 0, []) else TN)))))) else (bif Nat.blt pc 88 then (bif Nat.blt pc 79 then (bif Nat.blt pc 74 then (bif Nat.blt pc 73 then (bif Nat.beq pc 70 then (.invokevirtual 203, 73, (263, 1, 7), 0, 0, []) else TN) else (bif Nat.beq pc 73 then (.ireturn, 74, (0, 0, 0), 0, 0, []) else TN)) else (bif Nat.blt pc 75 then (bif Nat.beq pc 74 then (.aload_n 0, 75, (0, 0, 0), 0, 0, []) else TN) else (bif Nat.blt pc 78 then (bif Nat.beq pc 75 then (.getfield 21, 78, (11, 1, 0), 0, 0, []) else TN) else (bif Nat.beq pc 78 then (.iload_n 1, 79, (1, 0, 0), 0, 0, []) else TN)))) else (bif Nat.blt pc 83 then (bif Nat.blt pc 80 then (bif Nat.beq pc 79 then (.iconst 0, 80, (0, 0, 0), 0, 0, []) else TN) else (bif Nat.beq pc 80 then (.invokevirtual 206, 83, (262, 2, 7), 0, 0, []) else TN)) else (bif Nat.blt pc 84 then (bif Nat.beq pc 83 then (.ireturn, 84, (0, 0, 0), 0, 0, []) else TN) else (bif Nat.blt pc 85 then (bif Nat.beq pc 84 then (.aload_n 0, 85, (0, 0, 0), 0, 0, []) else TN) else (bif Nat.beq pc 85 then (.getfield 21, 88, (11, 1, 0), 0, 0, []) else TN))))) else (bif Nat.blt pc 95 then (bif Nat.blt pc 90 then (bif Nat.blt pc 89 then (bif Nat.beq pc 88 then (.iload_n 1, 89, (1, 0, 0), 0, 0, []) else TN) else (bif Nat.beq pc 89 then (.iconst 1, 90, (0, 0, 0), 1, 0, []) else TN)) else (bif Nat.blt pc 93 then (bif Nat.beq pc 90 then (.invokevirtual 206, 93, (262, 2, 7), 0, 0, []) else TN) else (bif Nat.blt pc 94 then (bif Nat.beq pc 93 then (.ireturn, 94, (0, 0, 0), 0, 0, []) else TN) else (bif Nat.beq pc 94 then (.aload_n 0, 95, (0, 0, 0), 0, 0, []) else TN)))) else (bif Nat.blt pc 102 then (bif Nat.blt pc 98 then (bif Nat.beq pc 95 then (.getfield 21, 98, (11, 1, 0), 0, 0, []) else TN) else (bif Nat.blt pc 99 then (bif Nat.beq pc 98 then (.iload_n 1, 99, (1, 0, 0), 0, 0, []) else TN) else (bif Nat.beq pc 99 then (.invokevirtual 209, 102, (264, 1, 7), 0, 0, []) else TN))) else (bif Nat.blt pc 103 then (bif Nat.beq pc 102 then (.ireturn, 103, (0, 0, 0), 0, 0, []) else TN) else (bif Nat.blt pc 105 then (bif Nat.beq pc 103 then (.ldc 91, 105, (0, 0, 0), -1000000001, 0, []) else TN) else (bif Nat.beq pc 105 then (.ireturn, 106, (0, 0, 0), 0, 0, []) else TN))))))
def tb_X11_rolls (pc : Nat) : TI := bif Nat.ble 106 pc then TN else tt_X11_rolls pc
theorem ok_X11_rolls : tOK 11 (decide ("rolls" = "<init>")) cX11_rolls tb_X11_rolls := tOK_of 106 tn_of (by decide +kernel)
def f_X11_rolls (L : Lay) (σ : Sto) (a0 : Nat) (a1 : Int32) (a2 : Int32) : Option (Int32 × Sto) := (σ.2.1 a0 0).bind fun x1 => (f_X10_hasBranch L σ x1 a1).bind fun r2 => (if r2 = 0 then some ((-1000000001), σ) else (σ.2.1 a0 1).bind fun x3 => (f_X7_join L σ x3).bind fun σ4 => (if a2 = 0 then (σ4.2.1 a0 0).bind fun x13 => (f_X10_sizeOf L σ4 x13 a1).bind fun r14 => some (r14, σ4) else (if a2 = 1 then (σ4.2.1 a0 1).bind fun x11 => (f_X7_linesOf L σ4 x11 a1).bind fun r12 => some (r12, σ4) else (if a2 = 2 then (σ4.2.1 a0 1).bind fun x9 => (f_X7_joinedLinesOf L σ4 x9 a1 0).bind fun r10 => some (r10, σ4) else (if a2 = 3 then (σ4.2.1 a0 1).bind fun x7 => (f_X7_joinedLinesOf L σ4 x7 a1 1).bind fun r8 => some (r8, σ4) else (if a2 = 4 then (σ4.2.1 a0 1).bind fun x5 => (f_X7_membersWithout L σ4 x5 a1).bind fun r6 => some (r6, σ4) else some ((-1000000001), σ4)))))))
def ad_X11_rolls : ADT := fun O L σ as k => match as with
  | [.inr (.inr (.inl (ta0, some a0))), .inl a1, .inl a2] => bif Nat.beq ta0 11 && true then (f_X11_rolls L σ a0 a1 a2).bind fun r => k (some (vI r.1)) L r.2 else none
  | _ => none
abbrev cl_X11_rolls {O : Type} : CLT O := (clc 47 ad_X10_hasBranch (clc 260 ad_X7_join (clc 264 ad_X7_membersWithout (clc 262 ad_X7_joinedLinesOf (clc 263 ad_X7_linesOf (clc 54 ad_X10_sizeOf cl0))))))
theorem hc_X11_rolls (G : GT) (l : Launch) {d : Nat} (hd : 6 ≤ d) {O : Type} : HCL G l (true, false) d (cl_X11_rolls (O := O)) := (hclc (ca_X10_hasBranch G l (d := 2) (Nat.le_refl _)) (fun _ => rfl) (fun e => by cases e) (by omega) (hclc (ca_X7_join G l (d := 5) (Nat.le_refl _)) (fun _ => rfl) (fun e => by cases e) (by omega) (hclc (ca_X7_membersWithout G l (d := 4) (Nat.le_refl _)) (fun _ => rfl) (fun e => by cases e) (by omega) (hclc (ca_X7_joinedLinesOf G l (d := 2) (Nat.le_refl _)) (fun _ => rfl) (fun e => by cases e) (by omega) (hclc (ca_X7_linesOf G l (d := 2) (Nat.le_refl _)) (fun _ => rfl) (fun e => by cases e) (by omega) (hclc (ca_X10_sizeOf G l (d := 4) (Nat.le_refl _)) (fun _ => rfl) (fun e => by cases e) (by omega) hcl0))))))
theorem rt_X11_rolls : retOK (0, 0) (some .int) := ⟨fun _ => rfl, fun h => absurd h (by decide), fun h => absurd h (by decide)⟩
set_option maxRecDepth 20000 in
theorem ca_X11_rolls (G : GT) (l : Launch) {d : Nat} (hd : 6 ≤ d) : CA G l 107 (true, false) d ad_X11_rolls := by
  intro O L σ as k o h hW hok
  unfold ad_X11_rolls at h
  split at h
  · obtain ⟨hq0, hA0⟩ := bif_s h
    obtain ⟨e0, hq1⟩ := beq_and hq0
    subst e0
    obtain ⟨r, hr, hk⟩ := Option.bind_eq_some_iff.mp hA0
    exact ca_of (q := (dcI L) r) (by decide) rfl (Nat.le_of_ble_eq_true rfl) hk (fun _ => rfl) (fun e => by cases e) (exs (sp := []) (K := k0) (L0 := L) (σ0 := σ) ok_X11_rolls rt_X11_rolls (by omega) (hc_X11_rolls G l hd) (hrI rfl) hk0 44 hr (inv0 hW hok))
  · cases h
def tt_X11_rule (pc : Nat) : TI := bif Nat.blt pc 28 then (bif Nat.blt pc 13 then (bif Nat.blt pc 3 then (bif Nat.blt pc 1 then (bif Nat.beq pc 0 then (.iload_n 1, 1, (1, 0, 0), 0, 0, []) else TN) else (bif Nat.blt pc 2 then (bif Nat.beq pc 1 then (.iconst 0, 2, (0, 0, 0), 0, 0, []) else TN) else (bif Nat.beq pc 2 then (.iconst 4, 3, (0, 0, 0), 4, 0, []) else TN))) else (bif Nat.blt pc 9 then (bif Nat.blt pc 6 then (bif Nat.beq pc 3 then (.invokestatic 115, 6, (83, 3, 0), 0, 0, []) else TN) else (bif Nat.beq pc 6 then (.ifCond .eq 20, 9, (26, 0, 0), 0, 0, []) else TN)) else (bif Nat.blt pc 10 then (bif Nat.beq pc 9 then (.iload_n 2, 10, (2, 0, 0), 0, 0, []) else TN) else (bif Nat.beq pc 10 then (.getstatic 377, 13, (1, 0, 2), 0, 0, []) else TN)))) else (bif Nat.blt pc 19 then (bif Nat.blt pc 15 then (bif Nat.blt pc 14 then (bif Nat.beq pc 13 then (.iload_n 1, 14, (1, 0, 0), 0, 0, []) else TN) else (bif Nat.beq pc 14 then (.iaload, 15, (0, 0, 0), 0, 0, []) else TN)) else (bif Nat.blt pc 18 then (bif Nat.beq pc 15 then (.getstatic 380, 18, (1, 1, 2), 0, 0, []) else TN) else (bif Nat.beq pc 18 then (.iload_n 1, 19, (1, 0, 0), 0, 0, []) else TN))) else (bif Nat.blt pc 23 then (bif Nat.blt pc 20 then (bif Nat.beq pc 19 then (.iaload, 20, (0, 0, 0), 0, 0, []) else TN) else (bif Nat.beq pc 20 then (.invokestatic 115, 23, (83, 3, 0), 0, 0, []) else TN)) else (bif Nat.blt pc 26 then (bif Nat.beq pc 23 then (.ifCond .ne 6, 26, (29, 0, 0), 0, 0, []) else TN) else (bif Nat.beq pc 26 then (.ldc 91, 28, (0, 0, 0), -1000000001, 0, []) else TN))))) else (bif Nat.blt pc 39 then (bif Nat.blt pc 33 then (bif Nat.blt pc 29 then (bif Nat.beq pc 28 then (.ireturn, 29, (0, 0, 0), 0, 0, []) else TN) else (bif Nat.blt pc 30 then (bif Nat.beq pc 29 then (.aload_n 0, 30, (0, 0, 0), 0, 0, []) else TN) else (bif Nat.beq pc 30 then (.getfield 73, 33, (11, 12, 0), 0, 0, []) else TN))) else (bif Nat.blt pc 37 then (bif Nat.blt pc 36 then (bif Nat.beq pc 33 then (.getfield 273, 36, (6, 1, 1), 0, 0, []) else TN) else (bif Nat.beq pc 36 then (.iload_n 1, 37, (1, 0, 0), 0, 0, []) else TN)) else (bif Nat.blt pc 38 then (bif Nat.beq pc 37 then (.iaload, 38, (0, 0, 0), 0, 0, []) else TN) else (bif Nat.beq pc 38 then (.istore_n 3, 39, (3, 0, 0), 0, 0, []) else TN)))) else (bif Nat.blt pc 47 then (bif Nat.blt pc 43 then (bif Nat.blt pc 40 then (bif Nat.beq pc 39 then (.aload_n 0, 40, (0, 0, 0), 0, 0, []) else TN) else (bif Nat.beq pc 40 then (.getfield 73, 43, (11, 12, 0), 0, 0, []) else TN)) else (bif Nat.blt pc 46 then (bif Nat.beq pc 43 then (.getfield 273, 46, (6, 1, 1), 0, 0, []) else TN) else (bif Nat.beq pc 46 then (.iload_n 1, 47, (1, 0, 0), 0, 0, []) else TN))) else (bif Nat.blt pc 49 then (bif Nat.blt pc 48 then (bif Nat.beq pc 47 then (.iload_n 2, 48, (2, 0, 0), 0, 0, []) else TN) else (bif Nat.beq pc 48 then (.iastore, 49, (0, 0, 0), 0, 0, []) else TN)) else (bif Nat.blt pc 50 then (bif Nat.beq pc 49 then (.iload_n 3, 50, (3, 0, 0), 0, 0, []) else TN) else (bif Nat.beq pc 50 then (.ireturn, 51, (0, 0, 0), 0, 0, []) else TN)))))
def tb_X11_rule (pc : Nat) : TI := bif Nat.ble 51 pc then TN else tt_X11_rule pc
theorem ok_X11_rule : tOK 11 (decide ("rule" = "<init>")) cX11_rule tb_X11_rule := tOK_of 51 tn_of (by decide +kernel)
def f_X11_rule (L : Lay) (σ : Sto) (a0 : Nat) (a1 : Int32) (a2 : Int32) : Option (Int32 × Sto) := (f_X11_isWithin L σ a1 0 4).bind fun r1 => (if r1 = 0 then some ((-1000000001), σ) else (rC 2 0 a1).bind fun v2 => (rC 2 1 a1).bind fun v3 => (f_X11_isWithin L σ a2 v2 v3).bind fun r4 => (if r4 = 0 then some ((-1000000001), σ) else (σ.2.1 a0 12).bind fun x5 => (σ.2.1 x5 1).bind fun x6 => (rI L σ x6 a1).bind fun v7 => (σ.2.1 a0 12).bind fun x8 => (σ.2.1 x8 1).bind fun x9 => (wI L σ x9 a1 a2).bind fun σ10 => some (v7, σ10)))
def ad_X11_rule : ADT := fun O L σ as k => match as with
  | [.inr (.inr (.inl (ta0, some a0))), .inl a1, .inl a2] => bif Nat.beq ta0 11 && true then (f_X11_rule L σ a0 a1 a2).bind fun r => k (some (vI r.1)) L r.2 else none
  | _ => none
abbrev cl_X11_rule {O : Type} : CLT O := (clc 83 ad_X11_isWithin cl0)
theorem hc_X11_rule (G : GT) (l : Launch) {d : Nat} (hd : 2 ≤ d) {O : Type} : HCL G l (true, false) d (cl_X11_rule (O := O)) := (hclc (ca_X11_isWithin G l (d := 1) (Nat.le_refl _)) (fun _ => rfl) (fun e => by cases e) (by omega) hcl0)
theorem rt_X11_rule : retOK (0, 0) (some .int) := ⟨fun _ => rfl, fun h => absurd h (by decide), fun h => absurd h (by decide)⟩
set_option maxRecDepth 20000 in
theorem ca_X11_rule (G : GT) (l : Launch) {d : Nat} (hd : 2 ≤ d) : CA G l 108 (true, false) d ad_X11_rule := by
  intro O L σ as k o h hW hok
  unfold ad_X11_rule at h
  split at h
  · obtain ⟨hq0, hA0⟩ := bif_s h
    obtain ⟨e0, hq1⟩ := beq_and hq0
    subst e0
    obtain ⟨r, hr, hk⟩ := Option.bind_eq_some_iff.mp hA0
    exact ca_of (q := (dcI L) r) (by decide) rfl (Nat.le_of_ble_eq_true rfl) hk (fun _ => rfl) (fun e => by cases e) (exs (sp := []) (K := k0) (L0 := L) (σ0 := σ) ok_X11_rule rt_X11_rule (by omega) (hc_X11_rule G l hd) (hrI rfl) hk0 33 hr (inv0 hW hok))
  · cases h
def tt_X11_says (pc : Nat) : TI := bif Nat.blt pc 31 then (bif Nat.blt pc 14 then (bif Nat.blt pc 7 then (bif Nat.blt pc 2 then (bif Nat.blt pc 1 then (bif Nat.beq pc 0 then (.aload_n 0, 1, (0, 0, 0), 0, 0, []) else TN) else (bif Nat.beq pc 1 then (.iload_n 1, 2, (1, 0, 0), 0, 0, []) else TN)) else (bif Nat.blt pc 5 then (bif Nat.beq pc 2 then (.invokevirtual 218, 5, (61, 1, 11), 0, 0, []) else TN) else (bif Nat.beq pc 5 then (.astore 4, 7, (4, 0, 0), 0, 0, []) else TN))) else (bif Nat.blt pc 12 then (bif Nat.blt pc 9 then (bif Nat.beq pc 7 then (.aload 4, 9, (4, 0, 0), 0, 0, []) else TN) else (bif Nat.beq pc 9 then (.ifnull 22, 12, (31, 0, 0), 0, 0, []) else TN)) else (bif Nat.blt pc 13 then (bif Nat.beq pc 12 then (.iload_n 2, 13, (2, 0, 0), 0, 0, []) else TN) else (bif Nat.beq pc 13 then (.iconst 0, 14, (0, 0, 0), 0, 0, []) else TN)))) else (bif Nat.blt pc 22 then (bif Nat.blt pc 18 then (bif Nat.blt pc 15 then (bif Nat.beq pc 14 then (.iconst 1, 15, (0, 0, 0), 1, 0, []) else TN) else (bif Nat.beq pc 15 then (.invokestatic 115, 18, (83, 3, 0), 0, 0, []) else TN)) else (bif Nat.blt pc 21 then (bif Nat.beq pc 18 then (.ifCond .eq 13, 21, (31, 0, 0), 0, 0, []) else TN) else (bif Nat.beq pc 21 then (.aload_n 0, 22, (0, 0, 0), 0, 0, []) else TN))) else (bif Nat.blt pc 25 then (bif Nat.blt pc 24 then (bif Nat.beq pc 22 then (.aload 4, 24, (4, 0, 0), 0, 0, []) else TN) else (bif Nat.beq pc 24 then (.iload_n 3, 25, (3, 0, 0), 0, 0, []) else TN)) else (bif Nat.blt pc 28 then (bif Nat.beq pc 25 then (.invokevirtual 255, 28, (77, 2, 11), 0, 0, []) else TN) else (bif Nat.beq pc 28 then (.ifCond .ne 6, 31, (34, 0, 0), 0, 0, []) else TN))))) else (bif Nat.blt pc 45 then (bif Nat.blt pc 38 then (bif Nat.blt pc 34 then (bif Nat.blt pc 33 then (bif Nat.beq pc 31 then (.ldc 91, 33, (0, 0, 0), -1000000001, 0, []) else TN) else (bif Nat.beq pc 33 then (.ireturn, 34, (0, 0, 0), 0, 0, []) else TN)) else (bif Nat.blt pc 35 then (bif Nat.beq pc 34 then (.aload_n 0, 35, (0, 0, 0), 0, 0, []) else TN) else (bif Nat.beq pc 35 then (.getfield 308, 38, (11, 8, 0), 0, 0, []) else TN))) else (bif Nat.blt pc 43 then (bif Nat.blt pc 41 then (bif Nat.beq pc 38 then (.ifCond .ne 6, 41, (44, 0, 0), 0, 0, []) else TN) else (bif Nat.beq pc 41 then (.ldc 146, 43, (0, 0, 0), -1000000002, 0, []) else TN)) else (bif Nat.blt pc 44 then (bif Nat.beq pc 43 then (.ireturn, 44, (0, 0, 0), 0, 0, []) else TN) else (bif Nat.beq pc 44 then (.aload_n 0, 45, (0, 0, 0), 0, 0, []) else TN)))) else (bif Nat.blt pc 52 then (bif Nat.blt pc 48 then (bif Nat.blt pc 47 then (bif Nat.beq pc 45 then (.aload 4, 47, (4, 0, 0), 0, 0, []) else TN) else (bif Nat.beq pc 47 then (.iload_n 2, 48, (2, 0, 0), 0, 0, []) else TN)) else (bif Nat.blt pc 51 then (bif Nat.beq pc 48 then (.ifCond .ne 7, 51, (55, 0, 0), 0, 0, []) else TN) else (bif Nat.beq pc 51 then (.iconst 0, 52, (0, 0, 0), 0, 0, []) else TN))) else (bif Nat.blt pc 56 then (bif Nat.blt pc 55 then (bif Nat.beq pc 52 then (.goto 4, 55, (56, 0, 0), 0, 0, []) else TN) else (bif Nat.beq pc 55 then (.iconst 2, 56, (0, 0, 0), 2, 0, []) else TN)) else (bif Nat.blt pc 57 then (bif Nat.beq pc 56 then (.iload_n 3, 57, (3, 0, 0), 0, 0, []) else TN) else (bif Nat.blt pc 60 then (bif Nat.beq pc 57 then (.invokevirtual 315, 60, (86, 3, 11), 0, 0, []) else TN) else (bif Nat.beq pc 60 then (.ireturn, 61, (0, 0, 0), 0, 0, []) else TN))))))
def tb_X11_says (pc : Nat) : TI := bif Nat.ble 61 pc then TN else tt_X11_says pc
theorem ok_X11_says : tOK 11 (decide ("says" = "<init>")) cX11_says tb_X11_says := tOK_of 61 tn_of (by decide +kernel)
def f_X11_says_56 (L : Lay) (σ : Sto) (a3 : Int32) (s0 : Int32) (s1 : Option Nat) (s2 : Nat) : Option (Int32 × Sto) := (f_X11_lawFor L σ s2 s1 s0 a3).bind fun r1 => some (r1.1, r1.2)
def A_X11_says_56 (c : Lay → Sto → Int32 → Int32 → Option Nat → Nat → Option (Int32 × Sto)) (lc : List (Option AV)) (st : List AV) (L : Lay) (σ : Sto) : Option (Int32 × Sto) := match lc, st with
  | [_, _, _, some (.inl a3), _], [.inl s0, .inr (.inr (.inl (ts1, s1))), .inr (.inr (.inl (ts2, some s2)))] => bif Nat.beq ts1 0 && (Nat.beq ts2 11 && true) then c L σ a3 s0 s1 s2 else none
  | _, _ => none
def f_X11_says (L : Lay) (σ : Sto) (a0 : Nat) (a1 : Int32) (a2 : Int32) (a3 : Int32) : Option (Int32 × Sto) := (f_X11_ballotAt L σ a0 a1).bind fun o2 => (Option.elim o2 (some ((-1000000001), σ)) (fun _ => (f_X11_isWithin L σ a2 0 1).bind fun r3 => (if r3 = 0 then some ((-1000000001), σ) else (f_X11_isKnownDay L σ a0 o2 a3).bind fun r4 => (if r4 = 0 then some ((-1000000001), σ) else (if (σ.1 a0 8) = 0 then some ((-1000000002), σ) else (if a2 = 0 then (f_X11_says_56) L σ a3 0 o2 a0 else (f_X11_says_56) L σ a3 2 o2 a0))))))
def ad_X11_says : ADT := fun O L σ as k => match as with
  | [.inr (.inr (.inl (ta0, some a0))), .inl a1, .inl a2, .inl a3] => bif Nat.beq ta0 11 && true then (f_X11_says L σ a0 a1 a2 a3).bind fun r => k (some (vI r.1)) L r.2 else none
  | _ => none
abbrev cl_X11_says {O : Type} : CLT O := (clc 86 ad_X11_lawFor (clc 61 ad_X11_ballotAt (clc 83 ad_X11_isWithin (clc 77 ad_X11_isKnownDay cl0))))
theorem hc_X11_says (G : GT) (l : Launch) {d : Nat} (hd : 7 ≤ d) {O : Type} : HCL G l (true, false) d (cl_X11_says (O := O)) := (hclc (ca_X11_lawFor G l (d := 6) (Nat.le_refl _)) (fun _ => rfl) (fun e => by cases e) (by omega) (hclc (ca_X11_ballotAt G l (d := 2) (Nat.le_refl _)) (fun _ => rfl) (fun e => by cases e) (by omega) (hclc (ca_X11_isWithin G l (d := 1) (Nat.le_refl _)) (fun _ => rfl) (fun e => by cases e) (by omega) (hclc (ca_X11_isKnownDay G l (d := 2) (Nat.le_refl _)) (fun _ => rfl) (fun e => by cases e) (by omega) hcl0))))
theorem rt_X11_says : retOK (0, 0) (some .int) := ⟨fun _ => rfl, fun h => absurd h (by decide), fun h => absurd h (by decide)⟩
set_option maxRecDepth 20000 in
theorem b_X11_says_56 {G : GT} {l : Launch} {d : Nat} {L0 : Lay} {σ0 : Sto} (hd : 7 ≤ d) : HF G l 11 "says" cX11_says 5 (some .int) d L0 σ0 (true, false) (dcI L0) 56 (A_X11_says_56 f_X11_says_56) := by
  intro lc st L σ o h hI
  unfold A_X11_says_56 at h
  split at h
  · obtain ⟨hq0, hA1⟩ := bif_s h
    obtain ⟨e0, hq1⟩ := beq_and hq0
    obtain ⟨e1, hq2⟩ := beq_and hq1
    subst e0
    subst e1
    exact exs (sp := []) (K := k0) ok_X11_says rt_X11_says (by omega) (hc_X11_says G l hd) (hrI rfl) hk0 36 hA1 hI
  · cases h
set_option maxRecDepth 20000 in
theorem ca_X11_says (G : GT) (l : Launch) {d : Nat} (hd : 7 ≤ d) : CA G l 109 (true, false) d ad_X11_says := by
  intro O L σ as k o h hW hok
  unfold ad_X11_says at h
  split at h
  · obtain ⟨hq0, hA0⟩ := bif_s h
    obtain ⟨e0, hq1⟩ := beq_and hq0
    subst e0
    obtain ⟨r, hr, hk⟩ := Option.bind_eq_some_iff.mp hA0
    exact ca_of (q := (dcI L) r) (by decide) rfl (Nat.le_of_ble_eq_true rfl) hk (fun _ => rfl) (fun e => by cases e) (exs (sp := [56]) (K := (kc 56 (A_X11_says_56 (f_X11_says_56)) k0)) (L0 := L) (σ0 := σ) ok_X11_says rt_X11_says (by omega) (hc_X11_says G l hd) (hrI rfl) (hkc (b_X11_says_56 hd) hk0) 36 hr (inv0 hW hok))
  · cases h
def tt_X11_send (pc : Nat) : TI := bif Nat.blt pc 25 then (bif Nat.blt pc 11 then (bif Nat.blt pc 5 then (bif Nat.blt pc 1 then (bif Nat.beq pc 0 then (.aload_n 0, 1, (0, 0, 0), 0, 0, []) else TN) else (bif Nat.blt pc 2 then (bif Nat.beq pc 1 then (.iload_n 1, 2, (1, 0, 0), 0, 0, []) else TN) else (bif Nat.beq pc 2 then (.invokevirtual 218, 5, (61, 1, 11), 0, 0, []) else TN))) else (bif Nat.blt pc 7 then (bif Nat.blt pc 6 then (bif Nat.beq pc 5 then (.astore_n 3, 6, (3, 0, 0), 0, 0, []) else TN) else (bif Nat.beq pc 6 then (.aload_n 3, 7, (3, 0, 0), 0, 0, []) else TN)) else (bif Nat.blt pc 10 then (bif Nat.beq pc 7 then (.ifnull 14, 10, (21, 0, 0), 0, 0, []) else TN) else (bif Nat.beq pc 10 then (.aload_n 0, 11, (0, 0, 0), 0, 0, []) else TN)))) else (bif Nat.blt pc 18 then (bif Nat.blt pc 14 then (bif Nat.beq pc 11 then (.getfield 12, 14, (11, 0, 0), 0, 0, []) else TN) else (bif Nat.blt pc 15 then (bif Nat.beq pc 14 then (.iload_n 2, 15, (2, 0, 0), 0, 0, []) else TN) else (bif Nat.beq pc 15 then (.invokevirtual 134, 18, (53, 1, 10), 0, 0, []) else TN))) else (bif Nat.blt pc 23 then (bif Nat.blt pc 21 then (bif Nat.beq pc 18 then (.ifnonnull 6, 21, (24, 0, 0), 0, 0, []) else TN) else (bif Nat.beq pc 21 then (.ldc 91, 23, (0, 0, 0), -1000000001, 0, []) else TN)) else (bif Nat.blt pc 24 then (bif Nat.beq pc 23 then (.ireturn, 24, (0, 0, 0), 0, 0, []) else TN) else (bif Nat.beq pc 24 then (.aload_n 3, 25, (3, 0, 0), 0, 0, []) else TN))))) else (bif Nat.blt pc 41 then (bif Nat.blt pc 32 then (bif Nat.blt pc 28 then (bif Nat.beq pc 25 then (.invokevirtual 222, 28, (34, 0, 0), 0, 0, []) else TN) else (bif Nat.blt pc 31 then (bif Nat.beq pc 28 then (.ifCond .ne 11, 31, (39, 0, 0), 0, 0, []) else TN) else (bif Nat.beq pc 31 then (.aload_n 3, 32, (3, 0, 0), 0, 0, []) else TN))) else (bif Nat.blt pc 36 then (bif Nat.blt pc 33 then (bif Nat.beq pc 32 then (.iload_n 2, 33, (2, 0, 0), 0, 0, []) else TN) else (bif Nat.beq pc 33 then (.invokevirtual 225, 36, (36, 1, 0), 0, 0, []) else TN)) else (bif Nat.blt pc 39 then (bif Nat.beq pc 36 then (.ifCond .eq 6, 39, (42, 0, 0), 0, 0, []) else TN) else (bif Nat.beq pc 39 then (.ldc 146, 41, (0, 0, 0), -1000000002, 0, []) else TN)))) else (bif Nat.blt pc 44 then (bif Nat.blt pc 42 then (bif Nat.beq pc 41 then (.ireturn, 42, (0, 0, 0), 0, 0, []) else TN) else (bif Nat.blt pc 43 then (bif Nat.beq pc 42 then (.aload_n 3, 43, (3, 0, 0), 0, 0, []) else TN) else (bif Nat.beq pc 43 then (.iload_n 2, 44, (2, 0, 0), 0, 0, []) else TN))) else (bif Nat.blt pc 48 then (bif Nat.blt pc 47 then (bif Nat.beq pc 44 then (.invokevirtual 228, 47, (40, 1, 0), 0, 0, []) else TN) else (bif Nat.beq pc 47 then (.aload_n 3, 48, (3, 0, 0), 0, 0, []) else TN)) else (bif Nat.blt pc 51 then (bif Nat.beq pc 48 then (.getfield 232, 51, (0, 4, 1), 0, 0, []) else TN) else (bif Nat.beq pc 51 then (.ireturn, 52, (0, 0, 0), 0, 0, []) else TN)))))
def tb_X11_send (pc : Nat) : TI := bif Nat.ble 52 pc then TN else tt_X11_send pc
theorem ok_X11_send : tOK 11 (decide ("send" = "<init>")) cX11_send tb_X11_send := tOK_of 52 tn_of (by decide +kernel)
def f_X11_send (L : Lay) (σ : Sto) (a0 : Nat) (a1 : Int32) (a2 : Int32) : Option (Int32 × Sto) := (f_X11_ballotAt L σ a0 a1).bind fun o1 => (Option.elim o1 (some ((-1000000001), σ)) (fun _ => (σ.2.1 a0 0).bind fun x2 => (f_X10_memberAt L σ x2 a2).bind fun o3 => (Option.elim o3 (some ((-1000000001), σ)) (fun _ => o1.bind fun x4 => (f_X0_hasClosed L σ x4).bind fun r5 => (if r5 = 0 then o1.bind fun x6 => (f_X0_hasSent L σ x6 a2).bind fun r7 => (if r7 = 0 then o1.bind fun x8 => (f_X0_post L σ x8 a2).bind fun σ9 => o1.bind fun x10 => some ((σ9.1 x10 4), σ9) else some ((-1000000002), σ)) else some ((-1000000002), σ))))))
def ad_X11_send : ADT := fun O L σ as k => match as with
  | [.inr (.inr (.inl (ta0, some a0))), .inl a1, .inl a2] => bif Nat.beq ta0 11 && true then (f_X11_send L σ a0 a1 a2).bind fun r => k (some (vI r.1)) L r.2 else none
  | _ => none
abbrev cl_X11_send {O : Type} : CLT O := (clc 61 ad_X11_ballotAt (clc 53 ad_X10_memberAt (clc 34 ad_X0_hasClosed (clc 36 ad_X0_hasSent (clc 40 ad_X0_post cl0)))))
theorem hc_X11_send (G : GT) (l : Launch) {d : Nat} (hd : 3 ≤ d) {O : Type} : HCL G l (true, false) d (cl_X11_send (O := O)) := (hclc (ca_X11_ballotAt G l (d := 2) (Nat.le_refl _)) (fun _ => rfl) (fun e => by cases e) (by omega) (hclc (ca_X10_memberAt G l (d := 2) (Nat.le_refl _)) (fun _ => rfl) (fun e => by cases e) (by omega) (hclc (ca_X0_hasClosed G l (d := 1) (Nat.le_refl _)) (fun _ => rfl) (fun e => by cases e) (by omega) (hclc (ca_X0_hasSent G l (d := 2) (Nat.le_refl _)) (fun _ => rfl) (fun e => by cases e) (by omega) (hclc (ca_X0_post G l (d := 2) (Nat.le_refl _)) (fun _ => rfl) (fun e => by cases e) (by omega) hcl0)))))
theorem rt_X11_send : retOK (0, 0) (some .int) := ⟨fun _ => rfl, fun h => absurd h (by decide), fun h => absurd h (by decide)⟩
set_option maxRecDepth 20000 in
theorem ca_X11_send (G : GT) (l : Launch) {d : Nat} (hd : 3 ≤ d) : CA G l 110 (true, false) d ad_X11_send := by
  intro O L σ as k o h hW hok
  unfold ad_X11_send at h
  split at h
  · obtain ⟨hq0, hA0⟩ := bif_s h
    obtain ⟨e0, hq1⟩ := beq_and hq0
    subst e0
    obtain ⟨r, hr, hk⟩ := Option.bind_eq_some_iff.mp hA0
    exact ca_of (q := (dcI L) r) (by decide) rfl (Nat.le_of_ble_eq_true rfl) hk (fun _ => rfl) (fun e => by cases e) (exs (sp := []) (K := k0) (L0 := L) (σ0 := σ) ok_X11_send rt_X11_send (by omega) (hc_X11_send G l hd) (hrI rfl) hk0 31 hr (inv0 hW hok))
  · cases h
def tt_X11_sendAll (pc : Nat) : TI := bif Nat.blt pc 13 then (bif Nat.blt pc 6 then (bif Nat.blt pc 2 then (bif Nat.blt pc 1 then (bif Nat.beq pc 0 then (.aload_n 0, 1, (0, 0, 0), 0, 0, []) else TN) else (bif Nat.beq pc 1 then (.iload_n 1, 2, (1, 0, 0), 0, 0, []) else TN)) else (bif Nat.blt pc 5 then (bif Nat.beq pc 2 then (.invokevirtual 218, 5, (61, 1, 11), 0, 0, []) else TN) else (bif Nat.beq pc 5 then (.astore_n 2, 6, (2, 0, 0), 0, 0, []) else TN))) else (bif Nat.blt pc 10 then (bif Nat.blt pc 7 then (bif Nat.beq pc 6 then (.aload_n 2, 7, (2, 0, 0), 0, 0, []) else TN) else (bif Nat.beq pc 7 then (.ifnonnull 6, 10, (13, 0, 0), 0, 0, []) else TN)) else (bif Nat.blt pc 12 then (bif Nat.beq pc 10 then (.ldc 91, 12, (0, 0, 0), -1000000001, 0, []) else TN) else (bif Nat.beq pc 12 then (.ireturn, 13, (0, 0, 0), 0, 0, []) else TN)))) else (bif Nat.blt pc 22 then (bif Nat.blt pc 17 then (bif Nat.blt pc 14 then (bif Nat.beq pc 13 then (.aload_n 2, 14, (2, 0, 0), 0, 0, []) else TN) else (bif Nat.beq pc 14 then (.invokevirtual 222, 17, (34, 0, 0), 0, 0, []) else TN)) else (bif Nat.blt pc 20 then (bif Nat.beq pc 17 then (.ifCond .eq 8, 20, (25, 0, 0), 0, 0, []) else TN) else (bif Nat.beq pc 20 then (.ldc 146, 22, (0, 0, 0), -1000000002, 0, []) else TN))) else (bif Nat.blt pc 26 then (bif Nat.blt pc 25 then (bif Nat.beq pc 22 then (.goto 7, 25, (29, 0, 0), 0, 0, []) else TN) else (bif Nat.beq pc 25 then (.aload_n 2, 26, (2, 0, 0), 0, 0, []) else TN)) else (bif Nat.blt pc 29 then (bif Nat.beq pc 26 then (.invokevirtual 235, 29, (41, 0, 0), 0, 0, []) else TN) else (bif Nat.beq pc 29 then (.ireturn, 30, (0, 0, 0), 0, 0, []) else TN))))
def tb_X11_sendAll (pc : Nat) : TI := bif Nat.ble 30 pc then TN else tt_X11_sendAll pc
theorem ok_X11_sendAll : tOK 11 (decide ("sendAll" = "<init>")) cX11_sendAll tb_X11_sendAll := tOK_of 30 tn_of (by decide +kernel)
def f_X11_sendAll (L : Lay) (σ : Sto) (a0 : Nat) (a1 : Int32) : Option (Int32 × Sto) := (f_X11_ballotAt L σ a0 a1).bind fun o1 => (Option.elim o1 (some ((-1000000001), σ)) (fun _ => o1.bind fun x2 => (f_X0_hasClosed L σ x2).bind fun r3 => (if r3 = 0 then o1.bind fun x4 => (f_X0_postToMissed L σ x4).bind fun r5 => some (r5.1, r5.2) else some ((-1000000002), σ))))
def ad_X11_sendAll : ADT := fun O L σ as k => match as with
  | [.inr (.inr (.inl (ta0, some a0))), .inl a1] => bif Nat.beq ta0 11 && true then (f_X11_sendAll L σ a0 a1).bind fun r => k (some (vI r.1)) L r.2 else none
  | _ => none
abbrev cl_X11_sendAll {O : Type} : CLT O := (clc 61 ad_X11_ballotAt (clc 34 ad_X0_hasClosed (clc 41 ad_X0_postToMissed cl0)))
theorem hc_X11_sendAll (G : GT) (l : Launch) {d : Nat} (hd : 6 ≤ d) {O : Type} : HCL G l (true, false) d (cl_X11_sendAll (O := O)) := (hclc (ca_X11_ballotAt G l (d := 2) (Nat.le_refl _)) (fun _ => rfl) (fun e => by cases e) (by omega) (hclc (ca_X0_hasClosed G l (d := 1) (Nat.le_refl _)) (fun _ => rfl) (fun e => by cases e) (by omega) (hclc (ca_X0_postToMissed G l (d := 5) (Nat.le_refl _)) (fun _ => rfl) (fun e => by cases e) (by omega) hcl0)))
theorem rt_X11_sendAll : retOK (0, 0) (some .int) := ⟨fun _ => rfl, fun h => absurd h (by decide), fun h => absurd h (by decide)⟩
set_option maxRecDepth 20000 in
theorem ca_X11_sendAll (G : GT) (l : Launch) {d : Nat} (hd : 6 ≤ d) : CA G l 111 (true, false) d ad_X11_sendAll := by
  intro O L σ as k o h hW hok
  unfold ad_X11_sendAll at h
  split at h
  · obtain ⟨hq0, hA0⟩ := bif_s h
    obtain ⟨e0, hq1⟩ := beq_and hq0
    subst e0
    obtain ⟨r, hr, hk⟩ := Option.bind_eq_some_iff.mp hA0
    exact ca_of (q := (dcI L) r) (by decide) rfl (Nat.le_of_ble_eq_true rfl) hk (fun _ => rfl) (fun e => by cases e) (exs (sp := []) (K := k0) (L0 := L) (σ0 := σ) ok_X11_sendAll rt_X11_sendAll (by omega) (hc_X11_sendAll G l hd) (hrI rfl) hk0 19 hr (inv0 hW hok))
  · cases h
def tt_J7_fill_fb410 (pc : Nat) : TI := bif Nat.blt pc 7 then (bif Nat.blt pc 3 then (bif Nat.blt pc 1 then (bif Nat.beq pc 0 then (.iconst 0, 1, (0, 0, 0), 0, 0, []) else TN) else (bif Nat.blt pc 2 then (bif Nat.beq pc 1 then (.istore_n 2, 2, (2, 0, 0), 0, 0, []) else TN) else (bif Nat.beq pc 2 then (.aload_n 0, 3, (0, 0, 0), 0, 0, []) else TN))) else (bif Nat.blt pc 5 then (bif Nat.blt pc 4 then (bif Nat.beq pc 3 then (.arraylength, 4, (0, 0, 0), 0, 0, []) else TN) else (bif Nat.beq pc 4 then (.istore_n 3, 5, (3, 0, 0), 0, 0, []) else TN)) else (bif Nat.blt pc 6 then (bif Nat.beq pc 5 then (.iload_n 2, 6, (2, 0, 0), 0, 0, []) else TN) else (bif Nat.beq pc 6 then (.iload_n 3, 7, (3, 0, 0), 0, 0, []) else TN)))) else (bif Nat.blt pc 13 then (bif Nat.blt pc 11 then (bif Nat.blt pc 10 then (bif Nat.beq pc 7 then (.if_icmp .ge 13, 10, (20, 0, 0), 0, 0, []) else TN) else (bif Nat.beq pc 10 then (.aload_n 0, 11, (0, 0, 0), 0, 0, []) else TN)) else (bif Nat.blt pc 12 then (bif Nat.beq pc 11 then (.iload_n 2, 12, (2, 0, 0), 0, 0, []) else TN) else (bif Nat.beq pc 12 then (.iload_n 1, 13, (1, 0, 0), 0, 0, []) else TN))) else (bif Nat.blt pc 17 then (bif Nat.blt pc 14 then (bif Nat.beq pc 13 then (.sastore, 14, (0, 0, 0), 0, 0, []) else TN) else (bif Nat.beq pc 14 then (.iinc 2 1, 17, (2, 0, 0), 1, 0, []) else TN)) else (bif Nat.blt pc 20 then (bif Nat.beq pc 17 then (.goto (-12), 20, (5, 0, 0), 0, 0, []) else TN) else (bif Nat.beq pc 20 then (.return_, 21, (0, 0, 0), 0, 0, []) else TN))))
def tb_J7_fill_fb410 (pc : Nat) : TI := bif Nat.ble 21 pc then TN else tt_J7_fill_fb410 pc
theorem ok_J7_fill_fb410 : tOK 22 (decide ("fill" = "<init>")) cJ7_fill_fb410 tb_J7_fill_fb410 := tOK_of 21 tn_of (by decide +kernel)
def f_J7_fill_fb410_5 : Nat → Lay → Sto → Option Nat → Int32 → Int32 → Int32 → Option Sto
  | 0 => fun _ _ _ _ _ _ => none
  | k + 1 => fun L σ a0 a1 a2 a3 => (if a3 ≤ a2 then some σ else a0.bind fun x1 => (wI L σ x1 a2 (nSh a1)).bind fun σ2 => (f_J7_fill_fb410_5 k) L σ2 a0 a1 (a2 + 1) a3)
def A_J7_fill_fb410_5 (c : Lay → Sto → Option Nat → Int32 → Int32 → Int32 → Option Sto) (lc : List (Option AV)) (st : List AV) (L : Lay) (σ : Sto) : Option Sto := match lc, st with
  | [some (.inr (.inr (.inl (ta0, a0)))), some (.inl a1), some (.inl a2), some (.inl a3)], [] => bif Nat.beq ta0 21 && true then c L σ a0 a1 a2 a3 else none
  | _, _ => none
def f_J7_fill_fb410 (L : Lay) (σ : Sto) (a0 : Option Nat) (a1 : Int32) : Option Sto := a0.bind fun x3 => (f_J7_fill_fb410_5 FU) L σ a0 a1 0 (nI (L.2.1 x3))
def ad_J7_fill_fb410 : ADT := fun O L σ as k => match as with
  | [.inr (.inr (.inl (ta0, a0))), .inl a1] => bif Nat.beq ta0 21 && true then (f_J7_fill_fb410 L σ a0 a1).bind fun σ2 => k none L σ2 else none
  | _ => none
abbrev cl_J7_fill_fb410 {O : Type} : CLT O := cl0
theorem hc_J7_fill_fb410 (G : GT) (l : Launch) {d : Nat} (hd : 1 ≤ d) {O : Type} : HCL G l (true, false) d (cl_J7_fill_fb410 (O := O)) := hcl0
theorem rt_J7_fill_fb410 : retOK (6, 0) none := ⟨fun h => absurd h (by decide), fun h => absurd h (by decide), fun _ => rfl⟩
set_option maxRecDepth 20000 in
theorem b_J7_fill_fb410_5 {G : GT} {l : Launch} {d : Nat} {L0 : Lay} {σ0 : Sto} (hd : 1 ≤ d) : ∀ k : Nat, HF G l 22 "fill" cJ7_fill_fb410 4 none d L0 σ0 (true, false) (dcV L0) 5 (A_J7_fill_fb410_5 (f_J7_fill_fb410_5 k))
  | 0 => by
    intro lc st L σ o h hI
    unfold A_J7_fill_fb410_5 at h
    split at h
    · obtain ⟨_, hA1⟩ := bif_s h
      cases hA1
    · cases h
  | k + 1 => by
    have ih := b_J7_fill_fb410_5 (G := G) (l := l) (d := d) (L0 := L0) (σ0 := σ0) hd k
    intro lc st L σ o h hI
    unfold A_J7_fill_fb410_5 at h
    split at h
    · obtain ⟨hq0, hA1⟩ := bif_s h
      obtain ⟨e0, hq1⟩ := beq_and hq0
      subst e0
      exact exs (sp := [5]) (K := (kc 5 (A_J7_fill_fb410_5 (f_J7_fill_fb410_5 k)) k0)) ok_J7_fill_fb410 rt_J7_fill_fb410 (by omega) (hc_J7_fill_fb410 G l hd) (hrV rfl) (hkc ih hk0) 18 hA1 hI
    · cases h
set_option maxRecDepth 20000 in
theorem ca_J7_fill_fb410 (G : GT) (l : Launch) {d : Nat} (hd : 1 ≤ d) : CA G l 31 (true, false) d ad_J7_fill_fb410 := by
  intro O L σ as k o h hW hok
  unfold ad_J7_fill_fb410 at h
  split at h
  · obtain ⟨hq0, hA0⟩ := bif_s h
    obtain ⟨e0, hq1⟩ := beq_and hq0
    subst e0
    obtain ⟨r, hr, hk⟩ := Option.bind_eq_some_iff.mp hA0
    exact ca_of (q := (dcV L) r) (by decide) rfl (Nat.le_of_ble_eq_true rfl) hk (fun _ => rfl) (fun e => by cases e) (exs (sp := [5]) (K := (kc 5 (A_J7_fill_fb410_5 (f_J7_fill_fb410_5 FU)) k0)) (L0 := L) (σ0 := σ) ok_J7_fill_fb410 rt_J7_fill_fb410 (by omega) (hc_J7_fill_fb410 G l hd) (hrV rfl) (hkc (b_J7_fill_fb410_5 hd FU) hk0) 18 hr (inv0 hW hok))
  · cases h
def tt_X8_clearTo (pc : Nat) : TI := bif Nat.blt pc 8 then (bif Nat.blt pc 4 then (bif Nat.blt pc 1 then (bif Nat.beq pc 0 then (.aload_n 0, 1, (0, 0, 0), 0, 0, []) else TN) else (bif Nat.beq pc 1 then (.getfield 9, 4, (8, 0, 0), 0, 0, []) else TN)) else (bif Nat.blt pc 5 then (bif Nat.beq pc 4 then (.iconst 0, 5, (0, 0, 0), 0, 0, []) else TN) else (bif Nat.beq pc 5 then (.invokestatic 17, 8, (31, 2, 0), 0, 0, []) else TN))) else (bif Nat.blt pc 10 then (bif Nat.blt pc 9 then (bif Nat.beq pc 8 then (.aload_n 0, 9, (0, 0, 0), 0, 0, []) else TN) else (bif Nat.beq pc 9 then (.iload_n 1, 10, (1, 0, 0), 0, 0, []) else TN)) else (bif Nat.blt pc 13 then (bif Nat.beq pc 10 then (.putfield 13, 13, (8, 1, 0), 0, 0, []) else TN) else (bif Nat.beq pc 13 then (.return_, 14, (0, 0, 0), 0, 0, []) else TN)))
def tb_X8_clearTo (pc : Nat) : TI := bif Nat.ble 14 pc then TN else tt_X8_clearTo pc
theorem ok_X8_clearTo : tOK 8 (decide ("clearTo" = "<init>")) cX8_clearTo tb_X8_clearTo := tOK_of 14 tn_of (by decide +kernel)
def f_X8_clearTo (L : Lay) (σ : Sto) (a0 : Nat) (a1 : Int32) : Option Sto := (f_J7_fill_fb410 L σ (σ.2.1 a0 0) 0).bind fun σ1 => (putI σ1 a0 1 a1).bind fun σ2 => some σ2
def ad_X8_clearTo : ADT := fun O L σ as k => match as with
  | [.inr (.inr (.inl (ta0, some a0))), .inl a1] => bif Nat.beq ta0 8 && true then (f_X8_clearTo L σ a0 a1).bind fun σ2 => k none L σ2 else none
  | _ => none
abbrev cl_X8_clearTo {O : Type} : CLT O := (clc 31 ad_J7_fill_fb410 cl0)
theorem hc_X8_clearTo (G : GT) (l : Launch) {d : Nat} (hd : 2 ≤ d) {O : Type} : HCL G l (true, false) d (cl_X8_clearTo (O := O)) := (hclc (ca_J7_fill_fb410 G l (d := 1) (Nat.le_refl _)) (fun _ => rfl) (fun e => by cases e) (by omega) hcl0)
theorem rt_X8_clearTo : retOK (6, 0) none := ⟨fun h => absurd h (by decide), fun h => absurd h (by decide), fun _ => rfl⟩
set_option maxRecDepth 20000 in
theorem ca_X8_clearTo (G : GT) (l : Launch) {d : Nat} (hd : 2 ≤ d) : CA G l 266 (true, false) d ad_X8_clearTo := by
  intro O L σ as k o h hW hok
  unfold ad_X8_clearTo at h
  split at h
  · obtain ⟨hq0, hA0⟩ := bif_s h
    obtain ⟨e0, hq1⟩ := beq_and hq0
    subst e0
    obtain ⟨r, hr, hk⟩ := Option.bind_eq_some_iff.mp hA0
    exact ca_of (q := (dcV L) r) (by decide) rfl (Nat.le_of_ble_eq_true rfl) hk (fun _ => rfl) (fun e => by cases e) (exs (sp := []) (K := k0) (L0 := L) (σ0 := σ) ok_X8_clearTo rt_X8_clearTo (by omega) (hc_X8_clearTo G l hd) (hrV rfl) hk0 11 hr (inv0 hW hok))
  · cases h
