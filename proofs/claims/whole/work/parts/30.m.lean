def tt_X11_sheet (pc : Nat) : TI := bif Nat.blt pc 18 then (bif Nat.blt pc 7 then (bif Nat.blt pc 2 then (bif Nat.blt pc 1 then (bif Nat.beq pc 0 then (.aload_n 0, 1, (0, 0, 0), 0, 0, []) else TN) else (bif Nat.beq pc 1 then (.iload_n 1, 2, (1, 0, 0), 0, 0, []) else TN)) else (bif Nat.blt pc 5 then (bif Nat.beq pc 2 then (.invokevirtual 178, 5, (113, 1, 11), 0, 0, []) else TN) else (bif Nat.blt pc 6 then (bif Nat.beq pc 5 then (.astore_n 3, 6, (3, 0, 0), 0, 0, []) else TN) else (bif Nat.beq pc 6 then (.aload_n 3, 7, (3, 0, 0), 0, 0, []) else TN)))) else (bif Nat.blt pc 11 then (bif Nat.blt pc 10 then (bif Nat.beq pc 7 then (.ifnull 9, 10, (16, 0, 0), 0, 0, []) else TN) else (bif Nat.beq pc 10 then (.iload_n 2, 11, (2, 0, 0), 0, 0, []) else TN)) else (bif Nat.blt pc 13 then (bif Nat.beq pc 11 then (.bipush 40, 13, (0, 0, 0), 40, 0, []) else TN) else (bif Nat.blt pc 16 then (bif Nat.beq pc 13 then (.if_icmp .le 6, 16, (19, 0, 0), 0, 0, []) else TN) else (bif Nat.beq pc 16 then (.ldc 91, 18, (0, 0, 0), -1000000001, 0, []) else TN))))) else (bif Nat.blt pc 27 then (bif Nat.blt pc 20 then (bif Nat.blt pc 19 then (bif Nat.beq pc 18 then (.ireturn, 19, (0, 0, 0), 0, 0, []) else TN) else (bif Nat.beq pc 19 then (.iload_n 2, 20, (2, 0, 0), 0, 0, []) else TN)) else (bif Nat.blt pc 23 then (bif Nat.beq pc 20 then (.ifCond .ge 7, 23, (27, 0, 0), 0, 0, []) else TN) else (bif Nat.blt pc 26 then (bif Nat.beq pc 23 then (.ldc_w 412, 26, (0, 0, 0), -1000000014, 0, []) else TN) else (bif Nat.beq pc 26 then (.ireturn, 27, (0, 0, 0), 0, 0, []) else TN)))) else (bif Nat.blt pc 29 then (bif Nat.blt pc 28 then (bif Nat.beq pc 27 then (.aload_n 3, 28, (3, 0, 0), 0, 0, []) else TN) else (bif Nat.beq pc 28 then (.iload_n 2, 29, (2, 0, 0), 0, 0, []) else TN)) else (bif Nat.blt pc 32 then (bif Nat.beq pc 29 then (.invokevirtual 413, 32, (266, 1, 8), 0, 0, []) else TN) else (bif Nat.blt pc 33 then (bif Nat.beq pc 32 then (.iload_n 2, 33, (2, 0, 0), 0, 0, []) else TN) else (bif Nat.beq pc 33 then (.ireturn, 34, (0, 0, 0), 0, 0, []) else TN)))))
def tb_X11_sheet (pc : Nat) : TI := bif Nat.ble 34 pc then TN else tt_X11_sheet pc
theorem ok_X11_sheet : tOK 11 (decide ("sheet" = "<init>")) cX11_sheet tb_X11_sheet := tOK_of 34 tn_of (by decide +kernel)
def f_X11_sheet (L : Lay) (σ : Sto) (a0 : Nat) (a1 : Int32) (a2 : Int32) : Option (Int32 × Sto) := (f_X11_sheetAt L σ a0 a1).bind fun o1 => (Option.elim o1 (some ((-1000000001), σ)) (fun _ => (if a2 ≤ 40 then (if 0 ≤ a2 then o1.bind fun x2 => (f_X8_clearTo L σ x2 a2).bind fun σ3 => some (a2, σ3) else some ((-1000000014), σ)) else some ((-1000000001), σ))))
def ad_X11_sheet : ADT := fun O L σ as k => match as with
  | [.inr (.inr (.inl (ta0, some a0))), .inl a1, .inl a2] => bif Nat.beq ta0 11 && true then (f_X11_sheet L σ a0 a1 a2).bind fun r => k (some (vI r.1)) L r.2 else none
  | _ => none
abbrev cl_X11_sheet {O : Type} : CLT O := (clc 113 ad_X11_sheetAt (clc 266 ad_X8_clearTo cl0))
theorem hc_X11_sheet (G : GT) (l : Launch) {d : Nat} (hd : 3 ≤ d) {O : Type} : HCL G l (true, false) d (cl_X11_sheet (O := O)) := (hclc (ca_X11_sheetAt G l (d := 1) (Nat.le_refl _)) (fun _ => rfl) (fun e => by cases e) (by omega) (hclc (ca_X8_clearTo G l (d := 2) (Nat.le_refl _)) (fun _ => rfl) (fun e => by cases e) (by omega) hcl0))
theorem rt_X11_sheet : retOK (0, 0) (some .int) := ⟨fun _ => rfl, fun h => absurd h (by decide), fun h => absurd h (by decide)⟩
set_option maxRecDepth 20000 in
theorem ca_X11_sheet (G : GT) (l : Launch) {d : Nat} (hd : 3 ≤ d) : CA G l 112 (true, false) d ad_X11_sheet := by
  intro O L σ as k o h hW hok
  unfold ad_X11_sheet at h
  split at h
  · obtain ⟨hq0, hA0⟩ := bif_s h
    obtain ⟨e0, hq1⟩ := beq_and hq0
    subst e0
    obtain ⟨r, hr, hk⟩ := Option.bind_eq_some_iff.mp hA0
    exact ca_of (q := (dcI L) r) (by decide) rfl (Nat.le_of_ble_eq_true rfl) hk (fun _ => rfl) (fun e => by cases e) (exs (sp := []) (K := k0) (L0 := L) (σ0 := σ) ok_X11_sheet rt_X11_sheet (by omega) (hc_X11_sheet G l hd) (hrI rfl) hk0 23 hr (inv0 hW hok))
  · cases h
def tt_X11_stands (pc : Nat) : TI := bif Nat.blt pc 13 then (bif Nat.blt pc 6 then (bif Nat.blt pc 2 then (bif Nat.blt pc 1 then (bif Nat.beq pc 0 then (.aload_n 0, 1, (0, 0, 0), 0, 0, []) else TN) else (bif Nat.beq pc 1 then (.iload_n 1, 2, (1, 0, 0), 0, 0, []) else TN)) else (bif Nat.blt pc 5 then (bif Nat.beq pc 2 then (.invokevirtual 218, 5, (61, 1, 11), 0, 0, []) else TN) else (bif Nat.beq pc 5 then (.astore_n 3, 6, (3, 0, 0), 0, 0, []) else TN))) else (bif Nat.blt pc 10 then (bif Nat.blt pc 7 then (bif Nat.beq pc 6 then (.aload_n 3, 7, (3, 0, 0), 0, 0, []) else TN) else (bif Nat.beq pc 7 then (.ifnull 12, 10, (19, 0, 0), 0, 0, []) else TN)) else (bif Nat.blt pc 11 then (bif Nat.beq pc 10 then (.aload_n 0, 11, (0, 0, 0), 0, 0, []) else TN) else (bif Nat.blt pc 12 then (bif Nat.beq pc 11 then (.aload_n 3, 12, (3, 0, 0), 0, 0, []) else TN) else (bif Nat.beq pc 12 then (.iload_n 2, 13, (2, 0, 0), 0, 0, []) else TN))))) else (bif Nat.blt pc 23 then (bif Nat.blt pc 19 then (bif Nat.blt pc 16 then (bif Nat.beq pc 13 then (.invokevirtual 255, 16, (77, 2, 11), 0, 0, []) else TN) else (bif Nat.beq pc 16 then (.ifCond .ne 6, 19, (22, 0, 0), 0, 0, []) else TN)) else (bif Nat.blt pc 21 then (bif Nat.beq pc 19 then (.ldc 91, 21, (0, 0, 0), -1000000001, 0, []) else TN) else (bif Nat.blt pc 22 then (bif Nat.beq pc 21 then (.ireturn, 22, (0, 0, 0), 0, 0, []) else TN) else (bif Nat.beq pc 22 then (.aload_n 0, 23, (0, 0, 0), 0, 0, []) else TN)))) else (bif Nat.blt pc 25 then (bif Nat.blt pc 24 then (bif Nat.beq pc 23 then (.aload_n 3, 24, (3, 0, 0), 0, 0, []) else TN) else (bif Nat.beq pc 24 then (.iload_n 2, 25, (2, 0, 0), 0, 0, []) else TN)) else (bif Nat.blt pc 28 then (bif Nat.beq pc 25 then (.invokevirtual 319, 28, (82, 2, 11), 0, 0, []) else TN) else (bif Nat.blt pc 31 then (bif Nat.beq pc 28 then (.invokestatic 108, 31, (100, 1, 0), 0, 0, []) else TN) else (bif Nat.beq pc 31 then (.ireturn, 32, (0, 0, 0), 0, 0, []) else TN)))))
def tb_X11_stands (pc : Nat) : TI := bif Nat.ble 32 pc then TN else tt_X11_stands pc
theorem ok_X11_stands : tOK 11 (decide ("stands" = "<init>")) cX11_stands tb_X11_stands := tOK_of 32 tn_of (by decide +kernel)
def f_X11_stands (L : Lay) (σ : Sto) (a0 : Nat) (a1 : Int32) (a2 : Int32) : Option (Int32 × Sto) := (f_X11_ballotAt L σ a0 a1).bind fun o1 => (Option.elim o1 (some ((-1000000001), σ)) (fun _ => (f_X11_isKnownDay L σ a0 o1 a2).bind fun r2 => (if r2 = 0 then some ((-1000000001), σ) else (f_X11_isStanding L σ a0 o1 a2).bind fun r3 => (f_X11_oneIf L r3.2 r3.1).bind fun r4 => some (r4, r3.2))))
def ad_X11_stands : ADT := fun O L σ as k => match as with
  | [.inr (.inr (.inl (ta0, some a0))), .inl a1, .inl a2] => bif Nat.beq ta0 11 && true then (f_X11_stands L σ a0 a1 a2).bind fun r => k (some (vI r.1)) L r.2 else none
  | _ => none
abbrev cl_X11_stands {O : Type} : CLT O := (clc 61 ad_X11_ballotAt (clc 77 ad_X11_isKnownDay (clc 82 ad_X11_isStanding (clc 100 ad_X11_oneIf cl0))))
theorem hc_X11_stands (G : GT) (l : Launch) {d : Nat} (hd : 8 ≤ d) {O : Type} : HCL G l (true, false) d (cl_X11_stands (O := O)) := (hclc (ca_X11_ballotAt G l (d := 2) (Nat.le_refl _)) (fun _ => rfl) (fun e => by cases e) (by omega) (hclc (ca_X11_isKnownDay G l (d := 2) (Nat.le_refl _)) (fun _ => rfl) (fun e => by cases e) (by omega) (hclc (ca_X11_isStanding G l (d := 7) (Nat.le_refl _)) (fun _ => rfl) (fun e => by cases e) (by omega) (hclc (ca_X11_oneIf G l (d := 1) (Nat.le_refl _)) (fun _ => rfl) (fun e => by cases e) (by omega) hcl0))))
theorem rt_X11_stands : retOK (0, 0) (some .int) := ⟨fun _ => rfl, fun h => absurd h (by decide), fun h => absurd h (by decide)⟩
set_option maxRecDepth 20000 in
theorem ca_X11_stands (G : GT) (l : Launch) {d : Nat} (hd : 8 ≤ d) : CA G l 114 (true, false) d ad_X11_stands := by
  intro O L σ as k o h hW hok
  unfold ad_X11_stands at h
  split at h
  · obtain ⟨hq0, hA0⟩ := bif_s h
    obtain ⟨e0, hq1⟩ := beq_and hq0
    subst e0
    obtain ⟨r, hr, hk⟩ := Option.bind_eq_some_iff.mp hA0
    exact ca_of (q := (dcI L) r) (by decide) rfl (Nat.le_of_ble_eq_true rfl) hk (fun _ => rfl) (fun e => by cases e) (exs (sp := []) (K := k0) (L0 := L) (σ0 := σ) ok_X11_stands rt_X11_stands (by omega) (hc_X11_stands G l hd) (hrI rfl) hk0 22 hr (inv0 hW hok))
  · cases h
def tt_X11_tell (pc : Nat) : TI := bif Nat.blt pc 29 then (bif Nat.blt pc 14 then (bif Nat.blt pc 7 then (bif Nat.blt pc 1 then (bif Nat.beq pc 0 then (.aload_n 0, 1, (0, 0, 0), 0, 0, []) else TN) else (bif Nat.blt pc 4 then (bif Nat.beq pc 1 then (.getfield 73, 4, (11, 12, 0), 0, 0, []) else TN) else (bif Nat.beq pc 4 then (.getfield 395, 7, (6, 3, 1), 0, 0, []) else TN))) else (bif Nat.blt pc 9 then (bif Nat.beq pc 7 then (.bipush 30, 9, (0, 0, 0), 30, 0, []) else TN) else (bif Nat.blt pc 12 then (bif Nat.beq pc 9 then (.if_icmp .lt 6, 12, (15, 0, 0), 0, 0, []) else TN) else (bif Nat.beq pc 12 then (.ldc 96, 14, (0, 0, 0), -1000000003, 0, []) else TN)))) else (bif Nat.blt pc 19 then (bif Nat.blt pc 15 then (bif Nat.beq pc 14 then (.ireturn, 15, (0, 0, 0), 0, 0, []) else TN) else (bif Nat.blt pc 16 then (bif Nat.beq pc 15 then (.aload_n 0, 16, (0, 0, 0), 0, 0, []) else TN) else (bif Nat.beq pc 16 then (.getfield 73, 19, (11, 12, 0), 0, 0, []) else TN))) else (bif Nat.blt pc 23 then (bif Nat.blt pc 22 then (bif Nat.beq pc 19 then (.getfield 398, 22, (6, 2, 1), 0, 0, []) else TN) else (bif Nat.beq pc 22 then (.aload_n 0, 23, (0, 0, 0), 0, 0, []) else TN)) else (bif Nat.blt pc 26 then (bif Nat.beq pc 23 then (.getfield 73, 26, (11, 12, 0), 0, 0, []) else TN) else (bif Nat.beq pc 26 then (.getfield 395, 29, (6, 3, 1), 0, 0, []) else TN))))) else (bif Nat.blt pc 39 then (bif Nat.blt pc 32 then (bif Nat.blt pc 30 then (bif Nat.beq pc 29 then (.iload_n 1, 30, (1, 0, 0), 0, 0, []) else TN) else (bif Nat.blt pc 31 then (bif Nat.beq pc 30 then (.iastore, 31, (0, 0, 0), 0, 0, []) else TN) else (bif Nat.beq pc 31 then (.aload_n 0, 32, (0, 0, 0), 0, 0, []) else TN))) else (bif Nat.blt pc 35 then (bif Nat.beq pc 32 then (.getfield 73, 35, (11, 12, 0), 0, 0, []) else TN) else (bif Nat.blt pc 36 then (bif Nat.beq pc 35 then (.dup, 36, (0, 0, 0), 0, 0, []) else TN) else (bif Nat.beq pc 36 then (.getfield 395, 39, (6, 3, 1), 0, 0, []) else TN)))) else (bif Nat.blt pc 44 then (bif Nat.blt pc 40 then (bif Nat.beq pc 39 then (.iconst 1, 40, (0, 0, 0), 1, 0, []) else TN) else (bif Nat.blt pc 41 then (bif Nat.beq pc 40 then (.iadd, 41, (0, 0, 0), 0, 0, []) else TN) else (bif Nat.beq pc 41 then (.putfield 395, 44, (6, 3, 1), 0, 0, []) else TN))) else (bif Nat.blt pc 48 then (bif Nat.blt pc 45 then (bif Nat.beq pc 44 then (.aload_n 0, 45, (0, 0, 0), 0, 0, []) else TN) else (bif Nat.beq pc 45 then (.getfield 73, 48, (11, 12, 0), 0, 0, []) else TN)) else (bif Nat.blt pc 51 then (bif Nat.beq pc 48 then (.getfield 395, 51, (6, 3, 1), 0, 0, []) else TN) else (bif Nat.beq pc 51 then (.ireturn, 52, (0, 0, 0), 0, 0, []) else TN)))))
def tb_X11_tell (pc : Nat) : TI := bif Nat.ble 52 pc then TN else tt_X11_tell pc
theorem ok_X11_tell : tOK 11 (decide ("tell" = "<init>")) cX11_tell tb_X11_tell := tOK_of 52 tn_of (by decide +kernel)
def f_X11_tell (L : Lay) (σ : Sto) (a0 : Nat) (a1 : Int32) : Option (Int32 × Sto) := (σ.2.1 a0 12).bind fun x1 => (if (σ.1 x1 3) < 30 then (σ.2.1 a0 12).bind fun x2 => (σ.2.1 a0 12).bind fun x3 => (σ.2.1 x2 2).bind fun x4 => (wI L σ x4 (σ.1 x3 3) a1).bind fun σ5 => (σ5.2.1 a0 12).bind fun x6 => (σ5.2.1 a0 12).bind fun x7 => (putI σ5 x7 3 ((σ5.1 x6 3) + 1)).bind fun σ8 => (σ8.2.1 a0 12).bind fun x9 => some ((σ8.1 x9 3), σ8) else some ((-1000000003), σ))
def ad_X11_tell : ADT := fun O L σ as k => match as with
  | [.inr (.inr (.inl (ta0, some a0))), .inl a1] => bif Nat.beq ta0 11 && true then (f_X11_tell L σ a0 a1).bind fun r => k (some (vI r.1)) L r.2 else none
  | _ => none
abbrev cl_X11_tell {O : Type} : CLT O := cl0
theorem hc_X11_tell (G : GT) (l : Launch) {d : Nat} (hd : 1 ≤ d) {O : Type} : HCL G l (true, false) d (cl_X11_tell (O := O)) := hcl0
theorem rt_X11_tell : retOK (0, 0) (some .int) := ⟨fun _ => rfl, fun h => absurd h (by decide), fun h => absurd h (by decide)⟩
set_option maxRecDepth 20000 in
theorem ca_X11_tell (G : GT) (l : Launch) {d : Nat} (hd : 1 ≤ d) : CA G l 115 (true, false) d ad_X11_tell := by
  intro O L σ as k o h hW hok
  unfold ad_X11_tell at h
  split at h
  · obtain ⟨hq0, hA0⟩ := bif_s h
    obtain ⟨e0, hq1⟩ := beq_and hq0
    subst e0
    obtain ⟨r, hr, hk⟩ := Option.bind_eq_some_iff.mp hA0
    exact ca_of (q := (dcI L) r) (by decide) rfl (Nat.le_of_ble_eq_true rfl) hk (fun _ => rfl) (fun e => by cases e) (exs (sp := []) (K := k0) (L0 := L) (σ0 := σ) ok_X11_tell rt_X11_tell (by omega) (hc_X11_tell G l hd) (hrI rfl) hk0 29 hr (inv0 hW hok))
  · cases h
def tt_X11_told (pc : Nat) : TI := bif Nat.blt pc 57 then (bif Nat.blt pc 13 then (bif Nat.blt pc 5 then (bif Nat.blt pc 1 then (bif Nat.beq pc 0 then (.aload_n 0, 1, (0, 0, 0), 0, 0, []) else TN) else (bif Nat.blt pc 4 then (bif Nat.beq pc 1 then (.getfield 12, 4, (11, 0, 0), 0, 0, []) else TN) else (bif Nat.beq pc 4 then (.iload_n 1, 5, (1, 0, 0), 0, 0, []) else TN))) else (bif Nat.blt pc 9 then (bif Nat.blt pc 8 then (bif Nat.beq pc 5 then (.invokevirtual 134, 8, (53, 1, 10), 0, 0, []) else TN) else (bif Nat.beq pc 8 then (.astore_n 3, 9, (3, 0, 0), 0, 0, []) else TN)) else (bif Nat.blt pc 10 then (bif Nat.beq pc 9 then (.aload_n 3, 10, (3, 0, 0), 0, 0, []) else TN) else (bif Nat.beq pc 10 then (.ifnonnull 6, 13, (16, 0, 0), 0, 0, []) else TN)))) else (bif Nat.blt pc 17 then (bif Nat.blt pc 15 then (bif Nat.beq pc 13 then (.ldc 91, 15, (0, 0, 0), -1000000001, 0, []) else TN) else (bif Nat.blt pc 16 then (bif Nat.beq pc 15 then (.ireturn, 16, (0, 0, 0), 0, 0, []) else TN) else (bif Nat.beq pc 16 then (.iload_n 2, 17, (2, 0, 0), 0, 0, []) else TN))) else (bif Nat.blt pc 53 then (bif Nat.blt pc 52 then (bif Nat.beq pc 17 then (.tableswitch 63 0 4 #[35, 40, 45, 50, 55], 52, (80, 0, 0), 0, 0, [(0, 52), (1, 57), (2, 62), (3, 67), (4, 72)]) else TN) else (bif Nat.beq pc 52 then (.aload_n 3, 53, (3, 0, 0), 0, 0, []) else TN)) else (bif Nat.blt pc 56 then (bif Nat.beq pc 53 then (.getfield 156, 56, (2, 0, 1), 0, 0, []) else TN) else (bif Nat.beq pc 56 then (.ireturn, 57, (0, 0, 0), 0, 0, []) else TN))))) else (bif Nat.blt pc 68 then (bif Nat.blt pc 62 then (bif Nat.blt pc 58 then (bif Nat.beq pc 57 then (.aload_n 3, 58, (3, 0, 0), 0, 0, []) else TN) else (bif Nat.blt pc 61 then (bif Nat.beq pc 58 then (.getfield 159, 61, (2, 1, 1), 0, 0, []) else TN) else (bif Nat.beq pc 61 then (.ireturn, 62, (0, 0, 0), 0, 0, []) else TN))) else (bif Nat.blt pc 66 then (bif Nat.blt pc 63 then (bif Nat.beq pc 62 then (.aload_n 3, 63, (3, 0, 0), 0, 0, []) else TN) else (bif Nat.beq pc 63 then (.getfield 162, 66, (2, 2, 1), 0, 0, []) else TN)) else (bif Nat.blt pc 67 then (bif Nat.beq pc 66 then (.ireturn, 67, (0, 0, 0), 0, 0, []) else TN) else (bif Nat.beq pc 67 then (.aload_n 3, 68, (3, 0, 0), 0, 0, []) else TN)))) else (bif Nat.blt pc 76 then (bif Nat.blt pc 72 then (bif Nat.blt pc 71 then (bif Nat.beq pc 68 then (.getfield 165, 71, (2, 3, 1), 0, 0, []) else TN) else (bif Nat.beq pc 71 then (.ireturn, 72, (0, 0, 0), 0, 0, []) else TN)) else (bif Nat.blt pc 73 then (bif Nat.beq pc 72 then (.aload_n 3, 73, (3, 0, 0), 0, 0, []) else TN) else (bif Nat.beq pc 73 then (.getfield 150, 76, (2, 4, 1), 0, 0, []) else TN))) else (bif Nat.blt pc 80 then (bif Nat.blt pc 79 then (bif Nat.beq pc 76 then (.invokestatic 168, 79, (69, 1, 0), 0, 0, []) else TN) else (bif Nat.beq pc 79 then (.ireturn, 80, (0, 0, 0), 0, 0, []) else TN)) else (bif Nat.blt pc 82 then (bif Nat.beq pc 80 then (.ldc 91, 82, (0, 0, 0), -1000000001, 0, []) else TN) else (bif Nat.beq pc 82 then (.ireturn, 83, (0, 0, 0), 0, 0, []) else TN)))))
def tb_X11_told (pc : Nat) : TI := bif Nat.ble 83 pc then TN else tt_X11_told pc
theorem ok_X11_told : tOK 11 (decide ("told" = "<init>")) cX11_told tb_X11_told := tOK_of 83 tn_of (by decide +kernel)
def f_X11_told (L : Lay) (σ : Sto) (a0 : Nat) (a1 : Int32) (a2 : Int32) : Option Int32 := (σ.2.1 a0 0).bind fun x1 => (f_X10_memberAt L σ x1 a1).bind fun o2 => (Option.elim o2 (some (-1000000001)) (fun _ => (if a2 = 0 then o2.bind fun x8 => some (σ.1 x8 0) else (if a2 = 1 then o2.bind fun x7 => some (σ.1 x7 1) else (if a2 = 2 then o2.bind fun x6 => some (σ.1 x6 2) else (if a2 = 3 then o2.bind fun x5 => some (σ.1 x5 3) else (if a2 = 4 then o2.bind fun x3 => (f_X11_dayOrNone L σ (σ.1 x3 4)).bind fun r4 => some r4 else some (-1000000001))))))))
def ad_X11_told : ADT := fun O L σ as k => match as with
  | [.inr (.inr (.inl (ta0, some a0))), .inl a1, .inl a2] => bif Nat.beq ta0 11 && true then (f_X11_told L σ a0 a1 a2).bind fun r => k (some (vI r)) L σ else none
  | _ => none
abbrev cl_X11_told {O : Type} : CLT O := (clc 53 ad_X10_memberAt (clc 69 ad_X11_dayOrNone cl0))
theorem hc_X11_told (G : GT) (l : Launch) {d : Nat} (hd : 3 ≤ d) {O : Type} : HCL G l (true, true) d (cl_X11_told (O := O)) := (hclc (ca_X10_memberAt G l (d := 2) (Nat.le_refl _)) (fun _ => rfl) (fun _ => rfl) (by omega) (hclc (ca_X11_dayOrNone G l (d := 1) (Nat.le_refl _)) (fun _ => rfl) (fun _ => rfl) (by omega) hcl0))
theorem rt_X11_told : retOK (0, 0) (some .int) := ⟨fun _ => rfl, fun h => absurd h (by decide), fun h => absurd h (by decide)⟩
set_option maxRecDepth 20000 in
theorem ca_X11_told (G : GT) (l : Launch) {d : Nat} (hd : 3 ≤ d) : CA G l 116 (true, true) d ad_X11_told := by
  intro O L σ as k o h hW hok
  unfold ad_X11_told at h
  split at h
  · obtain ⟨hq0, hA0⟩ := bif_s h
    obtain ⟨e0, hq1⟩ := beq_and hq0
    subst e0
    obtain ⟨r, hr, hk⟩ := Option.bind_eq_some_iff.mp hA0
    exact ca_of (q := (dcPI L σ) r) (by decide) rfl (Nat.le_of_ble_eq_true rfl) hk (fun _ => rfl) (fun _ => rfl) (exs (sp := []) (K := k0) (L0 := L) (σ0 := σ) ok_X11_told rt_X11_told (by omega) (hc_X11_told G l hd) (hrPI rfl rfl) hk0 32 hr (inv0 hW hok))
  · cases h
def tt_X11_trim (pc : Nat) : TI := bif Nat.blt pc 15 then (bif Nat.blt pc 3 then (bif Nat.blt pc 1 then (bif Nat.beq pc 0 then (.iload_n 1, 1, (1, 0, 0), 0, 0, []) else TN) else (bif Nat.blt pc 2 then (bif Nat.beq pc 1 then (.iconst 0, 2, (0, 0, 0), 0, 0, []) else TN) else (bif Nat.beq pc 2 then (.aload_n 0, 3, (0, 0, 0), 0, 0, []) else TN))) else (bif Nat.blt pc 9 then (bif Nat.blt pc 6 then (bif Nat.beq pc 3 then (.getfield 41, 6, (11, 5, 0), 0, 0, []) else TN) else (bif Nat.beq pc 6 then (.getfield 296, 9, (9, 1, 1), 0, 0, []) else TN)) else (bif Nat.blt pc 12 then (bif Nat.beq pc 9 then (.invokestatic 115, 12, (83, 3, 0), 0, 0, []) else TN) else (bif Nat.beq pc 12 then (.ifCond .ne 6, 15, (18, 0, 0), 0, 0, []) else TN)))) else (bif Nat.blt pc 22 then (bif Nat.blt pc 18 then (bif Nat.blt pc 17 then (bif Nat.beq pc 15 then (.ldc 91, 17, (0, 0, 0), -1000000001, 0, []) else TN) else (bif Nat.beq pc 17 then (.ireturn, 18, (0, 0, 0), 0, 0, []) else TN)) else (bif Nat.blt pc 19 then (bif Nat.beq pc 18 then (.aload_n 0, 19, (0, 0, 0), 0, 0, []) else TN) else (bif Nat.beq pc 19 then (.getfield 41, 22, (11, 5, 0), 0, 0, []) else TN))) else (bif Nat.blt pc 26 then (bif Nat.blt pc 23 then (bif Nat.beq pc 22 then (.iload_n 1, 23, (1, 0, 0), 0, 0, []) else TN) else (bif Nat.beq pc 23 then (.putfield 296, 26, (9, 1, 1), 0, 0, []) else TN)) else (bif Nat.blt pc 27 then (bif Nat.beq pc 26 then (.iload_n 1, 27, (1, 0, 0), 0, 0, []) else TN) else (bif Nat.beq pc 27 then (.ireturn, 28, (0, 0, 0), 0, 0, []) else TN))))
def tb_X11_trim (pc : Nat) : TI := bif Nat.ble 28 pc then TN else tt_X11_trim pc
theorem ok_X11_trim : tOK 11 (decide ("trim" = "<init>")) cX11_trim tb_X11_trim := tOK_of 28 tn_of (by decide +kernel)
def f_X11_trim (L : Lay) (σ : Sto) (a0 : Nat) (a1 : Int32) : Option (Int32 × Sto) := (σ.2.1 a0 5).bind fun x1 => (f_X11_isWithin L σ a1 0 (σ.1 x1 1)).bind fun r2 => (if r2 = 0 then some ((-1000000001), σ) else (σ.2.1 a0 5).bind fun x3 => (putI σ x3 1 a1).bind fun σ4 => some (a1, σ4))
def ad_X11_trim : ADT := fun O L σ as k => match as with
  | [.inr (.inr (.inl (ta0, some a0))), .inl a1] => bif Nat.beq ta0 11 && true then (f_X11_trim L σ a0 a1).bind fun r => k (some (vI r.1)) L r.2 else none
  | _ => none
abbrev cl_X11_trim {O : Type} : CLT O := (clc 83 ad_X11_isWithin cl0)
theorem hc_X11_trim (G : GT) (l : Launch) {d : Nat} (hd : 2 ≤ d) {O : Type} : HCL G l (true, false) d (cl_X11_trim (O := O)) := (hclc (ca_X11_isWithin G l (d := 1) (Nat.le_refl _)) (fun _ => rfl) (fun e => by cases e) (by omega) hcl0)
theorem rt_X11_trim : retOK (0, 0) (some .int) := ⟨fun _ => rfl, fun h => absurd h (by decide), fun h => absurd h (by decide)⟩
set_option maxRecDepth 20000 in
theorem ca_X11_trim (G : GT) (l : Launch) {d : Nat} (hd : 2 ≤ d) : CA G l 117 (true, false) d ad_X11_trim := by
  intro O L σ as k o h hW hok
  unfold ad_X11_trim at h
  split at h
  · obtain ⟨hq0, hA0⟩ := bif_s h
    obtain ⟨e0, hq1⟩ := beq_and hq0
    subst e0
    obtain ⟨r, hr, hk⟩ := Option.bind_eq_some_iff.mp hA0
    exact ca_of (q := (dcI L) r) (by decide) rfl (Nat.le_of_ble_eq_true rfl) hk (fun _ => rfl) (fun e => by cases e) (exs (sp := []) (K := k0) (L0 := L) (σ0 := σ) ok_X11_trim rt_X11_trim (by omega) (hc_X11_trim G l hd) (hrI rfl) hk0 18 hr (inv0 hW hok))
  · cases h
def tt_X11_wipe (pc : Nat) : TI := bif Nat.blt pc 9 then (bif Nat.blt pc 4 then (bif Nat.blt pc 1 then (bif Nat.beq pc 0 then (.aload_n 0, 1, (0, 0, 0), 0, 0, []) else TN) else (bif Nat.beq pc 1 then (.getfield 21, 4, (11, 1, 0), 0, 0, []) else TN)) else (bif Nat.blt pc 7 then (bif Nat.beq pc 4 then (.getfield 190, 7, (7, 3, 1), 0, 0, []) else TN) else (bif Nat.blt pc 8 then (bif Nat.beq pc 7 then (.istore_n 1, 8, (1, 0, 0), 0, 0, []) else TN) else (bif Nat.beq pc 8 then (.aload_n 0, 9, (0, 0, 0), 0, 0, []) else TN)))) else (bif Nat.blt pc 13 then (bif Nat.blt pc 12 then (bif Nat.beq pc 9 then (.getfield 21, 12, (11, 1, 0), 0, 0, []) else TN) else (bif Nat.beq pc 12 then (.iconst 0, 13, (0, 0, 0), 0, 0, []) else TN)) else (bif Nat.blt pc 16 then (bif Nat.beq pc 13 then (.putfield 190, 16, (7, 3, 1), 0, 0, []) else TN) else (bif Nat.blt pc 17 then (bif Nat.beq pc 16 then (.iload_n 1, 17, (1, 0, 0), 0, 0, []) else TN) else (bif Nat.beq pc 17 then (.ireturn, 18, (0, 0, 0), 0, 0, []) else TN))))
def tb_X11_wipe (pc : Nat) : TI := bif Nat.ble 18 pc then TN else tt_X11_wipe pc
theorem ok_X11_wipe : tOK 11 (decide ("wipe" = "<init>")) cX11_wipe tb_X11_wipe := tOK_of 18 tn_of (by decide +kernel)
def f_X11_wipe (L : Lay) (σ : Sto) (a0 : Nat) : Option (Int32 × Sto) := (σ.2.1 a0 1).bind fun x1 => (σ.2.1 a0 1).bind fun x2 => (putI σ x2 3 0).bind fun σ3 => some ((σ.1 x1 3), σ3)
def ad_X11_wipe : ADT := fun O L σ as k => match as with
  | [.inr (.inr (.inl (ta0, some a0)))] => bif Nat.beq ta0 11 && true then (f_X11_wipe L σ a0).bind fun r => k (some (vI r.1)) L r.2 else none
  | _ => none
abbrev cl_X11_wipe {O : Type} : CLT O := cl0
theorem hc_X11_wipe (G : GT) (l : Launch) {d : Nat} (hd : 1 ≤ d) {O : Type} : HCL G l (true, false) d (cl_X11_wipe (O := O)) := hcl0
theorem rt_X11_wipe : retOK (0, 0) (some .int) := ⟨fun _ => rfl, fun h => absurd h (by decide), fun h => absurd h (by decide)⟩
set_option maxRecDepth 20000 in
theorem ca_X11_wipe (G : GT) (l : Launch) {d : Nat} (hd : 1 ≤ d) : CA G l 118 (true, false) d ad_X11_wipe := by
  intro O L σ as k o h hW hok
  unfold ad_X11_wipe at h
  split at h
  · obtain ⟨hq0, hA0⟩ := bif_s h
    obtain ⟨e0, hq1⟩ := beq_and hq0
    subst e0
    obtain ⟨r, hr, hk⟩ := Option.bind_eq_some_iff.mp hA0
    exact ca_of (q := (dcI L) r) (by decide) rfl (Nat.le_of_ble_eq_true rfl) hk (fun _ => rfl) (fun e => by cases e) (exs (sp := []) (K := k0) (L0 := L) (σ0 := σ) ok_X11_wipe rt_X11_wipe (by omega) (hc_X11_wipe G l hd) (hrI rfl) hk0 13 hr (inv0 hW hok))
  · cases h
def tt_X12_in (pc : Nat) : TI := bif Nat.blt pc 7 then (bif Nat.blt pc 2 then (bif Nat.blt pc 1 then (bif Nat.beq pc 0 then (.iload_n 0, 1, (0, 0, 0), 0, 0, []) else TN) else (bif Nat.beq pc 1 then (.iload_n 1, 2, (1, 0, 0), 0, 0, []) else TN)) else (bif Nat.blt pc 5 then (bif Nat.beq pc 2 then (.if_icmp .lt 12, 5, (14, 0, 0), 0, 0, []) else TN) else (bif Nat.blt pc 6 then (bif Nat.beq pc 5 then (.iload_n 0, 6, (0, 0, 0), 0, 0, []) else TN) else (bif Nat.beq pc 6 then (.iload_n 2, 7, (2, 0, 0), 0, 0, []) else TN)))) else (bif Nat.blt pc 11 then (bif Nat.blt pc 10 then (bif Nat.beq pc 7 then (.if_icmp .gt 7, 10, (14, 0, 0), 0, 0, []) else TN) else (bif Nat.beq pc 10 then (.iconst 1, 11, (0, 0, 0), 1, 0, []) else TN)) else (bif Nat.blt pc 14 then (bif Nat.beq pc 11 then (.goto 4, 14, (15, 0, 0), 0, 0, []) else TN) else (bif Nat.blt pc 15 then (bif Nat.beq pc 14 then (.iconst 0, 15, (0, 0, 0), 0, 0, []) else TN) else (bif Nat.beq pc 15 then (.ireturn, 16, (0, 0, 0), 0, 0, []) else TN))))
def tb_X12_in (pc : Nat) : TI := bif Nat.ble 16 pc then TN else tt_X12_in pc
theorem ok_X12_in : tOK 12 (decide ("in" = "<init>")) cX12_in tb_X12_in := tOK_of 16 tn_of (by decide +kernel)
def f_X12_in (L : Lay) (σ : Sto) (a0 : Int32) (a1 : Int32) (a2 : Int32) : Option Int32 := (if a0 < a1 then (ckN 1 0).bind fun _ => some 0 else (if a2 < a0 then (ckN 1 0).bind fun _ => some 0 else (ckN 1 1).bind fun _ => some 1))
def ad_X12_in : ADT := fun O L σ as k => match as with
  | [.inl a0, .inl a1, .inl a2] => (f_X12_in L σ a0 a1 a2).bind fun r => k (some (vI r)) L σ
  | _ => none
abbrev cl_X12_in {O : Type} : CLT O := cl0
theorem hc_X12_in (G : GT) (l : Launch) {d : Nat} (hd : 1 ≤ d) {O : Type} : HCL G l (true, true) d (cl_X12_in (O := O)) := hcl0
theorem rt_X12_in : retOK (1, 0) (some .boolean) := ⟨fun _ => rfl, fun h => absurd h (by decide), fun h => absurd h (by decide)⟩
set_option maxRecDepth 20000 in
theorem ca_X12_in (G : GT) (l : Launch) {d : Nat} (hd : 1 ≤ d) : CA G l 147 (true, true) d ad_X12_in := by
  intro O L σ as k o h hW hok
  unfold ad_X12_in at h
  split at h
  · have hA0 := h
    obtain ⟨r, hr, hk⟩ := Option.bind_eq_some_iff.mp hA0
    exact ca_of (q := (dcPI L σ) r) (by decide) rfl (Nat.le_of_ble_eq_true rfl) hk (fun _ => rfl) (fun _ => rfl) (exs (sp := []) (K := k0) (L0 := L) (σ0 := σ) ok_X12_in rt_X12_in (by omega) (hc_X12_in G l hd) (hrPI rfl rfl) hk0 13 hr (inv0 hW hok))
  · cases h
def tt_X12_isBallot (pc : Nat) : TI := bif Nat.blt pc 6 then (bif Nat.blt pc 2 then (bif Nat.blt pc 1 then (bif Nat.beq pc 0 then (.iload_n 1, 1, (1, 0, 0), 0, 0, []) else TN) else (bif Nat.beq pc 1 then (.iconst 0, 2, (0, 0, 0), 0, 0, []) else TN)) else (bif Nat.blt pc 3 then (bif Nat.beq pc 2 then (.aload_n 0, 3, (0, 0, 0), 0, 0, []) else TN) else (bif Nat.beq pc 3 then (.getfield 153, 6, (12, 16, 0), 0, 0, []) else TN))) else (bif Nat.blt pc 8 then (bif Nat.blt pc 7 then (bif Nat.beq pc 6 then (.iconst 1, 7, (0, 0, 0), 1, 0, []) else TN) else (bif Nat.beq pc 7 then (.isub, 8, (0, 0, 0), 0, 0, []) else TN)) else (bif Nat.blt pc 11 then (bif Nat.beq pc 8 then (.invokestatic 146, 11, (147, 3, 0), 0, 0, []) else TN) else (bif Nat.beq pc 11 then (.ireturn, 12, (0, 0, 0), 0, 0, []) else TN)))
def tb_X12_isBallot (pc : Nat) : TI := bif Nat.ble 12 pc then TN else tt_X12_isBallot pc
theorem ok_X12_isBallot : tOK 12 (decide ("isBallot" = "<init>")) cX12_isBallot tb_X12_isBallot := tOK_of 12 tn_of (by decide +kernel)
def f_X12_isBallot (L : Lay) (σ : Sto) (a0 : Nat) (a1 : Int32) : Option Int32 := (f_X12_in L σ a1 0 ((σ.1 a0 16) - 1)).bind fun r1 => (ckN 1 r1).bind fun _ => some r1
def ad_X12_isBallot : ADT := fun O L σ as k => match as with
  | [.inr (.inr (.inl (ta0, some a0))), .inl a1] => bif Nat.beq ta0 12 && true then (f_X12_isBallot L σ a0 a1).bind fun r => k (some (vI r)) L σ else none
  | _ => none
abbrev cl_X12_isBallot {O : Type} : CLT O := (clc 147 ad_X12_in cl0)
theorem hc_X12_isBallot (G : GT) (l : Launch) {d : Nat} (hd : 2 ≤ d) {O : Type} : HCL G l (true, true) d (cl_X12_isBallot (O := O)) := (hclc (ca_X12_in G l (d := 1) (Nat.le_refl _)) (fun _ => rfl) (fun _ => rfl) (by omega) hcl0)
theorem rt_X12_isBallot : retOK (1, 0) (some .boolean) := ⟨fun _ => rfl, fun h => absurd h (by decide), fun h => absurd h (by decide)⟩
set_option maxRecDepth 20000 in
theorem ca_X12_isBallot (G : GT) (l : Launch) {d : Nat} (hd : 2 ≤ d) : CA G l 149 (true, true) d ad_X12_isBallot := by
  intro O L σ as k o h hW hok
  unfold ad_X12_isBallot at h
  split at h
  · obtain ⟨hq0, hA0⟩ := bif_s h
    obtain ⟨e0, hq1⟩ := beq_and hq0
    subst e0
    obtain ⟨r, hr, hk⟩ := Option.bind_eq_some_iff.mp hA0
    exact ca_of (q := (dcPI L σ) r) (by decide) rfl (Nat.le_of_ble_eq_true rfl) hk (fun _ => rfl) (fun _ => rfl) (exs (sp := []) (K := k0) (L0 := L) (σ0 := σ) ok_X12_isBallot rt_X12_isBallot (by omega) (hc_X12_isBallot G l hd) (hrPI rfl rfl) hk0 11 hr (inv0 hW hok))
  · cases h
def tt_X12_about (pc : Nat) : TI := bif Nat.blt pc 52 then (bif Nat.blt pc 40 then (bif Nat.blt pc 8 then (bif Nat.blt pc 2 then (bif Nat.blt pc 1 then (bif Nat.beq pc 0 then (.aload_n 0, 1, (0, 0, 0), 0, 0, []) else TN) else (bif Nat.beq pc 1 then (.iload_n 1, 2, (1, 0, 0), 0, 0, []) else TN)) else (bif Nat.blt pc 5 then (bif Nat.beq pc 2 then (.invokevirtual 205, 5, (149, 1, 12), 0, 0, []) else TN) else (bif Nat.beq pc 5 then (.ifCond .ne 6, 8, (11, 0, 0), 0, 0, []) else TN))) else (bif Nat.blt pc 11 then (bif Nat.blt pc 10 then (bif Nat.beq pc 8 then (.ldc 156, 10, (0, 0, 0), -1000000001, 0, []) else TN) else (bif Nat.beq pc 10 then (.ireturn, 11, (0, 0, 0), 0, 0, []) else TN)) else (bif Nat.blt pc 12 then (bif Nat.beq pc 11 then (.iload_n 2, 12, (2, 0, 0), 0, 0, []) else TN) else (bif Nat.beq pc 12 then (.tableswitch 64 0 2 #[28, 35, 42], 40, (76, 0, 0), 0, 0, [(0, 40), (1, 47), (2, 54)]) else TN)))) else (bif Nat.blt pc 46 then (bif Nat.blt pc 44 then (bif Nat.blt pc 41 then (bif Nat.beq pc 40 then (.aload_n 0, 41, (0, 0, 0), 0, 0, []) else TN) else (bif Nat.beq pc 41 then (.getfield 43, 44, (12, 17, 0), 0, 0, []) else TN)) else (bif Nat.blt pc 45 then (bif Nat.beq pc 44 then (.iload_n 1, 45, (1, 0, 0), 0, 0, []) else TN) else (bif Nat.beq pc 45 then (.iaload, 46, (0, 0, 0), 0, 0, []) else TN))) else (bif Nat.blt pc 48 then (bif Nat.blt pc 47 then (bif Nat.beq pc 46 then (.ireturn, 47, (0, 0, 0), 0, 0, []) else TN) else (bif Nat.beq pc 47 then (.aload_n 0, 48, (0, 0, 0), 0, 0, []) else TN)) else (bif Nat.blt pc 51 then (bif Nat.beq pc 48 then (.getfield 46, 51, (12, 18, 0), 0, 0, []) else TN) else (bif Nat.beq pc 51 then (.iload_n 1, 52, (1, 0, 0), 0, 0, []) else TN))))) else (bif Nat.blt pc 64 then (bif Nat.blt pc 58 then (bif Nat.blt pc 54 then (bif Nat.blt pc 53 then (bif Nat.beq pc 52 then (.iaload, 53, (0, 0, 0), 0, 0, []) else TN) else (bif Nat.beq pc 53 then (.ireturn, 54, (0, 0, 0), 0, 0, []) else TN)) else (bif Nat.blt pc 55 then (bif Nat.beq pc 54 then (.aload_n 0, 55, (0, 0, 0), 0, 0, []) else TN) else (bif Nat.beq pc 55 then (.getfield 49, 58, (12, 19, 0), 0, 0, []) else TN))) else (bif Nat.blt pc 60 then (bif Nat.blt pc 59 then (bif Nat.beq pc 58 then (.iload_n 1, 59, (1, 0, 0), 0, 0, []) else TN) else (bif Nat.beq pc 59 then (.iaload, 60, (0, 0, 0), 0, 0, []) else TN)) else (bif Nat.blt pc 61 then (bif Nat.beq pc 60 then (.iconst (-1), 61, (0, 0, 0), -1, 0, []) else TN) else (bif Nat.beq pc 61 then (.if_icmp .ne 8, 64, (69, 0, 0), 0, 0, []) else TN)))) else (bif Nat.blt pc 73 then (bif Nat.blt pc 69 then (bif Nat.blt pc 66 then (bif Nat.beq pc 64 then (.ldc 177, 66, (0, 0, 0), -1000000005, 0, []) else TN) else (bif Nat.beq pc 66 then (.goto 9, 69, (75, 0, 0), 0, 0, []) else TN)) else (bif Nat.blt pc 70 then (bif Nat.beq pc 69 then (.aload_n 0, 70, (0, 0, 0), 0, 0, []) else TN) else (bif Nat.beq pc 70 then (.getfield 49, 73, (12, 19, 0), 0, 0, []) else TN))) else (bif Nat.blt pc 75 then (bif Nat.blt pc 74 then (bif Nat.beq pc 73 then (.iload_n 1, 74, (1, 0, 0), 0, 0, []) else TN) else (bif Nat.beq pc 74 then (.iaload, 75, (0, 0, 0), 0, 0, []) else TN)) else (bif Nat.blt pc 76 then (bif Nat.beq pc 75 then (.ireturn, 76, (0, 0, 0), 0, 0, []) else TN) else (bif Nat.blt pc 78 then (bif Nat.beq pc 76 then (.ldc 156, 78, (0, 0, 0), -1000000001, 0, []) else TN) else (bif Nat.beq pc 78 then (.ireturn, 79, (0, 0, 0), 0, 0, []) else TN))))))
def tb_X12_about (pc : Nat) : TI := bif Nat.ble 79 pc then TN else tt_X12_about pc
theorem ok_X12_about : tOK 12 (decide ("about" = "<init>")) cX12_about tb_X12_about := tOK_of 79 tn_of (by decide +kernel)
def f_X12_about (L : Lay) (σ : Sto) (a0 : Nat) (a1 : Int32) (a2 : Int32) : Option Int32 := (f_X12_isBallot L σ a0 a1).bind fun r1 => (if r1 = 0 then some (-1000000001) else (if a2 = 0 then (σ.2.1 a0 17).bind fun x8 => (rI L σ x8 a1).bind fun v9 => some v9 else (if a2 = 1 then (σ.2.1 a0 18).bind fun x6 => (rI L σ x6 a1).bind fun v7 => some v7 else (if a2 = 2 then (σ.2.1 a0 19).bind fun x2 => (rI L σ x2 a1).bind fun v3 => (if v3 = (-1) then some (-1000000005) else (σ.2.1 a0 19).bind fun x4 => (rI L σ x4 a1).bind fun v5 => some v5) else some (-1000000001)))))
def ad_X12_about : ADT := fun O L σ as k => match as with
  | [.inr (.inr (.inl (ta0, some a0))), .inl a1, .inl a2] => bif Nat.beq ta0 12 && true then (f_X12_about L σ a0 a1 a2).bind fun r => k (some (vI r)) L σ else none
  | _ => none
abbrev cl_X12_about {O : Type} : CLT O := (clc 149 ad_X12_isBallot cl0)
theorem hc_X12_about (G : GT) (l : Launch) {d : Nat} (hd : 3 ≤ d) {O : Type} : HCL G l (true, true) d (cl_X12_about (O := O)) := (hclc (ca_X12_isBallot G l (d := 2) (Nat.le_refl _)) (fun _ => rfl) (fun _ => rfl) (by omega) hcl0)
theorem rt_X12_about : retOK (0, 0) (some .int) := ⟨fun _ => rfl, fun h => absurd h (by decide), fun h => absurd h (by decide)⟩
set_option maxRecDepth 20000 in
theorem ca_X12_about (G : GT) (l : Launch) {d : Nat} (hd : 3 ≤ d) : CA G l 119 (true, true) d ad_X12_about := by
  intro O L σ as k o h hW hok
  unfold ad_X12_about at h
  split at h
  · obtain ⟨hq0, hA0⟩ := bif_s h
    obtain ⟨e0, hq1⟩ := beq_and hq0
    subst e0
    obtain ⟨r, hr, hk⟩ := Option.bind_eq_some_iff.mp hA0
    exact ca_of (q := (dcPI L σ) r) (by decide) rfl (Nat.le_of_ble_eq_true rfl) hk (fun _ => rfl) (fun _ => rfl) (exs (sp := []) (K := k0) (L0 := L) (σ0 := σ) ok_X12_about rt_X12_about (by omega) (hc_X12_about G l hd) (hrPI rfl rfl) hk0 36 hr (inv0 hW hok))
  · cases h
def tt_X12_ofOn (pc : Nat) : TI := bif Nat.blt pc 40 then (bif Nat.blt pc 20 then (bif Nat.blt pc 10 then (bif Nat.blt pc 5 then (bif Nat.blt pc 1 then (bif Nat.beq pc 0 then (.aload_n 0, 1, (0, 0, 0), 0, 0, []) else TN) else (bif Nat.blt pc 4 then (bif Nat.beq pc 1 then (.getfield 25, 4, (12, 9, 0), 0, 0, []) else TN) else (bif Nat.beq pc 4 then (.iload_n 1, 5, (1, 0, 0), 0, 0, []) else TN))) else (bif Nat.blt pc 6 then (bif Nat.beq pc 5 then (.iaload, 6, (0, 0, 0), 0, 0, []) else TN) else (bif Nat.blt pc 7 then (bif Nat.beq pc 6 then (.iconst (-1), 7, (0, 0, 0), -1, 0, []) else TN) else (bif Nat.beq pc 7 then (.if_icmp .eq 16, 10, (23, 0, 0), 0, 0, []) else TN)))) else (bif Nat.blt pc 15 then (bif Nat.blt pc 11 then (bif Nat.beq pc 10 then (.aload_n 0, 11, (0, 0, 0), 0, 0, []) else TN) else (bif Nat.blt pc 14 then (bif Nat.beq pc 11 then (.getfield 25, 14, (12, 9, 0), 0, 0, []) else TN) else (bif Nat.beq pc 14 then (.iload_n 1, 15, (1, 0, 0), 0, 0, []) else TN))) else (bif Nat.blt pc 16 then (bif Nat.beq pc 15 then (.iaload, 16, (0, 0, 0), 0, 0, []) else TN) else (bif Nat.blt pc 17 then (bif Nat.beq pc 16 then (.iload_n 2, 17, (2, 0, 0), 0, 0, []) else TN) else (bif Nat.beq pc 17 then (.if_icmp .gt 6, 20, (23, 0, 0), 0, 0, []) else TN))))) else (bif Nat.blt pc 29 then (bif Nat.blt pc 25 then (bif Nat.blt pc 22 then (bif Nat.beq pc 20 then (.ldc 177, 22, (0, 0, 0), -1000000005, 0, []) else TN) else (bif Nat.blt pc 23 then (bif Nat.beq pc 22 then (.ireturn, 23, (0, 0, 0), 0, 0, []) else TN) else (bif Nat.beq pc 23 then (.ldc 177, 25, (0, 0, 0), -1000000005, 0, []) else TN))) else (bif Nat.blt pc 26 then (bif Nat.beq pc 25 then (.istore_n 3, 26, (3, 0, 0), 0, 0, []) else TN) else (bif Nat.blt pc 27 then (bif Nat.beq pc 26 then (.iconst 0, 27, (0, 0, 0), 0, 0, []) else TN) else (bif Nat.beq pc 27 then (.istore 4, 29, (4, 0, 0), 0, 0, []) else TN)))) else (bif Nat.blt pc 35 then (bif Nat.blt pc 31 then (bif Nat.beq pc 29 then (.iload 4, 31, (4, 0, 0), 0, 0, []) else TN) else (bif Nat.blt pc 32 then (bif Nat.beq pc 31 then (.aload_n 0, 32, (0, 0, 0), 0, 0, []) else TN) else (bif Nat.beq pc 32 then (.getfield 28, 35, (12, 10, 0), 0, 0, []) else TN))) else (bif Nat.blt pc 36 then (bif Nat.beq pc 35 then (.iload_n 1, 36, (1, 0, 0), 0, 0, []) else TN) else (bif Nat.blt pc 37 then (bif Nat.beq pc 36 then (.iaload, 37, (0, 0, 0), 0, 0, []) else TN) else (bif Nat.beq pc 37 then (.if_icmp .ge 42, 40, (79, 0, 0), 0, 0, []) else TN)))))) else (bif Nat.blt pc 60 then (bif Nat.blt pc 50 then (bif Nat.blt pc 46 then (bif Nat.blt pc 41 then (bif Nat.beq pc 40 then (.aload_n 0, 41, (0, 0, 0), 0, 0, []) else TN) else (bif Nat.blt pc 44 then (bif Nat.beq pc 41 then (.getfield 34, 44, (12, 12, 0), 0, 0, []) else TN) else (bif Nat.beq pc 44 then (.bipush 7, 46, (0, 0, 0), 7, 0, []) else TN))) else (bif Nat.blt pc 47 then (bif Nat.beq pc 46 then (.iload_n 1, 47, (1, 0, 0), 0, 0, []) else TN) else (bif Nat.blt pc 48 then (bif Nat.beq pc 47 then (.imul, 48, (0, 0, 0), 0, 0, []) else TN) else (bif Nat.beq pc 48 then (.iload 4, 50, (4, 0, 0), 0, 0, []) else TN)))) else (bif Nat.blt pc 53 then (bif Nat.blt pc 51 then (bif Nat.beq pc 50 then (.iadd, 51, (0, 0, 0), 0, 0, []) else TN) else (bif Nat.blt pc 52 then (bif Nat.beq pc 51 then (.iaload, 52, (0, 0, 0), 0, 0, []) else TN) else (bif Nat.beq pc 52 then (.iload_n 2, 53, (2, 0, 0), 0, 0, []) else TN))) else (bif Nat.blt pc 56 then (bif Nat.beq pc 53 then (.if_icmp .gt 18, 56, (71, 0, 0), 0, 0, []) else TN) else (bif Nat.blt pc 57 then (bif Nat.beq pc 56 then (.aload_n 0, 57, (0, 0, 0), 0, 0, []) else TN) else (bif Nat.beq pc 57 then (.getfield 31, 60, (12, 11, 0), 0, 0, []) else TN))))) else (bif Nat.blt pc 68 then (bif Nat.blt pc 64 then (bif Nat.blt pc 62 then (bif Nat.beq pc 60 then (.bipush 7, 62, (0, 0, 0), 7, 0, []) else TN) else (bif Nat.blt pc 63 then (bif Nat.beq pc 62 then (.iload_n 1, 63, (1, 0, 0), 0, 0, []) else TN) else (bif Nat.beq pc 63 then (.imul, 64, (0, 0, 0), 0, 0, []) else TN))) else (bif Nat.blt pc 66 then (bif Nat.beq pc 64 then (.iload 4, 66, (4, 0, 0), 0, 0, []) else TN) else (bif Nat.blt pc 67 then (bif Nat.beq pc 66 then (.iadd, 67, (0, 0, 0), 0, 0, []) else TN) else (bif Nat.beq pc 67 then (.iaload, 68, (0, 0, 0), 0, 0, []) else TN)))) else (bif Nat.blt pc 73 then (bif Nat.blt pc 71 then (bif Nat.beq pc 68 then (.goto 4, 71, (72, 0, 0), 0, 0, []) else TN) else (bif Nat.blt pc 72 then (bif Nat.beq pc 71 then (.iload_n 3, 72, (3, 0, 0), 0, 0, []) else TN) else (bif Nat.beq pc 72 then (.istore_n 3, 73, (3, 0, 0), 0, 0, []) else TN))) else (bif Nat.blt pc 79 then (bif Nat.blt pc 76 then (bif Nat.beq pc 73 then (.iinc 4 1, 76, (4, 0, 0), 1, 0, []) else TN) else (bif Nat.beq pc 76 then (.goto (-47), 79, (29, 0, 0), 0, 0, []) else TN)) else (bif Nat.blt pc 80 then (bif Nat.beq pc 79 then (.iload_n 3, 80, (3, 0, 0), 0, 0, []) else TN) else (bif Nat.beq pc 80 then (.ireturn, 81, (0, 0, 0), 0, 0, []) else TN))))))
def tb_X12_ofOn (pc : Nat) : TI := bif Nat.ble 81 pc then TN else tt_X12_ofOn pc
theorem ok_X12_ofOn : tOK 12 (decide ("ofOn" = "<init>")) cX12_ofOn tb_X12_ofOn := tOK_of 81 tn_of (by decide +kernel)
def f_X12_ofOn_72 (c29 : Lay → Sto → Nat → Int32 → Int32 → Int32 → Int32 → Option Int32) (L : Lay) (σ : Sto) (a0 : Nat) (a1 : Int32) (a2 : Int32) (a4 : Int32) (s0 : Int32) : Option Int32 := c29 L σ a0 a1 a2 s0 (a4 + 1)
def A_X12_ofOn_72 (c : Lay → Sto → Nat → Int32 → Int32 → Int32 → Int32 → Option Int32) (lc : List (Option AV)) (st : List AV) (L : Lay) (σ : Sto) : Option Int32 := match lc, st with
  | [some (.inr (.inr (.inl (ta0, some a0)))), some (.inl a1), some (.inl a2), _, some (.inl a4)], [.inl s0] => bif Nat.beq ta0 12 && true then c L σ a0 a1 a2 a4 s0 else none
  | _, _ => none
def f_X12_ofOn_29 : Nat → Lay → Sto → Nat → Int32 → Int32 → Int32 → Int32 → Option Int32
  | 0 => fun _ _ _ _ _ _ _ => none
  | k + 1 => fun L σ a0 a1 a2 a3 a4 => (σ.2.1 a0 10).bind fun x1 => (rI L σ x1 a1).bind fun v2 => (if v2 ≤ a4 then some a3 else (σ.2.1 a0 12).bind fun x3 => (rI L σ x3 ((7 * a1) + a4)).bind fun v4 => (if a2 < v4 then (f_X12_ofOn_72 (f_X12_ofOn_29 k)) L σ a0 a1 a2 a4 a3 else (σ.2.1 a0 11).bind fun x5 => (rI L σ x5 ((7 * a1) + a4)).bind fun v6 => (f_X12_ofOn_72 (f_X12_ofOn_29 k)) L σ a0 a1 a2 a4 v6))
def A_X12_ofOn_29 (c : Lay → Sto → Nat → Int32 → Int32 → Int32 → Int32 → Option Int32) (lc : List (Option AV)) (st : List AV) (L : Lay) (σ : Sto) : Option Int32 := match lc, st with
  | [some (.inr (.inr (.inl (ta0, some a0)))), some (.inl a1), some (.inl a2), some (.inl a3), some (.inl a4)], [] => bif Nat.beq ta0 12 && true then c L σ a0 a1 a2 a3 a4 else none
  | _, _ => none
def f_X12_ofOn_23 (L : Lay) (σ : Sto) (a0 : Nat) (a1 : Int32) (a2 : Int32) : Option Int32 := (f_X12_ofOn_29 FU) L σ a0 a1 a2 (-1000000005) 0
def A_X12_ofOn_23 (c : Lay → Sto → Nat → Int32 → Int32 → Option Int32) (lc : List (Option AV)) (st : List AV) (L : Lay) (σ : Sto) : Option Int32 := match lc, st with
  | [some (.inr (.inr (.inl (ta0, some a0)))), some (.inl a1), some (.inl a2), _, _], [] => bif Nat.beq ta0 12 && true then c L σ a0 a1 a2 else none
  | _, _ => none
def f_X12_ofOn (L : Lay) (σ : Sto) (a0 : Nat) (a1 : Int32) (a2 : Int32) : Option Int32 := (σ.2.1 a0 9).bind fun x7 => (rI L σ x7 a1).bind fun v8 => (if v8 = (-1) then (f_X12_ofOn_23) L σ a0 a1 a2 else (σ.2.1 a0 9).bind fun x9 => (rI L σ x9 a1).bind fun v10 => (if a2 < v10 then (f_X12_ofOn_23) L σ a0 a1 a2 else some (-1000000005)))
def ad_X12_ofOn : ADT := fun O L σ as k => match as with
  | [.inr (.inr (.inl (ta0, some a0))), .inl a1, .inl a2] => bif Nat.beq ta0 12 && true then (f_X12_ofOn L σ a0 a1 a2).bind fun r => k (some (vI r)) L σ else none
  | _ => none
abbrev cl_X12_ofOn {O : Type} : CLT O := cl0
theorem hc_X12_ofOn (G : GT) (l : Launch) {d : Nat} (hd : 1 ≤ d) {O : Type} : HCL G l (true, true) d (cl_X12_ofOn (O := O)) := hcl0
theorem rt_X12_ofOn : retOK (0, 0) (some .int) := ⟨fun _ => rfl, fun h => absurd h (by decide), fun h => absurd h (by decide)⟩
set_option maxRecDepth 20000 in
theorem b_X12_ofOn_72 {G : GT} {l : Launch} {d : Nat} {L0 : Lay} {σ0 : Sto} (hd : 1 ≤ d) {c29 : Lay → Sto → Nat → Int32 → Int32 → Int32 → Int32 → Option Int32} (h29 : HF G l 12 "ofOn" cX12_ofOn 5 (some .int) d L0 σ0 (true, true) (dcPI L0 σ0) 29 (A_X12_ofOn_29 c29)) : HF G l 12 "ofOn" cX12_ofOn 5 (some .int) d L0 σ0 (true, true) (dcPI L0 σ0) 72 (A_X12_ofOn_72 (f_X12_ofOn_72 c29)) := by
  intro lc st L σ o h hI
  unfold A_X12_ofOn_72 at h
  split at h
  · obtain ⟨hq0, hA1⟩ := bif_s h
    obtain ⟨e0, hq1⟩ := beq_and hq0
    subst e0
    exact exs (sp := [29]) (K := (kc 29 (A_X12_ofOn_29 c29) k0)) ok_X12_ofOn rt_X12_ofOn (by omega) (hc_X12_ofOn G l hd) (hrPI rfl rfl) (hkc h29 hk0) 52 hA1 hI
  · cases h
set_option maxRecDepth 20000 in
theorem b_X12_ofOn_29 {G : GT} {l : Launch} {d : Nat} {L0 : Lay} {σ0 : Sto} (hd : 1 ≤ d) : ∀ k : Nat, HF G l 12 "ofOn" cX12_ofOn 5 (some .int) d L0 σ0 (true, true) (dcPI L0 σ0) 29 (A_X12_ofOn_29 (f_X12_ofOn_29 k))
  | 0 => by
    intro lc st L σ o h hI
    unfold A_X12_ofOn_29 at h
    split at h
    · obtain ⟨_, hA1⟩ := bif_s h
      cases hA1
    · cases h
  | k + 1 => by
    have ih := b_X12_ofOn_29 (G := G) (l := l) (d := d) (L0 := L0) (σ0 := σ0) hd k
    intro lc st L σ o h hI
    unfold A_X12_ofOn_29 at h
    split at h
    · obtain ⟨hq0, hA1⟩ := bif_s h
      obtain ⟨e0, hq1⟩ := beq_and hq0
      subst e0
      exact exs (sp := [72]) (K := (kc 72 (A_X12_ofOn_72 (f_X12_ofOn_72 (f_X12_ofOn_29 k))) k0)) ok_X12_ofOn rt_X12_ofOn (by omega) (hc_X12_ofOn G l hd) (hrPI rfl rfl) (hkc (b_X12_ofOn_72 hd ih) hk0) 52 hA1 hI
    · cases h
set_option maxRecDepth 20000 in
theorem b_X12_ofOn_23 {G : GT} {l : Launch} {d : Nat} {L0 : Lay} {σ0 : Sto} (hd : 1 ≤ d) : HF G l 12 "ofOn" cX12_ofOn 5 (some .int) d L0 σ0 (true, true) (dcPI L0 σ0) 23 (A_X12_ofOn_23 f_X12_ofOn_23) := by
  intro lc st L σ o h hI
  unfold A_X12_ofOn_23 at h
  split at h
  · obtain ⟨hq0, hA1⟩ := bif_s h
    obtain ⟨e0, hq1⟩ := beq_and hq0
    subst e0
    exact exs (sp := [29]) (K := (kc 29 (A_X12_ofOn_29 (f_X12_ofOn_29 FU)) k0)) ok_X12_ofOn rt_X12_ofOn (by omega) (hc_X12_ofOn G l hd) (hrPI rfl rfl) (hkc (b_X12_ofOn_29 hd FU) hk0) 52 hA1 hI
  · cases h
set_option maxRecDepth 20000 in
theorem ca_X12_ofOn (G : GT) (l : Launch) {d : Nat} (hd : 1 ≤ d) : CA G l 187 (true, true) d ad_X12_ofOn := by
  intro O L σ as k o h hW hok
  unfold ad_X12_ofOn at h
  split at h
  · obtain ⟨hq0, hA0⟩ := bif_s h
    obtain ⟨e0, hq1⟩ := beq_and hq0
    subst e0
    obtain ⟨r, hr, hk⟩ := Option.bind_eq_some_iff.mp hA0
    exact ca_of (q := (dcPI L σ) r) (by decide) rfl (Nat.le_of_ble_eq_true rfl) hk (fun _ => rfl) (fun _ => rfl) (exs (sp := [23]) (K := (kc 23 (A_X12_ofOn_23 (f_X12_ofOn_23)) k0)) (L0 := L) (σ0 := σ) ok_X12_ofOn rt_X12_ofOn (by omega) (hc_X12_ofOn G l hd) (hrPI rfl rfl) (hkc (b_X12_ofOn_23 hd) hk0) 52 hr (inv0 hW hok))
  · cases h
def tt_X12_adds (pc : Nat) : TI := bif Nat.blt pc 59 then (bif Nat.blt pc 27 then (bif Nat.blt pc 11 then (bif Nat.blt pc 6 then (bif Nat.blt pc 4 then (bif Nat.blt pc 1 then (bif Nat.beq pc 0 then (.aload_n 0, 1, (0, 0, 0), 0, 0, []) else TN) else (bif Nat.beq pc 1 then (.getfield 121, 4, (12, 48, 0), 0, 0, []) else TN)) else (bif Nat.blt pc 5 then (bif Nat.beq pc 4 then (.iload_n 3, 5, (3, 0, 0), 0, 0, []) else TN) else (bif Nat.beq pc 5 then (.dup2, 6, (0, 0, 0), 0, 0, []) else TN))) else (bif Nat.blt pc 8 then (bif Nat.blt pc 7 then (bif Nat.beq pc 6 then (.iaload, 7, (0, 0, 0), 0, 0, []) else TN) else (bif Nat.beq pc 7 then (.iconst 1, 8, (0, 0, 0), 1, 0, []) else TN)) else (bif Nat.blt pc 9 then (bif Nat.beq pc 8 then (.iload_n 2, 9, (2, 0, 0), 0, 0, []) else TN) else (bif Nat.blt pc 10 then (bif Nat.beq pc 9 then (.ishl, 10, (0, 0, 0), 0, 0, []) else TN) else (bif Nat.beq pc 10 then (.ior, 11, (0, 0, 0), 0, 0, []) else TN))))) else (bif Nat.blt pc 17 then (bif Nat.blt pc 13 then (bif Nat.blt pc 12 then (bif Nat.beq pc 11 then (.iastore, 12, (0, 0, 0), 0, 0, []) else TN) else (bif Nat.beq pc 12 then (.iconst 0, 13, (0, 0, 0), 0, 0, []) else TN)) else (bif Nat.blt pc 15 then (bif Nat.beq pc 13 then (.istore 4, 15, (4, 0, 0), 0, 0, []) else TN) else (bif Nat.beq pc 15 then (.iload 4, 17, (4, 0, 0), 0, 0, []) else TN))) else (bif Nat.blt pc 21 then (bif Nat.blt pc 18 then (bif Nat.beq pc 17 then (.aload_n 0, 18, (0, 0, 0), 0, 0, []) else TN) else (bif Nat.beq pc 18 then (.getfield 150, 21, (12, 4, 0), 0, 0, []) else TN)) else (bif Nat.blt pc 24 then (bif Nat.beq pc 21 then (.if_icmp .ge 98, 24, (119, 0, 0), 0, 0, []) else TN) else (bif Nat.blt pc 25 then (bif Nat.beq pc 24 then (.aload_n 0, 25, (0, 0, 0), 0, 0, []) else TN) else (bif Nat.beq pc 25 then (.iload 4, 27, (4, 0, 0), 0, 0, []) else TN)))))) else (bif Nat.blt pc 44 then (bif Nat.blt pc 33 then (bif Nat.blt pc 31 then (bif Nat.blt pc 28 then (bif Nat.beq pc 27 then (.aload_n 0, 28, (0, 0, 0), 0, 0, []) else TN) else (bif Nat.beq pc 28 then (.getfield 46, 31, (12, 18, 0), 0, 0, []) else TN)) else (bif Nat.blt pc 32 then (bif Nat.beq pc 31 then (.iload_n 1, 32, (1, 0, 0), 0, 0, []) else TN) else (bif Nat.beq pc 32 then (.iaload, 33, (0, 0, 0), 0, 0, []) else TN))) else (bif Nat.blt pc 37 then (bif Nat.blt pc 36 then (bif Nat.beq pc 33 then (.invokevirtual 178, 36, (187, 2, 12), 0, 0, []) else TN) else (bif Nat.beq pc 36 then (.iload_n 2, 37, (2, 0, 0), 0, 0, []) else TN)) else (bif Nat.blt pc 40 then (bif Nat.beq pc 37 then (.if_icmp .ne 76, 40, (113, 0, 0), 0, 0, []) else TN) else (bif Nat.blt pc 41 then (bif Nat.beq pc 40 then (.aload_n 0, 41, (0, 0, 0), 0, 0, []) else TN) else (bif Nat.beq pc 41 then (.getfield 55, 44, (12, 21, 0), 0, 0, []) else TN))))) else (bif Nat.blt pc 51 then (bif Nat.blt pc 47 then (bif Nat.blt pc 46 then (bif Nat.beq pc 44 then (.bipush 40, 46, (0, 0, 0), 40, 0, []) else TN) else (bif Nat.beq pc 46 then (.iload_n 1, 47, (1, 0, 0), 0, 0, []) else TN)) else (bif Nat.blt pc 48 then (bif Nat.beq pc 47 then (.imul, 48, (0, 0, 0), 0, 0, []) else TN) else (bif Nat.blt pc 50 then (bif Nat.beq pc 48 then (.iload 4, 50, (4, 0, 0), 0, 0, []) else TN) else (bif Nat.beq pc 50 then (.iadd, 51, (0, 0, 0), 0, 0, []) else TN)))) else (bif Nat.blt pc 54 then (bif Nat.blt pc 52 then (bif Nat.beq pc 51 then (.iaload, 52, (0, 0, 0), 0, 0, []) else TN) else (bif Nat.beq pc 52 then (.istore 5, 54, (5, 0, 0), 0, 0, []) else TN)) else (bif Nat.blt pc 55 then (bif Nat.beq pc 54 then (.aload_n 0, 55, (0, 0, 0), 0, 0, []) else TN) else (bif Nat.blt pc 58 then (bif Nat.beq pc 55 then (.getfield 124, 58, (12, 49, 0), 0, 0, []) else TN) else (bif Nat.beq pc 58 then (.iload_n 3, 59, (3, 0, 0), 0, 0, []) else TN))))))) else (bif Nat.blt pc 90 then (bif Nat.blt pc 73 then (bif Nat.blt pc 66 then (bif Nat.blt pc 61 then (bif Nat.blt pc 60 then (bif Nat.beq pc 59 then (.dup2, 60, (0, 0, 0), 0, 0, []) else TN) else (bif Nat.beq pc 60 then (.iaload, 61, (0, 0, 0), 0, 0, []) else TN)) else (bif Nat.blt pc 63 then (bif Nat.beq pc 61 then (.iload 5, 63, (5, 0, 0), 0, 0, []) else TN) else (bif Nat.beq pc 63 then (.ifCond .le 7, 66, (70, 0, 0), 0, 0, []) else TN))) else (bif Nat.blt pc 70 then (bif Nat.blt pc 67 then (bif Nat.beq pc 66 then (.iconst 1, 67, (0, 0, 0), 1, 0, []) else TN) else (bif Nat.beq pc 67 then (.goto 4, 70, (71, 0, 0), 0, 0, []) else TN)) else (bif Nat.blt pc 71 then (bif Nat.beq pc 70 then (.iconst 0, 71, (0, 0, 0), 0, 0, []) else TN) else (bif Nat.blt pc 72 then (bif Nat.beq pc 71 then (.iadd, 72, (0, 0, 0), 0, 0, []) else TN) else (bif Nat.beq pc 72 then (.iastore, 73, (0, 0, 0), 0, 0, []) else TN))))) else (bif Nat.blt pc 80 then (bif Nat.blt pc 77 then (bif Nat.blt pc 74 then (bif Nat.beq pc 73 then (.aload_n 0, 74, (0, 0, 0), 0, 0, []) else TN) else (bif Nat.beq pc 74 then (.getfield 127, 77, (12, 50, 0), 0, 0, []) else TN)) else (bif Nat.blt pc 78 then (bif Nat.beq pc 77 then (.iload_n 3, 78, (3, 0, 0), 0, 0, []) else TN) else (bif Nat.blt pc 79 then (bif Nat.beq pc 78 then (.dup2, 79, (0, 0, 0), 0, 0, []) else TN) else (bif Nat.beq pc 79 then (.iaload, 80, (0, 0, 0), 0, 0, []) else TN)))) else (bif Nat.blt pc 83 then (bif Nat.blt pc 82 then (bif Nat.beq pc 80 then (.iload 5, 82, (5, 0, 0), 0, 0, []) else TN) else (bif Nat.beq pc 82 then (.iconst 1, 83, (0, 0, 0), 1, 0, []) else TN)) else (bif Nat.blt pc 86 then (bif Nat.beq pc 83 then (.if_icmp .ne 7, 86, (90, 0, 0), 0, 0, []) else TN) else (bif Nat.blt pc 87 then (bif Nat.beq pc 86 then (.iconst 1, 87, (0, 0, 0), 1, 0, []) else TN) else (bif Nat.beq pc 87 then (.goto 4, 90, (91, 0, 0), 0, 0, []) else TN)))))) else (bif Nat.blt pc 102 then (bif Nat.blt pc 94 then (bif Nat.blt pc 92 then (bif Nat.blt pc 91 then (bif Nat.beq pc 90 then (.iconst 0, 91, (0, 0, 0), 0, 0, []) else TN) else (bif Nat.beq pc 91 then (.iadd, 92, (0, 0, 0), 0, 0, []) else TN)) else (bif Nat.blt pc 93 then (bif Nat.beq pc 92 then (.iastore, 93, (0, 0, 0), 0, 0, []) else TN) else (bif Nat.beq pc 93 then (.aload_n 0, 94, (0, 0, 0), 0, 0, []) else TN))) else (bif Nat.blt pc 98 then (bif Nat.blt pc 97 then (bif Nat.beq pc 94 then (.getfield 130, 97, (12, 51, 0), 0, 0, []) else TN) else (bif Nat.beq pc 97 then (.iload_n 3, 98, (3, 0, 0), 0, 0, []) else TN)) else (bif Nat.blt pc 99 then (bif Nat.beq pc 98 then (.dup2, 99, (0, 0, 0), 0, 0, []) else TN) else (bif Nat.blt pc 100 then (bif Nat.beq pc 99 then (.iaload, 100, (0, 0, 0), 0, 0, []) else TN) else (bif Nat.beq pc 100 then (.iload 5, 102, (5, 0, 0), 0, 0, []) else TN))))) else (bif Nat.blt pc 111 then (bif Nat.blt pc 106 then (bif Nat.blt pc 103 then (bif Nat.beq pc 102 then (.iconst 2, 103, (0, 0, 0), 2, 0, []) else TN) else (bif Nat.beq pc 103 then (.if_icmp .ne 7, 106, (110, 0, 0), 0, 0, []) else TN)) else (bif Nat.blt pc 107 then (bif Nat.beq pc 106 then (.iconst 1, 107, (0, 0, 0), 1, 0, []) else TN) else (bif Nat.blt pc 110 then (bif Nat.beq pc 107 then (.goto 4, 110, (111, 0, 0), 0, 0, []) else TN) else (bif Nat.beq pc 110 then (.iconst 0, 111, (0, 0, 0), 0, 0, []) else TN)))) else (bif Nat.blt pc 113 then (bif Nat.blt pc 112 then (bif Nat.beq pc 111 then (.iadd, 112, (0, 0, 0), 0, 0, []) else TN) else (bif Nat.beq pc 112 then (.iastore, 113, (0, 0, 0), 0, 0, []) else TN)) else (bif Nat.blt pc 116 then (bif Nat.beq pc 113 then (.iinc 4 1, 116, (4, 0, 0), 1, 0, []) else TN) else (bif Nat.blt pc 119 then (bif Nat.beq pc 116 then (.goto (-101), 119, (15, 0, 0), 0, 0, []) else TN) else (bif Nat.beq pc 119 then (.return_, 120, (0, 0, 0), 0, 0, []) else TN)))))))
def tb_X12_adds (pc : Nat) : TI := bif Nat.ble 120 pc then TN else tt_X12_adds pc
theorem ok_X12_adds : tOK 12 (decide ("adds" = "<init>")) cX12_adds tb_X12_adds := tOK_of 120 tn_of (by decide +kernel)
def f_X12_adds_113 (c15 : Lay → Sto → Nat → Int32 → Int32 → Int32 → Int32 → Option Sto) (L : Lay) (σ : Sto) (a0 : Nat) (a1 : Int32) (a2 : Int32) (a3 : Int32) (a4 : Int32) : Option Sto := c15 L σ a0 a1 a2 a3 (a4 + 1)
def A_X12_adds_113 (c : Lay → Sto → Nat → Int32 → Int32 → Int32 → Int32 → Option Sto) (lc : List (Option AV)) (st : List AV) (L : Lay) (σ : Sto) : Option Sto := match lc, st with
  | [some (.inr (.inr (.inl (ta0, some a0)))), some (.inl a1), some (.inl a2), some (.inl a3), some (.inl a4), _], [] => bif Nat.beq ta0 12 && true then c L σ a0 a1 a2 a3 a4 else none
  | _, _ => none
def f_X12_adds_111 (c15 : Lay → Sto → Nat → Int32 → Int32 → Int32 → Int32 → Option Sto) (L : Lay) (σ : Sto) (a0 : Nat) (a1 : Int32) (a2 : Int32) (a3 : Int32) (a4 : Int32) (s0 : Int32) (s1 : Int32) (s2 : Int32) (s3 : Option Nat) : Option Sto := s3.bind fun x1 => (wI L σ x1 s2 (s1 + s0)).bind fun σ2 => (f_X12_adds_113 c15) L σ2 a0 a1 a2 a3 a4
def A_X12_adds_111 (c : Lay → Sto → Nat → Int32 → Int32 → Int32 → Int32 → Int32 → Int32 → Int32 → Option Nat → Option Sto) (lc : List (Option AV)) (st : List AV) (L : Lay) (σ : Sto) : Option Sto := match lc, st with
  | [some (.inr (.inr (.inl (ta0, some a0)))), some (.inl a1), some (.inl a2), some (.inl a3), some (.inl a4), _], [.inl s0, .inl s1, .inl s2, .inr (.inr (.inl (ts3, s3)))] => bif Nat.beq ta0 12 && (Nat.beq ts3 20 && true) then c L σ a0 a1 a2 a3 a4 s0 s1 s2 s3 else none
  | _, _ => none
def f_X12_adds_91 (c15 : Lay → Sto → Nat → Int32 → Int32 → Int32 → Int32 → Option Sto) (L : Lay) (σ : Sto) (a0 : Nat) (a1 : Int32) (a2 : Int32) (a3 : Int32) (a4 : Int32) (a5 : Int32) (s0 : Int32) (s1 : Int32) (s2 : Int32) (s3 : Option Nat) : Option Sto := s3.bind fun x3 => (wI L σ x3 s2 (s1 + s0)).bind fun σ4 => (σ4.2.1 a0 51).bind fun x5 => (rI L σ4 x5 a3).bind fun v6 => (if a5 = 2 then (f_X12_adds_111 c15) L σ4 a0 a1 a2 a3 a4 1 v6 a3 (σ4.2.1 a0 51) else (f_X12_adds_111 c15) L σ4 a0 a1 a2 a3 a4 0 v6 a3 (σ4.2.1 a0 51))
def A_X12_adds_91 (c : Lay → Sto → Nat → Int32 → Int32 → Int32 → Int32 → Int32 → Int32 → Int32 → Int32 → Option Nat → Option Sto) (lc : List (Option AV)) (st : List AV) (L : Lay) (σ : Sto) : Option Sto := match lc, st with
  | [some (.inr (.inr (.inl (ta0, some a0)))), some (.inl a1), some (.inl a2), some (.inl a3), some (.inl a4), some (.inl a5)], [.inl s0, .inl s1, .inl s2, .inr (.inr (.inl (ts3, s3)))] => bif Nat.beq ta0 12 && (Nat.beq ts3 20 && true) then c L σ a0 a1 a2 a3 a4 a5 s0 s1 s2 s3 else none
  | _, _ => none
def f_X12_adds_71 (c15 : Lay → Sto → Nat → Int32 → Int32 → Int32 → Int32 → Option Sto) (L : Lay) (σ : Sto) (a0 : Nat) (a1 : Int32) (a2 : Int32) (a3 : Int32) (a4 : Int32) (a5 : Int32) (s0 : Int32) (s1 : Int32) (s2 : Int32) (s3 : Option Nat) : Option Sto := s3.bind fun x7 => (wI L σ x7 s2 (s1 + s0)).bind fun σ8 => (σ8.2.1 a0 50).bind fun x9 => (rI L σ8 x9 a3).bind fun v10 => (if a5 = 1 then (f_X12_adds_91 c15) L σ8 a0 a1 a2 a3 a4 a5 1 v10 a3 (σ8.2.1 a0 50) else (f_X12_adds_91 c15) L σ8 a0 a1 a2 a3 a4 a5 0 v10 a3 (σ8.2.1 a0 50))
def A_X12_adds_71 (c : Lay → Sto → Nat → Int32 → Int32 → Int32 → Int32 → Int32 → Int32 → Int32 → Int32 → Option Nat → Option Sto) (lc : List (Option AV)) (st : List AV) (L : Lay) (σ : Sto) : Option Sto := match lc, st with
  | [some (.inr (.inr (.inl (ta0, some a0)))), some (.inl a1), some (.inl a2), some (.inl a3), some (.inl a4), some (.inl a5)], [.inl s0, .inl s1, .inl s2, .inr (.inr (.inl (ts3, s3)))] => bif Nat.beq ta0 12 && (Nat.beq ts3 20 && true) then c L σ a0 a1 a2 a3 a4 a5 s0 s1 s2 s3 else none
  | _, _ => none
def f_X12_adds_15 : Nat → Lay → Sto → Nat → Int32 → Int32 → Int32 → Int32 → Option Sto
  | 0 => fun _ _ _ _ _ _ _ => none
  | k + 1 => fun L σ a0 a1 a2 a3 a4 => (if (σ.1 a0 4) ≤ a4 then some σ else (σ.2.1 a0 18).bind fun x11 => (rI L σ x11 a1).bind fun v12 => (f_X12_ofOn L σ a0 a4 v12).bind fun r13 => (if r13 = a2 then (σ.2.1 a0 21).bind fun x14 => (rI L σ x14 ((40 * a1) + a4)).bind fun v15 => (σ.2.1 a0 49).bind fun x16 => (rI L σ x16 a3).bind fun v17 => (if v15 ≤ 0 then (f_X12_adds_71 (f_X12_adds_15 k)) L σ a0 a1 a2 a3 a4 v15 0 v17 a3 (σ.2.1 a0 49) else (f_X12_adds_71 (f_X12_adds_15 k)) L σ a0 a1 a2 a3 a4 v15 1 v17 a3 (σ.2.1 a0 49)) else (f_X12_adds_113 (f_X12_adds_15 k)) L σ a0 a1 a2 a3 a4))
def A_X12_adds_15 (c : Lay → Sto → Nat → Int32 → Int32 → Int32 → Int32 → Option Sto) (lc : List (Option AV)) (st : List AV) (L : Lay) (σ : Sto) : Option Sto := match lc, st with
  | [some (.inr (.inr (.inl (ta0, some a0)))), some (.inl a1), some (.inl a2), some (.inl a3), some (.inl a4), _], [] => bif Nat.beq ta0 12 && true then c L σ a0 a1 a2 a3 a4 else none
  | _, _ => none
def f_X12_adds (L : Lay) (σ : Sto) (a0 : Nat) (a1 : Int32) (a2 : Int32) (a3 : Int32) : Option Sto := (σ.2.1 a0 48).bind fun x18 => (rI L σ x18 a3).bind fun v19 => (σ.2.1 a0 48).bind fun x20 => (wI L σ x20 a3 (v19 ||| (1 <<< (a2 &&& 31)))).bind fun σ21 => (f_X12_adds_15 FU) L σ21 a0 a1 a2 a3 0
def ad_X12_adds : ADT := fun O L σ as k => match as with
  | [.inr (.inr (.inl (ta0, some a0))), .inl a1, .inl a2, .inl a3] => bif Nat.beq ta0 12 && true then (f_X12_adds L σ a0 a1 a2 a3).bind fun σ2 => k none L σ2 else none
  | _ => none
abbrev cl_X12_adds {O : Type} : CLT O := (clc 187 ad_X12_ofOn cl0)
theorem hc_X12_adds (G : GT) (l : Launch) {d : Nat} (hd : 2 ≤ d) {O : Type} : HCL G l (true, false) d (cl_X12_adds (O := O)) := (hclc (ca_X12_ofOn G l (d := 1) (Nat.le_refl _)) (fun _ => rfl) (fun e => by cases e) (by omega) hcl0)
theorem rt_X12_adds : retOK (6, 0) none := ⟨fun h => absurd h (by decide), fun h => absurd h (by decide), fun _ => rfl⟩
set_option maxRecDepth 20000 in
theorem b_X12_adds_113 {G : GT} {l : Launch} {d : Nat} {L0 : Lay} {σ0 : Sto} (hd : 2 ≤ d) {c15 : Lay → Sto → Nat → Int32 → Int32 → Int32 → Int32 → Option Sto} (h15 : HF G l 12 "adds" cX12_adds 6 none d L0 σ0 (true, false) (dcV L0) 15 (A_X12_adds_15 c15)) : HF G l 12 "adds" cX12_adds 6 none d L0 σ0 (true, false) (dcV L0) 113 (A_X12_adds_113 (f_X12_adds_113 c15)) := by
  intro lc st L σ o h hI
  unfold A_X12_adds_113 at h
  split at h
  · obtain ⟨hq0, hA1⟩ := bif_s h
    obtain ⟨e0, hq1⟩ := beq_and hq0
    subst e0
    exact exs (sp := [15]) (K := (kc 15 (A_X12_adds_15 c15) k0)) ok_X12_adds rt_X12_adds (by omega) (hc_X12_adds G l hd) (hrV rfl) (hkc h15 hk0) 78 hA1 hI
  · cases h
set_option maxRecDepth 20000 in
theorem b_X12_adds_111 {G : GT} {l : Launch} {d : Nat} {L0 : Lay} {σ0 : Sto} (hd : 2 ≤ d) {c15 : Lay → Sto → Nat → Int32 → Int32 → Int32 → Int32 → Option Sto} (h15 : HF G l 12 "adds" cX12_adds 6 none d L0 σ0 (true, false) (dcV L0) 15 (A_X12_adds_15 c15)) : HF G l 12 "adds" cX12_adds 6 none d L0 σ0 (true, false) (dcV L0) 111 (A_X12_adds_111 (f_X12_adds_111 c15)) := by
  intro lc st L σ o h hI
  unfold A_X12_adds_111 at h
  split at h
  · obtain ⟨hq0, hA1⟩ := bif_s h
    obtain ⟨e0, hq1⟩ := beq_and hq0
    obtain ⟨e1, hq2⟩ := beq_and hq1
    subst e0
    subst e1
    exact exs (sp := [113]) (K := (kc 113 (A_X12_adds_113 (f_X12_adds_113 c15)) k0)) ok_X12_adds rt_X12_adds (by omega) (hc_X12_adds G l hd) (hrV rfl) (hkc (b_X12_adds_113 hd h15) hk0) 78 hA1 hI
  · cases h
set_option maxRecDepth 20000 in
theorem b_X12_adds_91 {G : GT} {l : Launch} {d : Nat} {L0 : Lay} {σ0 : Sto} (hd : 2 ≤ d) {c15 : Lay → Sto → Nat → Int32 → Int32 → Int32 → Int32 → Option Sto} (h15 : HF G l 12 "adds" cX12_adds 6 none d L0 σ0 (true, false) (dcV L0) 15 (A_X12_adds_15 c15)) : HF G l 12 "adds" cX12_adds 6 none d L0 σ0 (true, false) (dcV L0) 91 (A_X12_adds_91 (f_X12_adds_91 c15)) := by
  intro lc st L σ o h hI
  unfold A_X12_adds_91 at h
  split at h
  · obtain ⟨hq0, hA1⟩ := bif_s h
    obtain ⟨e0, hq1⟩ := beq_and hq0
    obtain ⟨e1, hq2⟩ := beq_and hq1
    subst e0
    subst e1
    exact exs (sp := [111]) (K := (kc 111 (A_X12_adds_111 (f_X12_adds_111 c15)) k0)) ok_X12_adds rt_X12_adds (by omega) (hc_X12_adds G l hd) (hrV rfl) (hkc (b_X12_adds_111 hd h15) hk0) 78 hA1 hI
  · cases h
set_option maxRecDepth 20000 in
theorem b_X12_adds_71 {G : GT} {l : Launch} {d : Nat} {L0 : Lay} {σ0 : Sto} (hd : 2 ≤ d) {c15 : Lay → Sto → Nat → Int32 → Int32 → Int32 → Int32 → Option Sto} (h15 : HF G l 12 "adds" cX12_adds 6 none d L0 σ0 (true, false) (dcV L0) 15 (A_X12_adds_15 c15)) : HF G l 12 "adds" cX12_adds 6 none d L0 σ0 (true, false) (dcV L0) 71 (A_X12_adds_71 (f_X12_adds_71 c15)) := by
  intro lc st L σ o h hI
  unfold A_X12_adds_71 at h
  split at h
  · obtain ⟨hq0, hA1⟩ := bif_s h
    obtain ⟨e0, hq1⟩ := beq_and hq0
    obtain ⟨e1, hq2⟩ := beq_and hq1
    subst e0
    subst e1
    exact exs (sp := [91]) (K := (kc 91 (A_X12_adds_91 (f_X12_adds_91 c15)) k0)) ok_X12_adds rt_X12_adds (by omega) (hc_X12_adds G l hd) (hrV rfl) (hkc (b_X12_adds_91 hd h15) hk0) 78 hA1 hI
  · cases h
set_option maxRecDepth 20000 in
theorem b_X12_adds_15 {G : GT} {l : Launch} {d : Nat} {L0 : Lay} {σ0 : Sto} (hd : 2 ≤ d) : ∀ k : Nat, HF G l 12 "adds" cX12_adds 6 none d L0 σ0 (true, false) (dcV L0) 15 (A_X12_adds_15 (f_X12_adds_15 k))
  | 0 => by
    intro lc st L σ o h hI
    unfold A_X12_adds_15 at h
    split at h
    · obtain ⟨_, hA1⟩ := bif_s h
      cases hA1
    · cases h
  | k + 1 => by
    have ih := b_X12_adds_15 (G := G) (l := l) (d := d) (L0 := L0) (σ0 := σ0) hd k
    intro lc st L σ o h hI
    unfold A_X12_adds_15 at h
    split at h
    · obtain ⟨hq0, hA1⟩ := bif_s h
      obtain ⟨e0, hq1⟩ := beq_and hq0
      subst e0
      exact exs (sp := [71, 113]) (K := (kc 71 (A_X12_adds_71 (f_X12_adds_71 (f_X12_adds_15 k))) (kc 113 (A_X12_adds_113 (f_X12_adds_113 (f_X12_adds_15 k))) k0))) ok_X12_adds rt_X12_adds (by omega) (hc_X12_adds G l hd) (hrV rfl) (hkc (b_X12_adds_71 hd ih) (hkc (b_X12_adds_113 hd ih) hk0)) 78 hA1 hI
    · cases h
set_option maxRecDepth 20000 in
theorem ca_X12_adds (G : GT) (l : Launch) {d : Nat} (hd : 2 ≤ d) : CA G l 120 (true, false) d ad_X12_adds := by
  intro O L σ as k o h hW hok
  unfold ad_X12_adds at h
  split at h
  · obtain ⟨hq0, hA0⟩ := bif_s h
    obtain ⟨e0, hq1⟩ := beq_and hq0
    subst e0
    obtain ⟨r, hr, hk⟩ := Option.bind_eq_some_iff.mp hA0
    exact ca_of (q := (dcV L) r) (by decide) rfl (Nat.le_of_ble_eq_true rfl) hk (fun _ => rfl) (fun e => by cases e) (exs (sp := [15]) (K := (kc 15 (A_X12_adds_15 (f_X12_adds_15 FU)) k0)) (L0 := L) (σ0 := σ) ok_X12_adds rt_X12_adds (by omega) (hc_X12_adds G l hd) (hrV rfl) (hkc (b_X12_adds_15 hd FU) hk0) 78 hr (inv0 hW hok))
  · cases h
def tt_X12_at (pc : Nat) : TI := bif Nat.blt pc 26 then (bif Nat.blt pc 12 then (bif Nat.blt pc 5 then (bif Nat.blt pc 1 then (bif Nat.beq pc 0 then (.iload_n 1, 1, (1, 0, 0), 0, 0, []) else TN) else (bif Nat.blt pc 2 then (bif Nat.beq pc 1 then (.aload_n 0, 2, (0, 0, 0), 0, 0, []) else TN) else (bif Nat.beq pc 2 then (.getfield 243, 5, (12, 52, 0), 0, 0, []) else TN))) else (bif Nat.blt pc 8 then (bif Nat.beq pc 5 then (.ifCond .eq 10, 8, (15, 0, 0), 0, 0, []) else TN) else (bif Nat.blt pc 9 then (bif Nat.beq pc 8 then (.aload_n 0, 9, (0, 0, 0), 0, 0, []) else TN) else (bif Nat.beq pc 9 then (.getfield 247, 12, (12, 26, 0), 0, 0, []) else TN)))) else (bif Nat.blt pc 19 then (bif Nat.blt pc 15 then (bif Nat.beq pc 12 then (.goto 7, 15, (19, 0, 0), 0, 0, []) else TN) else (bif Nat.blt pc 16 then (bif Nat.beq pc 15 then (.aload_n 0, 16, (0, 0, 0), 0, 0, []) else TN) else (bif Nat.beq pc 16 then (.getfield 237, 19, (12, 25, 0), 0, 0, []) else TN))) else (bif Nat.blt pc 22 then (bif Nat.beq pc 19 then (.if_icmp .lt 7, 22, (26, 0, 0), 0, 0, []) else TN) else (bif Nat.blt pc 23 then (bif Nat.beq pc 22 then (.iconst (-1), 23, (0, 0, 0), -1, 0, []) else TN) else (bif Nat.beq pc 23 then (.goto 25, 26, (48, 0, 0), 0, 0, []) else TN))))) else (bif Nat.blt pc 38 then (bif Nat.blt pc 33 then (bif Nat.blt pc 27 then (bif Nat.beq pc 26 then (.aload_n 0, 27, (0, 0, 0), 0, 0, []) else TN) else (bif Nat.blt pc 30 then (bif Nat.beq pc 27 then (.getfield 243, 30, (12, 52, 0), 0, 0, []) else TN) else (bif Nat.beq pc 30 then (.ifCond .eq 12, 33, (42, 0, 0), 0, 0, []) else TN))) else (bif Nat.blt pc 34 then (bif Nat.beq pc 33 then (.aload_n 0, 34, (0, 0, 0), 0, 0, []) else TN) else (bif Nat.blt pc 37 then (bif Nat.beq pc 34 then (.getfield 64, 37, (12, 24, 0), 0, 0, []) else TN) else (bif Nat.beq pc 37 then (.iload_n 1, 38, (1, 0, 0), 0, 0, []) else TN)))) else (bif Nat.blt pc 43 then (bif Nat.blt pc 39 then (bif Nat.beq pc 38 then (.iaload, 39, (0, 0, 0), 0, 0, []) else TN) else (bif Nat.blt pc 42 then (bif Nat.beq pc 39 then (.goto 9, 42, (48, 0, 0), 0, 0, []) else TN) else (bif Nat.beq pc 42 then (.aload_n 0, 43, (0, 0, 0), 0, 0, []) else TN))) else (bif Nat.blt pc 47 then (bif Nat.blt pc 46 then (bif Nat.beq pc 43 then (.getfield 61, 46, (12, 23, 0), 0, 0, []) else TN) else (bif Nat.beq pc 46 then (.iload_n 1, 47, (1, 0, 0), 0, 0, []) else TN)) else (bif Nat.blt pc 48 then (bif Nat.beq pc 47 then (.iaload, 48, (0, 0, 0), 0, 0, []) else TN) else (bif Nat.beq pc 48 then (.ireturn, 49, (0, 0, 0), 0, 0, []) else TN)))))
def tb_X12_at (pc : Nat) : TI := bif Nat.ble 49 pc then TN else tt_X12_at pc
theorem ok_X12_at : tOK 12 (decide ("at" = "<init>")) cX12_at tb_X12_at := tOK_of 49 tn_of (by decide +kernel)
def f_X12_at_19 (L : Lay) (σ : Sto) (a0 : Nat) (a1 : Int32) (s0 : Int32) (s1 : Int32) : Option Int32 := (if s1 < s0 then (if (σ.1 a0 52) = 0 then (σ.2.1 a0 23).bind fun x1 => (rI L σ x1 a1).bind fun v2 => some v2 else (σ.2.1 a0 24).bind fun x3 => (rI L σ x3 a1).bind fun v4 => some v4) else some (-1))
def A_X12_at_19 (c : Lay → Sto → Nat → Int32 → Int32 → Int32 → Option Int32) (lc : List (Option AV)) (st : List AV) (L : Lay) (σ : Sto) : Option Int32 := match lc, st with
  | [some (.inr (.inr (.inl (ta0, some a0)))), some (.inl a1)], [.inl s0, .inl s1] => bif Nat.beq ta0 12 && true then c L σ a0 a1 s0 s1 else none
  | _, _ => none
def f_X12_at (L : Lay) (σ : Sto) (a0 : Nat) (a1 : Int32) : Option Int32 := (if (σ.1 a0 52) = 0 then (f_X12_at_19) L σ a0 a1 (σ.1 a0 25) a1 else (f_X12_at_19) L σ a0 a1 (σ.1 a0 26) a1)
def ad_X12_at : ADT := fun O L σ as k => match as with
  | [.inr (.inr (.inl (ta0, some a0))), .inl a1] => bif Nat.beq ta0 12 && true then (f_X12_at L σ a0 a1).bind fun r => k (some (vI r)) L σ else none
  | _ => none
abbrev cl_X12_at {O : Type} : CLT O := cl0
theorem hc_X12_at (G : GT) (l : Launch) {d : Nat} (hd : 1 ≤ d) {O : Type} : HCL G l (true, true) d (cl_X12_at (O := O)) := hcl0
theorem rt_X12_at : retOK (0, 0) (some .int) := ⟨fun _ => rfl, fun h => absurd h (by decide), fun h => absurd h (by decide)⟩
set_option maxRecDepth 20000 in
theorem b_X12_at_19 {G : GT} {l : Launch} {d : Nat} {L0 : Lay} {σ0 : Sto} (hd : 1 ≤ d) : HF G l 12 "at" cX12_at 2 (some .int) d L0 σ0 (true, true) (dcPI L0 σ0) 19 (A_X12_at_19 f_X12_at_19) := by
  intro lc st L σ o h hI
  unfold A_X12_at_19 at h
  split at h
  · obtain ⟨hq0, hA1⟩ := bif_s h
    obtain ⟨e0, hq1⟩ := beq_and hq0
    subst e0
    exact exs (sp := []) (K := k0) ok_X12_at rt_X12_at (by omega) (hc_X12_at G l hd) (hrPI rfl rfl) hk0 28 hA1 hI
  · cases h
set_option maxRecDepth 20000 in
theorem ca_X12_at (G : GT) (l : Launch) {d : Nat} (hd : 1 ≤ d) : CA G l 122 (true, true) d ad_X12_at := by
  intro O L σ as k o h hW hok
  unfold ad_X12_at at h
  split at h
  · obtain ⟨hq0, hA0⟩ := bif_s h
    obtain ⟨e0, hq1⟩ := beq_and hq0
    subst e0
    obtain ⟨r, hr, hk⟩ := Option.bind_eq_some_iff.mp hA0
    exact ca_of (q := (dcPI L σ) r) (by decide) rfl (Nat.le_of_ble_eq_true rfl) hk (fun _ => rfl) (fun _ => rfl) (exs (sp := [19]) (K := (kc 19 (A_X12_at_19 (f_X12_at_19)) k0)) (L0 := L) (σ0 := σ) ok_X12_at rt_X12_at (by omega) (hc_X12_at G l hd) (hrPI rfl rfl) (hkc (b_X12_at_19 hd) hk0) 28 hr (inv0 hW hok))
  · cases h
def tt_X12_isSign (pc : Nat) : TI := bif Nat.blt pc 16 then (bif Nat.blt pc 8 then (bif Nat.blt pc 4 then (bif Nat.blt pc 1 then (bif Nat.beq pc 0 then (.aload_n 0, 1, (0, 0, 0), 0, 0, []) else TN) else (bif Nat.beq pc 1 then (.getfield 268, 4, (12, 56, 0), 0, 0, []) else TN)) else (bif Nat.blt pc 7 then (bif Nat.beq pc 4 then (.ifCond .ne 27, 7, (31, 0, 0), 0, 0, []) else TN) else (bif Nat.beq pc 7 then (.aload_n 0, 8, (0, 0, 0), 0, 0, []) else TN))) else (bif Nat.blt pc 12 then (bif Nat.blt pc 11 then (bif Nat.beq pc 8 then (.getfield 250, 11, (12, 53, 0), 0, 0, []) else TN) else (bif Nat.beq pc 11 then (.iconst 3, 12, (0, 0, 0), 3, 0, []) else TN)) else (bif Nat.blt pc 15 then (bif Nat.beq pc 12 then (.if_icmp .ne 19, 15, (31, 0, 0), 0, 0, []) else TN) else (bif Nat.beq pc 15 then (.aload_n 0, 16, (0, 0, 0), 0, 0, []) else TN)))) else (bif Nat.blt pc 24 then (bif Nat.blt pc 20 then (bif Nat.blt pc 17 then (bif Nat.beq pc 16 then (.aload_n 0, 17, (0, 0, 0), 0, 0, []) else TN) else (bif Nat.beq pc 17 then (.getfield 256, 20, (12, 54, 0), 0, 0, []) else TN)) else (bif Nat.blt pc 23 then (bif Nat.beq pc 20 then (.invokevirtual 259, 23, (122, 1, 12), 0, 0, []) else TN) else (bif Nat.beq pc 23 then (.iload_n 1, 24, (1, 0, 0), 0, 0, []) else TN))) else (bif Nat.blt pc 28 then (bif Nat.blt pc 27 then (bif Nat.beq pc 24 then (.if_icmp .ne 7, 27, (31, 0, 0), 0, 0, []) else TN) else (bif Nat.beq pc 27 then (.iconst 1, 28, (0, 0, 0), 1, 0, []) else TN)) else (bif Nat.blt pc 31 then (bif Nat.beq pc 28 then (.goto 4, 31, (32, 0, 0), 0, 0, []) else TN) else (bif Nat.blt pc 32 then (bif Nat.beq pc 31 then (.iconst 0, 32, (0, 0, 0), 0, 0, []) else TN) else (bif Nat.beq pc 32 then (.ireturn, 33, (0, 0, 0), 0, 0, []) else TN)))))
def tb_X12_isSign (pc : Nat) : TI := bif Nat.ble 33 pc then TN else tt_X12_isSign pc
theorem ok_X12_isSign : tOK 12 (decide ("isSign" = "<init>")) cX12_isSign tb_X12_isSign := tOK_of 33 tn_of (by decide +kernel)
def f_X12_isSign (L : Lay) (σ : Sto) (a0 : Nat) (a1 : Int32) : Option Int32 := (if (σ.1 a0 56) = 0 then (if (σ.1 a0 53) = 3 then (f_X12_at L σ a0 (σ.1 a0 54)).bind fun r1 => (if r1 = a1 then (ckN 1 1).bind fun _ => some 1 else (ckN 1 0).bind fun _ => some 0) else (ckN 1 0).bind fun _ => some 0) else (ckN 1 0).bind fun _ => some 0)
def ad_X12_isSign : ADT := fun O L σ as k => match as with
  | [.inr (.inr (.inl (ta0, some a0))), .inl a1] => bif Nat.beq ta0 12 && true then (f_X12_isSign L σ a0 a1).bind fun r => k (some (vI r)) L σ else none
  | _ => none
abbrev cl_X12_isSign {O : Type} : CLT O := (clc 122 ad_X12_at cl0)
theorem hc_X12_isSign (G : GT) (l : Launch) {d : Nat} (hd : 2 ≤ d) {O : Type} : HCL G l (true, true) d (cl_X12_isSign (O := O)) := (hclc (ca_X12_at G l (d := 1) (Nat.le_refl _)) (fun _ => rfl) (fun _ => rfl) (by omega) hcl0)
theorem rt_X12_isSign : retOK (1, 0) (some .boolean) := ⟨fun _ => rfl, fun h => absurd h (by decide), fun h => absurd h (by decide)⟩
set_option maxRecDepth 20000 in
theorem ca_X12_isSign (G : GT) (l : Launch) {d : Nat} (hd : 2 ≤ d) : CA G l 162 (true, true) d ad_X12_isSign := by
  intro O L σ as k o h hW hok
  unfold ad_X12_isSign at h
  split at h
  · obtain ⟨hq0, hA0⟩ := bif_s h
    obtain ⟨e0, hq1⟩ := beq_and hq0
    subst e0
    obtain ⟨r, hr, hk⟩ := Option.bind_eq_some_iff.mp hA0
    exact ca_of (q := (dcPI L σ) r) (by decide) rfl (Nat.le_of_ble_eq_true rfl) hk (fun _ => rfl) (fun _ => rfl) (exs (sp := []) (K := k0) (L0 := L) (σ0 := σ) ok_X12_isSign rt_X12_isSign (by omega) (hc_X12_isSign G l hd) (hrPI rfl rfl) hk0 20 hr (inv0 hW hok))
  · cases h
def tt_X12_isLetter (pc : Nat) : TI := bif Nat.blt pc 3 then (bif Nat.blt pc 1 then (bif Nat.beq pc 0 then (.iload_n 0, 1, (0, 0, 0), 0, 0, []) else TN) else (bif Nat.beq pc 1 then (.bipush 97, 3, (0, 0, 0), 97, 0, []) else TN)) else (bif Nat.blt pc 5 then (bif Nat.beq pc 3 then (.bipush 122, 5, (0, 0, 0), 122, 0, []) else TN) else (bif Nat.blt pc 8 then (bif Nat.beq pc 5 then (.invokestatic 146, 8, (147, 3, 0), 0, 0, []) else TN) else (bif Nat.beq pc 8 then (.ireturn, 9, (0, 0, 0), 0, 0, []) else TN)))
def tb_X12_isLetter (pc : Nat) : TI := bif Nat.ble 9 pc then TN else tt_X12_isLetter pc
theorem ok_X12_isLetter : tOK 12 (decide ("isLetter" = "<init>")) cX12_isLetter tb_X12_isLetter := tOK_of 9 tn_of (by decide +kernel)
def f_X12_isLetter (L : Lay) (σ : Sto) (a0 : Int32) : Option Int32 := (f_X12_in L σ a0 97 122).bind fun r1 => (ckN 1 r1).bind fun _ => some r1
def ad_X12_isLetter : ADT := fun O L σ as k => match as with
  | [.inl a0] => (f_X12_isLetter L σ a0).bind fun r => k (some (vI r)) L σ
  | _ => none
abbrev cl_X12_isLetter {O : Type} : CLT O := (clc 147 ad_X12_in cl0)
theorem hc_X12_isLetter (G : GT) (l : Launch) {d : Nat} (hd : 2 ≤ d) {O : Type} : HCL G l (true, true) d (cl_X12_isLetter (O := O)) := (hclc (ca_X12_in G l (d := 1) (Nat.le_refl _)) (fun _ => rfl) (fun _ => rfl) (by omega) hcl0)
theorem rt_X12_isLetter : retOK (1, 0) (some .boolean) := ⟨fun _ => rfl, fun h => absurd h (by decide), fun h => absurd h (by decide)⟩
set_option maxRecDepth 20000 in
theorem ca_X12_isLetter (G : GT) (l : Launch) {d : Nat} (hd : 2 ≤ d) : CA G l 154 (true, true) d ad_X12_isLetter := by
  intro O L σ as k o h hW hok
  unfold ad_X12_isLetter at h
  split at h
  · have hA0 := h
    obtain ⟨r, hr, hk⟩ := Option.bind_eq_some_iff.mp hA0
    exact ca_of (q := (dcPI L σ) r) (by decide) rfl (Nat.le_of_ble_eq_true rfl) hk (fun _ => rfl) (fun _ => rfl) (exs (sp := []) (K := k0) (L0 := L) (σ0 := σ) ok_X12_isLetter rt_X12_isLetter (by omega) (hc_X12_isLetter G l hd) (hrPI rfl rfl) hk0 8 hr (inv0 hW hok))
  · cases h
def tt_X12_isDigit (pc : Nat) : TI := bif Nat.blt pc 3 then (bif Nat.blt pc 1 then (bif Nat.beq pc 0 then (.iload_n 0, 1, (0, 0, 0), 0, 0, []) else TN) else (bif Nat.beq pc 1 then (.bipush 48, 3, (0, 0, 0), 48, 0, []) else TN)) else (bif Nat.blt pc 5 then (bif Nat.beq pc 3 then (.bipush 57, 5, (0, 0, 0), 57, 0, []) else TN) else (bif Nat.blt pc 8 then (bif Nat.beq pc 5 then (.invokestatic 146, 8, (147, 3, 0), 0, 0, []) else TN) else (bif Nat.beq pc 8 then (.ireturn, 9, (0, 0, 0), 0, 0, []) else TN)))
def tb_X12_isDigit (pc : Nat) : TI := bif Nat.ble 9 pc then TN else tt_X12_isDigit pc
theorem ok_X12_isDigit : tOK 12 (decide ("isDigit" = "<init>")) cX12_isDigit tb_X12_isDigit := tOK_of 9 tn_of (by decide +kernel)
def f_X12_isDigit (L : Lay) (σ : Sto) (a0 : Int32) : Option Int32 := (f_X12_in L σ a0 48 57).bind fun r1 => (ckN 1 r1).bind fun _ => some r1
def ad_X12_isDigit : ADT := fun O L σ as k => match as with
  | [.inl a0] => (f_X12_isDigit L σ a0).bind fun r => k (some (vI r)) L σ
  | _ => none
abbrev cl_X12_isDigit {O : Type} : CLT O := (clc 147 ad_X12_in cl0)
theorem hc_X12_isDigit (G : GT) (l : Launch) {d : Nat} (hd : 2 ≤ d) {O : Type} : HCL G l (true, true) d (cl_X12_isDigit (O := O)) := (hclc (ca_X12_in G l (d := 1) (Nat.le_refl _)) (fun _ => rfl) (fun _ => rfl) (by omega) hcl0)
theorem rt_X12_isDigit : retOK (1, 0) (some .boolean) := ⟨fun _ => rfl, fun h => absurd h (by decide), fun h => absurd h (by decide)⟩
set_option maxRecDepth 20000 in
theorem ca_X12_isDigit (G : GT) (l : Launch) {d : Nat} (hd : 2 ≤ d) : CA G l 151 (true, true) d ad_X12_isDigit := by
  intro O L σ as k o h hW hok
  unfold ad_X12_isDigit at h
  split at h
  · have hA0 := h
    obtain ⟨r, hr, hk⟩ := Option.bind_eq_some_iff.mp hA0
    exact ca_of (q := (dcPI L σ) r) (by decide) rfl (Nat.le_of_ble_eq_true rfl) hk (fun _ => rfl) (fun _ => rfl) (exs (sp := []) (K := k0) (L0 := L) (σ0 := σ) ok_X12_isDigit rt_X12_isDigit (by omega) (hc_X12_isDigit G l hd) (hrPI rfl rfl) hk0 8 hr (inv0 hW hok))
  · cases h
def tt_X12_next (pc : Nat) : TI := bif Nat.blt pc 120 then (bif Nat.blt pc 58 then (bif Nat.blt pc 27 then (bif Nat.blt pc 13 then (bif Nat.blt pc 5 then (bif Nat.blt pc 1 then (bif Nat.beq pc 0 then (.aload_n 0, 1, (0, 0, 0), 0, 0, []) else TN) else (bif Nat.blt pc 4 then (bif Nat.beq pc 1 then (.getfield 250, 4, (12, 53, 0), 0, 0, []) else TN) else (bif Nat.beq pc 4 then (.iconst 1, 5, (0, 0, 0), 1, 0, []) else TN))) else (bif Nat.blt pc 9 then (bif Nat.blt pc 8 then (bif Nat.beq pc 5 then (.if_icmp .eq 11, 8, (16, 0, 0), 0, 0, []) else TN) else (bif Nat.beq pc 8 then (.aload_n 0, 9, (0, 0, 0), 0, 0, []) else TN)) else (bif Nat.blt pc 12 then (bif Nat.beq pc 9 then (.getfield 250, 12, (12, 53, 0), 0, 0, []) else TN) else (bif Nat.beq pc 12 then (.iconst 2, 13, (0, 0, 0), 2, 0, []) else TN)))) else (bif Nat.blt pc 21 then (bif Nat.blt pc 17 then (bif Nat.blt pc 16 then (bif Nat.beq pc 13 then (.if_icmp .ne 7, 16, (20, 0, 0), 0, 0, []) else TN) else (bif Nat.beq pc 16 then (.iconst 1, 17, (0, 0, 0), 1, 0, []) else TN)) else (bif Nat.blt pc 20 then (bif Nat.beq pc 17 then (.goto 4, 20, (21, 0, 0), 0, 0, []) else TN) else (bif Nat.beq pc 20 then (.iconst 0, 21, (0, 0, 0), 0, 0, []) else TN))) else (bif Nat.blt pc 23 then (bif Nat.blt pc 22 then (bif Nat.beq pc 21 then (.istore_n 1, 22, (1, 0, 0), 0, 0, []) else TN) else (bif Nat.beq pc 22 then (.aload_n 0, 23, (0, 0, 0), 0, 0, []) else TN)) else (bif Nat.blt pc 26 then (bif Nat.beq pc 23 then (.getfield 253, 26, (12, 55, 0), 0, 0, []) else TN) else (bif Nat.beq pc 26 then (.istore_n 2, 27, (2, 0, 0), 0, 0, []) else TN))))) else (bif Nat.blt pc 43 then (bif Nat.blt pc 35 then (bif Nat.blt pc 29 then (bif Nat.blt pc 28 then (bif Nat.beq pc 27 then (.aload_n 0, 28, (0, 0, 0), 0, 0, []) else TN) else (bif Nat.beq pc 28 then (.aload_n 0, 29, (0, 0, 0), 0, 0, []) else TN)) else (bif Nat.blt pc 32 then (bif Nat.beq pc 29 then (.getfield 253, 32, (12, 55, 0), 0, 0, []) else TN) else (bif Nat.beq pc 32 then (.putfield 256, 35, (12, 54, 0), 0, 0, []) else TN))) else (bif Nat.blt pc 37 then (bif Nat.blt pc 36 then (bif Nat.beq pc 35 then (.aload_n 0, 36, (0, 0, 0), 0, 0, []) else TN) else (bif Nat.beq pc 36 then (.aload_n 0, 37, (0, 0, 0), 0, 0, []) else TN)) else (bif Nat.blt pc 40 then (bif Nat.beq pc 37 then (.getfield 256, 40, (12, 54, 0), 0, 0, []) else TN) else (bif Nat.beq pc 40 then (.invokevirtual 259, 43, (122, 1, 12), 0, 0, []) else TN)))) else (bif Nat.blt pc 50 then (bif Nat.blt pc 48 then (bif Nat.blt pc 45 then (bif Nat.beq pc 43 then (.bipush 32, 45, (0, 0, 0), 32, 0, []) else TN) else (bif Nat.beq pc 45 then (.if_icmp .ne 16, 48, (61, 0, 0), 0, 0, []) else TN)) else (bif Nat.blt pc 49 then (bif Nat.beq pc 48 then (.aload_n 0, 49, (0, 0, 0), 0, 0, []) else TN) else (bif Nat.beq pc 49 then (.dup, 50, (0, 0, 0), 0, 0, []) else TN))) else (bif Nat.blt pc 54 then (bif Nat.blt pc 53 then (bif Nat.beq pc 50 then (.getfield 256, 53, (12, 54, 0), 0, 0, []) else TN) else (bif Nat.beq pc 53 then (.iconst 1, 54, (0, 0, 0), 1, 0, []) else TN)) else (bif Nat.blt pc 55 then (bif Nat.beq pc 54 then (.iadd, 55, (0, 0, 0), 0, 0, []) else TN) else (bif Nat.beq pc 55 then (.putfield 256, 58, (12, 54, 0), 0, 0, []) else TN)))))) else (bif Nat.blt pc 88 then (bif Nat.blt pc 74 then (bif Nat.blt pc 66 then (bif Nat.blt pc 62 then (bif Nat.blt pc 61 then (bif Nat.beq pc 58 then (.goto (-23), 61, (35, 0, 0), 0, 0, []) else TN) else (bif Nat.beq pc 61 then (.aload_n 0, 62, (0, 0, 0), 0, 0, []) else TN)) else (bif Nat.blt pc 63 then (bif Nat.beq pc 62 then (.aload_n 0, 63, (0, 0, 0), 0, 0, []) else TN) else (bif Nat.beq pc 63 then (.getfield 256, 66, (12, 54, 0), 0, 0, []) else TN))) else (bif Nat.blt pc 70 then (bif Nat.blt pc 69 then (bif Nat.beq pc 66 then (.putfield 253, 69, (12, 55, 0), 0, 0, []) else TN) else (bif Nat.beq pc 69 then (.aload_n 0, 70, (0, 0, 0), 0, 0, []) else TN)) else (bif Nat.blt pc 71 then (bif Nat.beq pc 70 then (.aload_n 0, 71, (0, 0, 0), 0, 0, []) else TN) else (bif Nat.beq pc 71 then (.getfield 256, 74, (12, 54, 0), 0, 0, []) else TN)))) else (bif Nat.blt pc 80 then (bif Nat.blt pc 78 then (bif Nat.blt pc 77 then (bif Nat.beq pc 74 then (.invokevirtual 259, 77, (122, 1, 12), 0, 0, []) else TN) else (bif Nat.beq pc 77 then (.istore_n 3, 78, (3, 0, 0), 0, 0, []) else TN)) else (bif Nat.blt pc 79 then (bif Nat.beq pc 78 then (.aload_n 0, 79, (0, 0, 0), 0, 0, []) else TN) else (bif Nat.beq pc 79 then (.iload_n 3, 80, (3, 0, 0), 0, 0, []) else TN))) else (bif Nat.blt pc 84 then (bif Nat.blt pc 81 then (bif Nat.beq pc 80 then (.iconst (-1), 81, (0, 0, 0), -1, 0, []) else TN) else (bif Nat.beq pc 81 then (.if_icmp .ne 7, 84, (88, 0, 0), 0, 0, []) else TN)) else (bif Nat.blt pc 85 then (bif Nat.beq pc 84 then (.iconst 0, 85, (0, 0, 0), 0, 0, []) else TN) else (bif Nat.beq pc 85 then (.goto 26, 88, (111, 0, 0), 0, 0, []) else TN))))) else (bif Nat.blt pc 106 then (bif Nat.blt pc 96 then (bif Nat.blt pc 92 then (bif Nat.blt pc 89 then (bif Nat.beq pc 88 then (.iload_n 3, 89, (3, 0, 0), 0, 0, []) else TN) else (bif Nat.beq pc 89 then (.invokestatic 262, 92, (154, 1, 0), 0, 0, []) else TN)) else (bif Nat.blt pc 95 then (bif Nat.beq pc 92 then (.ifCond .eq 7, 95, (99, 0, 0), 0, 0, []) else TN) else (bif Nat.beq pc 95 then (.iconst 1, 96, (0, 0, 0), 1, 0, []) else TN))) else (bif Nat.blt pc 100 then (bif Nat.blt pc 99 then (bif Nat.beq pc 96 then (.goto 15, 99, (111, 0, 0), 0, 0, []) else TN) else (bif Nat.beq pc 99 then (.iload_n 3, 100, (3, 0, 0), 0, 0, []) else TN)) else (bif Nat.blt pc 103 then (bif Nat.beq pc 100 then (.invokestatic 265, 103, (151, 1, 0), 0, 0, []) else TN) else (bif Nat.beq pc 103 then (.ifCond .eq 7, 106, (110, 0, 0), 0, 0, []) else TN)))) else (bif Nat.blt pc 114 then (bif Nat.blt pc 110 then (bif Nat.blt pc 107 then (bif Nat.beq pc 106 then (.iconst 2, 107, (0, 0, 0), 2, 0, []) else TN) else (bif Nat.beq pc 107 then (.goto 4, 110, (111, 0, 0), 0, 0, []) else TN)) else (bif Nat.blt pc 111 then (bif Nat.beq pc 110 then (.iconst 3, 111, (0, 0, 0), 3, 0, []) else TN) else (bif Nat.beq pc 111 then (.putfield 250, 114, (12, 53, 0), 0, 0, []) else TN))) else (bif Nat.blt pc 116 then (bif Nat.blt pc 115 then (bif Nat.beq pc 114 then (.aload_n 0, 115, (0, 0, 0), 0, 0, []) else TN) else (bif Nat.beq pc 115 then (.dup, 116, (0, 0, 0), 0, 0, []) else TN)) else (bif Nat.blt pc 119 then (bif Nat.beq pc 116 then (.getfield 253, 119, (12, 55, 0), 0, 0, []) else TN) else (bif Nat.beq pc 119 then (.aload_n 0, 120, (0, 0, 0), 0, 0, []) else TN))))))) else (bif Nat.blt pc 186 then (bif Nat.blt pc 152 then (bif Nat.blt pc 136 then (bif Nat.blt pc 128 then (bif Nat.blt pc 124 then (bif Nat.blt pc 123 then (bif Nat.beq pc 120 then (.getfield 250, 123, (12, 53, 0), 0, 0, []) else TN) else (bif Nat.beq pc 123 then (.iconst 3, 124, (0, 0, 0), 3, 0, []) else TN)) else (bif Nat.blt pc 127 then (bif Nat.beq pc 124 then (.if_icmp .ne 7, 127, (131, 0, 0), 0, 0, []) else TN) else (bif Nat.beq pc 127 then (.iconst 1, 128, (0, 0, 0), 1, 0, []) else TN))) else (bif Nat.blt pc 132 then (bif Nat.blt pc 131 then (bif Nat.beq pc 128 then (.goto 4, 131, (132, 0, 0), 0, 0, []) else TN) else (bif Nat.beq pc 131 then (.iconst 0, 132, (0, 0, 0), 0, 0, []) else TN)) else (bif Nat.blt pc 133 then (bif Nat.beq pc 132 then (.iadd, 133, (0, 0, 0), 0, 0, []) else TN) else (bif Nat.beq pc 133 then (.putfield 253, 136, (12, 55, 0), 0, 0, []) else TN)))) else (bif Nat.blt pc 144 then (bif Nat.blt pc 140 then (bif Nat.blt pc 137 then (bif Nat.beq pc 136 then (.aload_n 0, 137, (0, 0, 0), 0, 0, []) else TN) else (bif Nat.beq pc 137 then (.getfield 250, 140, (12, 53, 0), 0, 0, []) else TN)) else (bif Nat.blt pc 141 then (bif Nat.beq pc 140 then (.iconst 1, 141, (0, 0, 0), 1, 0, []) else TN) else (bif Nat.beq pc 141 then (.if_icmp .ne 17, 144, (158, 0, 0), 0, 0, []) else TN))) else (bif Nat.blt pc 146 then (bif Nat.blt pc 145 then (bif Nat.beq pc 144 then (.aload_n 0, 145, (0, 0, 0), 0, 0, []) else TN) else (bif Nat.beq pc 145 then (.aload_n 0, 146, (0, 0, 0), 0, 0, []) else TN)) else (bif Nat.blt pc 149 then (bif Nat.beq pc 146 then (.getfield 253, 149, (12, 55, 0), 0, 0, []) else TN) else (bif Nat.beq pc 149 then (.invokevirtual 259, 152, (122, 1, 12), 0, 0, []) else TN))))) else (bif Nat.blt pc 168 then (bif Nat.blt pc 162 then (bif Nat.blt pc 158 then (bif Nat.blt pc 155 then (bif Nat.beq pc 152 then (.invokestatic 262, 155, (154, 1, 0), 0, 0, []) else TN) else (bif Nat.beq pc 155 then (.ifCond .ne 25, 158, (180, 0, 0), 0, 0, []) else TN)) else (bif Nat.blt pc 159 then (bif Nat.beq pc 158 then (.aload_n 0, 159, (0, 0, 0), 0, 0, []) else TN) else (bif Nat.beq pc 159 then (.getfield 250, 162, (12, 53, 0), 0, 0, []) else TN))) else (bif Nat.blt pc 166 then (bif Nat.blt pc 163 then (bif Nat.beq pc 162 then (.iconst 2, 163, (0, 0, 0), 2, 0, []) else TN) else (bif Nat.beq pc 163 then (.if_icmp .ne 30, 166, (193, 0, 0), 0, 0, []) else TN)) else (bif Nat.blt pc 167 then (bif Nat.beq pc 166 then (.aload_n 0, 167, (0, 0, 0), 0, 0, []) else TN) else (bif Nat.beq pc 167 then (.aload_n 0, 168, (0, 0, 0), 0, 0, []) else TN)))) else (bif Nat.blt pc 180 then (bif Nat.blt pc 174 then (bif Nat.blt pc 171 then (bif Nat.beq pc 168 then (.getfield 253, 171, (12, 55, 0), 0, 0, []) else TN) else (bif Nat.beq pc 171 then (.invokevirtual 259, 174, (122, 1, 12), 0, 0, []) else TN)) else (bif Nat.blt pc 177 then (bif Nat.beq pc 174 then (.invokestatic 265, 177, (151, 1, 0), 0, 0, []) else TN) else (bif Nat.beq pc 177 then (.ifCond .eq 16, 180, (193, 0, 0), 0, 0, []) else TN))) else (bif Nat.blt pc 182 then (bif Nat.blt pc 181 then (bif Nat.beq pc 180 then (.aload_n 0, 181, (0, 0, 0), 0, 0, []) else TN) else (bif Nat.beq pc 181 then (.dup, 182, (0, 0, 0), 0, 0, []) else TN)) else (bif Nat.blt pc 185 then (bif Nat.beq pc 182 then (.getfield 253, 185, (12, 55, 0), 0, 0, []) else TN) else (bif Nat.beq pc 185 then (.iconst 1, 186, (0, 0, 0), 1, 0, []) else TN)))))) else (bif Nat.blt pc 218 then (bif Nat.blt pc 202 then (bif Nat.blt pc 194 then (bif Nat.blt pc 190 then (bif Nat.blt pc 187 then (bif Nat.beq pc 186 then (.iadd, 187, (0, 0, 0), 0, 0, []) else TN) else (bif Nat.beq pc 187 then (.putfield 253, 190, (12, 55, 0), 0, 0, []) else TN)) else (bif Nat.blt pc 193 then (bif Nat.beq pc 190 then (.goto (-54), 193, (136, 0, 0), 0, 0, []) else TN) else (bif Nat.beq pc 193 then (.iload_n 1, 194, (1, 0, 0), 0, 0, []) else TN))) else (bif Nat.blt pc 198 then (bif Nat.blt pc 197 then (bif Nat.beq pc 194 then (.ifCond .eq 31, 197, (225, 0, 0), 0, 0, []) else TN) else (bif Nat.beq pc 197 then (.aload_n 0, 198, (0, 0, 0), 0, 0, []) else TN)) else (bif Nat.blt pc 201 then (bif Nat.beq pc 198 then (.getfield 256, 201, (12, 54, 0), 0, 0, []) else TN) else (bif Nat.beq pc 201 then (.iload_n 2, 202, (2, 0, 0), 0, 0, []) else TN)))) else (bif Nat.blt pc 210 then (bif Nat.blt pc 206 then (bif Nat.blt pc 205 then (bif Nat.beq pc 202 then (.if_icmp .ne 23, 205, (225, 0, 0), 0, 0, []) else TN) else (bif Nat.beq pc 205 then (.aload_n 0, 206, (0, 0, 0), 0, 0, []) else TN)) else (bif Nat.blt pc 209 then (bif Nat.beq pc 206 then (.getfield 250, 209, (12, 53, 0), 0, 0, []) else TN) else (bif Nat.beq pc 209 then (.iconst 1, 210, (0, 0, 0), 1, 0, []) else TN))) else (bif Nat.blt pc 214 then (bif Nat.blt pc 213 then (bif Nat.beq pc 210 then (.if_icmp .eq 11, 213, (221, 0, 0), 0, 0, []) else TN) else (bif Nat.beq pc 213 then (.aload_n 0, 214, (0, 0, 0), 0, 0, []) else TN)) else (bif Nat.blt pc 217 then (bif Nat.beq pc 214 then (.getfield 250, 217, (12, 53, 0), 0, 0, []) else TN) else (bif Nat.beq pc 217 then (.iconst 2, 218, (0, 0, 0), 2, 0, []) else TN))))) else (bif Nat.blt pc 233 then (bif Nat.blt pc 226 then (bif Nat.blt pc 222 then (bif Nat.blt pc 221 then (bif Nat.beq pc 218 then (.if_icmp .ne 7, 221, (225, 0, 0), 0, 0, []) else TN) else (bif Nat.beq pc 221 then (.iconst 1, 222, (0, 0, 0), 1, 0, []) else TN)) else (bif Nat.blt pc 225 then (bif Nat.beq pc 222 then (.goto 4, 225, (226, 0, 0), 0, 0, []) else TN) else (bif Nat.beq pc 225 then (.iconst 0, 226, (0, 0, 0), 0, 0, []) else TN))) else (bif Nat.blt pc 229 then (bif Nat.blt pc 228 then (bif Nat.beq pc 226 then (.istore 4, 228, (4, 0, 0), 0, 0, []) else TN) else (bif Nat.beq pc 228 then (.aload_n 0, 229, (0, 0, 0), 0, 0, []) else TN)) else (bif Nat.blt pc 230 then (bif Nat.beq pc 229 then (.aload_n 0, 230, (0, 0, 0), 0, 0, []) else TN) else (bif Nat.beq pc 230 then (.getfield 268, 233, (12, 56, 0), 0, 0, []) else TN)))) else (bif Nat.blt pc 242 then (bif Nat.blt pc 238 then (bif Nat.blt pc 236 then (bif Nat.beq pc 233 then (.ifCond .ne 8, 236, (241, 0, 0), 0, 0, []) else TN) else (bif Nat.beq pc 236 then (.iload 4, 238, (4, 0, 0), 0, 0, []) else TN)) else (bif Nat.blt pc 241 then (bif Nat.beq pc 238 then (.ifCond .eq 7, 241, (245, 0, 0), 0, 0, []) else TN) else (bif Nat.beq pc 241 then (.iconst 1, 242, (0, 0, 0), 1, 0, []) else TN))) else (bif Nat.blt pc 246 then (bif Nat.blt pc 245 then (bif Nat.beq pc 242 then (.goto 4, 245, (246, 0, 0), 0, 0, []) else TN) else (bif Nat.beq pc 245 then (.iconst 0, 246, (0, 0, 0), 0, 0, []) else TN)) else (bif Nat.blt pc 249 then (bif Nat.beq pc 246 then (.putfield 268, 249, (12, 56, 0), 0, 0, []) else TN) else (bif Nat.beq pc 249 then (.return_, 250, (0, 0, 0), 0, 0, []) else TN)))))))
def tb_X12_next (pc : Nat) : TI := bif Nat.ble 250 pc then TN else tt_X12_next pc
theorem ok_X12_next : tOK 12 (decide ("next" = "<init>")) cX12_next tb_X12_next := tOK_of 250 tn_of (by decide +kernel)
def f_X12_next_180 (c136 : Lay → Sto → Nat → Int32 → Int32 → Int32 → Option Sto) (L : Lay) (σ : Sto) (a0 : Nat) (a1 : Int32) (a2 : Int32) (a3 : Int32) : Option Sto := (putI σ a0 55 ((σ.1 a0 55) + 1)).bind fun σ1 => c136 L σ1 a0 a1 a2 a3
def A_X12_next_180 (c : Lay → Sto → Nat → Int32 → Int32 → Int32 → Option Sto) (lc : List (Option AV)) (st : List AV) (L : Lay) (σ : Sto) : Option Sto := match lc, st with
  | [some (.inr (.inr (.inl (ta0, some a0)))), some (.inl a1), some (.inl a2), some (.inl a3), _], [] => bif Nat.beq ta0 12 && true then c L σ a0 a1 a2 a3 else none
  | _, _ => none
def f_X12_next_246 (L : Lay) (σ : Sto) (s0 : Int32) (s1 : Nat) : Option Sto := ((ckN 1 s0).bind fun _ => putI σ s1 56 s0).bind fun σ2 => some σ2
def A_X12_next_246 (c : Lay → Sto → Int32 → Nat → Option Sto) (lc : List (Option AV)) (st : List AV) (L : Lay) (σ : Sto) : Option Sto := match lc, st with
  | [_, _, _, _, _], [.inl s0, .inr (.inr (.inl (ts1, some s1)))] => bif Nat.beq ts1 12 && true then c L σ s0 s1 else none
  | _, _ => none
def f_X12_next_241 (L : Lay) (σ : Sto) (s0 : Nat) : Option Sto := (f_X12_next_246) L σ 1 s0
def A_X12_next_241 (c : Lay → Sto → Nat → Option Sto) (lc : List (Option AV)) (st : List AV) (L : Lay) (σ : Sto) : Option Sto := match lc, st with
  | [_, _, _, _, _], [.inr (.inr (.inl (ts0, some s0)))] => bif Nat.beq ts0 12 && true then c L σ s0 else none
  | _, _ => none
def f_X12_next_226 (L : Lay) (σ : Sto) (a0 : Nat) (a3 : Int32) (s0 : Int32) : Option Sto := (if (σ.1 a0 56) = 0 then (if s0 = 0 then (f_X12_next_246) L σ 0 a0 else (f_X12_next_241) L σ a0) else (f_X12_next_241) L σ a0)
def A_X12_next_226 (c : Lay → Sto → Nat → Int32 → Int32 → Option Sto) (lc : List (Option AV)) (st : List AV) (L : Lay) (σ : Sto) : Option Sto := match lc, st with
  | [some (.inr (.inr (.inl (ta0, some a0)))), _, _, some (.inl a3), _], [.inl s0] => bif Nat.beq ta0 12 && true then c L σ a0 a3 s0 else none
  | _, _ => none
def f_X12_next_221 (L : Lay) (σ : Sto) (a0 : Nat) (a3 : Int32) : Option Sto := (f_X12_next_226) L σ a0 a3 1
def A_X12_next_221 (c : Lay → Sto → Nat → Int32 → Option Sto) (lc : List (Option AV)) (st : List AV) (L : Lay) (σ : Sto) : Option Sto := match lc, st with
  | [some (.inr (.inr (.inl (ta0, some a0)))), _, _, some (.inl a3), _], [] => bif Nat.beq ta0 12 && true then c L σ a0 a3 else none
  | _, _ => none
def f_X12_next_225 (L : Lay) (σ : Sto) (a0 : Nat) (a3 : Int32) : Option Sto := (f_X12_next_226) L σ a0 a3 0
def A_X12_next_225 (c : Lay → Sto → Nat → Int32 → Option Sto) (lc : List (Option AV)) (st : List AV) (L : Lay) (σ : Sto) : Option Sto := match lc, st with
  | [some (.inr (.inr (.inl (ta0, some a0)))), _, _, some (.inl a3), _], [] => bif Nat.beq ta0 12 && true then c L σ a0 a3 else none
  | _, _ => none
def f_X12_next_193 (L : Lay) (σ : Sto) (a0 : Nat) (a1 : Int32) (a2 : Int32) (a3 : Int32) : Option Sto := (if a1 = 0 then (f_X12_next_225) L σ a0 a3 else (if (σ.1 a0 54) = a2 then (if (σ.1 a0 53) = 1 then (f_X12_next_221) L σ a0 a3 else (if (σ.1 a0 53) = 2 then (f_X12_next_221) L σ a0 a3 else (f_X12_next_225) L σ a0 a3)) else (f_X12_next_225) L σ a0 a3))
def A_X12_next_193 (c : Lay → Sto → Nat → Int32 → Int32 → Int32 → Option Sto) (lc : List (Option AV)) (st : List AV) (L : Lay) (σ : Sto) : Option Sto := match lc, st with
  | [some (.inr (.inr (.inl (ta0, some a0)))), some (.inl a1), some (.inl a2), some (.inl a3), _], [] => bif Nat.beq ta0 12 && true then c L σ a0 a1 a2 a3 else none
  | _, _ => none
def f_X12_next_158 (c136 : Lay → Sto → Nat → Int32 → Int32 → Int32 → Option Sto) (L : Lay) (σ : Sto) (a0 : Nat) (a1 : Int32) (a2 : Int32) (a3 : Int32) : Option Sto := (if (σ.1 a0 53) = 2 then (f_X12_at L σ a0 (σ.1 a0 55)).bind fun r3 => (f_X12_isDigit L σ r3).bind fun r4 => (if r4 = 0 then (f_X12_next_193) L σ a0 a1 a2 a3 else (f_X12_next_180 c136) L σ a0 a1 a2 a3) else (f_X12_next_193) L σ a0 a1 a2 a3)
def A_X12_next_158 (c : Lay → Sto → Nat → Int32 → Int32 → Int32 → Option Sto) (lc : List (Option AV)) (st : List AV) (L : Lay) (σ : Sto) : Option Sto := match lc, st with
  | [some (.inr (.inr (.inl (ta0, some a0)))), some (.inl a1), some (.inl a2), some (.inl a3), _], [] => bif Nat.beq ta0 12 && true then c L σ a0 a1 a2 a3 else none
  | _, _ => none
def f_X12_next_136 : Nat → Lay → Sto → Nat → Int32 → Int32 → Int32 → Option Sto
  | 0 => fun _ _ _ _ _ _ => none
  | k + 1 => fun L σ a0 a1 a2 a3 => (if (σ.1 a0 53) = 1 then (f_X12_at L σ a0 (σ.1 a0 55)).bind fun r5 => (f_X12_isLetter L σ r5).bind fun r6 => (if r6 = 0 then (f_X12_next_158 (f_X12_next_136 k)) L σ a0 a1 a2 a3 else (f_X12_next_180 (f_X12_next_136 k)) L σ a0 a1 a2 a3) else (f_X12_next_158 (f_X12_next_136 k)) L σ a0 a1 a2 a3)
def A_X12_next_136 (c : Lay → Sto → Nat → Int32 → Int32 → Int32 → Option Sto) (lc : List (Option AV)) (st : List AV) (L : Lay) (σ : Sto) : Option Sto := match lc, st with
  | [some (.inr (.inr (.inl (ta0, some a0)))), some (.inl a1), some (.inl a2), some (.inl a3), _], [] => bif Nat.beq ta0 12 && true then c L σ a0 a1 a2 a3 else none
  | _, _ => none
def f_X12_next_132 (L : Lay) (σ : Sto) (a0 : Nat) (a1 : Int32) (a2 : Int32) (a3 : Int32) (s0 : Int32) (s1 : Int32) (s2 : Nat) : Option Sto := (putI σ s2 55 (s1 + s0)).bind fun σ7 => (f_X12_next_136 FU) L σ7 a0 a1 a2 a3
def A_X12_next_132 (c : Lay → Sto → Nat → Int32 → Int32 → Int32 → Int32 → Int32 → Nat → Option Sto) (lc : List (Option AV)) (st : List AV) (L : Lay) (σ : Sto) : Option Sto := match lc, st with
  | [some (.inr (.inr (.inl (ta0, some a0)))), some (.inl a1), some (.inl a2), some (.inl a3), _], [.inl s0, .inl s1, .inr (.inr (.inl (ts2, some s2)))] => bif Nat.beq ta0 12 && (Nat.beq ts2 12 && true) then c L σ a0 a1 a2 a3 s0 s1 s2 else none
  | _, _ => none
def f_X12_next_111 (L : Lay) (σ : Sto) (a0 : Nat) (a1 : Int32) (a2 : Int32) (a3 : Int32) (s0 : Int32) (s1 : Nat) : Option Sto := (putI σ s1 53 s0).bind fun σ8 => (if (σ8.1 a0 53) = 3 then (f_X12_next_132) L σ8 a0 a1 a2 a3 1 (σ8.1 a0 55) a0 else (f_X12_next_132) L σ8 a0 a1 a2 a3 0 (σ8.1 a0 55) a0)
def A_X12_next_111 (c : Lay → Sto → Nat → Int32 → Int32 → Int32 → Int32 → Nat → Option Sto) (lc : List (Option AV)) (st : List AV) (L : Lay) (σ : Sto) : Option Sto := match lc, st with
  | [some (.inr (.inr (.inl (ta0, some a0)))), some (.inl a1), some (.inl a2), some (.inl a3), _], [.inl s0, .inr (.inr (.inl (ts1, some s1)))] => bif Nat.beq ta0 12 && (Nat.beq ts1 12 && true) then c L σ a0 a1 a2 a3 s0 s1 else none
  | _, _ => none
def f_X12_next_35 : Nat → Lay → Sto → Nat → Int32 → Int32 → Option Sto
  | 0 => fun _ _ _ _ _ => none
  | k + 1 => fun L σ a0 a1 a2 => (f_X12_at L σ a0 (σ.1 a0 54)).bind fun r9 => (if r9 = 32 then (putI σ a0 54 ((σ.1 a0 54) + 1)).bind fun σ14 => (f_X12_next_35 k) L σ14 a0 a1 a2 else (putI σ a0 55 (σ.1 a0 54)).bind fun σ10 => (f_X12_at L σ10 a0 (σ10.1 a0 54)).bind fun r11 => (if r11 = (-1) then (f_X12_next_111) L σ10 a0 a1 a2 r11 0 a0 else (f_X12_isLetter L σ10 r11).bind fun r12 => (if r12 = 0 then (f_X12_isDigit L σ10 r11).bind fun r13 => (if r13 = 0 then (f_X12_next_111) L σ10 a0 a1 a2 r11 3 a0 else (f_X12_next_111) L σ10 a0 a1 a2 r11 2 a0) else (f_X12_next_111) L σ10 a0 a1 a2 r11 1 a0)))
def A_X12_next_35 (c : Lay → Sto → Nat → Int32 → Int32 → Option Sto) (lc : List (Option AV)) (st : List AV) (L : Lay) (σ : Sto) : Option Sto := match lc, st with
  | [some (.inr (.inr (.inl (ta0, some a0)))), some (.inl a1), some (.inl a2), _, _], [] => bif Nat.beq ta0 12 && true then c L σ a0 a1 a2 else none
  | _, _ => none
def f_X12_next_21 (L : Lay) (σ : Sto) (a0 : Nat) (s0 : Int32) : Option Sto := (putI σ a0 54 (σ.1 a0 55)).bind fun σ15 => (f_X12_next_35 FU) L σ15 a0 s0 (σ.1 a0 55)
def A_X12_next_21 (c : Lay → Sto → Nat → Int32 → Option Sto) (lc : List (Option AV)) (st : List AV) (L : Lay) (σ : Sto) : Option Sto := match lc, st with
  | [some (.inr (.inr (.inl (ta0, some a0)))), _, _, _, _], [.inl s0] => bif Nat.beq ta0 12 && true then c L σ a0 s0 else none
  | _, _ => none
def f_X12_next_16 (L : Lay) (σ : Sto) (a0 : Nat) : Option Sto := (f_X12_next_21) L σ a0 1
def A_X12_next_16 (c : Lay → Sto → Nat → Option Sto) (lc : List (Option AV)) (st : List AV) (L : Lay) (σ : Sto) : Option Sto := match lc, st with
  | [some (.inr (.inr (.inl (ta0, some a0)))), _, _, _, _], [] => bif Nat.beq ta0 12 && true then c L σ a0 else none
  | _, _ => none
def f_X12_next (L : Lay) (σ : Sto) (a0 : Nat) : Option Sto := (if (σ.1 a0 53) = 1 then (f_X12_next_16) L σ a0 else (if (σ.1 a0 53) = 2 then (f_X12_next_16) L σ a0 else (f_X12_next_21) L σ a0 0))
def ad_X12_next : ADT := fun O L σ as k => match as with
  | [.inr (.inr (.inl (ta0, some a0)))] => bif Nat.beq ta0 12 && true then (f_X12_next L σ a0).bind fun σ2 => k none L σ2 else none
  | _ => none
abbrev cl_X12_next {O : Type} : CLT O := (clc 122 ad_X12_at (clc 151 ad_X12_isDigit (clc 154 ad_X12_isLetter cl0)))
theorem hc_X12_next (G : GT) (l : Launch) {d : Nat} (hd : 3 ≤ d) {O : Type} : HCL G l (true, false) d (cl_X12_next (O := O)) := (hclc (ca_X12_at G l (d := 1) (Nat.le_refl _)) (fun _ => rfl) (fun e => by cases e) (by omega) (hclc (ca_X12_isDigit G l (d := 2) (Nat.le_refl _)) (fun _ => rfl) (fun e => by cases e) (by omega) (hclc (ca_X12_isLetter G l (d := 2) (Nat.le_refl _)) (fun _ => rfl) (fun e => by cases e) (by omega) hcl0)))
theorem rt_X12_next : retOK (6, 0) none := ⟨fun h => absurd h (by decide), fun h => absurd h (by decide), fun _ => rfl⟩
set_option maxRecDepth 20000 in
theorem b_X12_next_180 {G : GT} {l : Launch} {d : Nat} {L0 : Lay} {σ0 : Sto} (hd : 3 ≤ d) {c136 : Lay → Sto → Nat → Int32 → Int32 → Int32 → Option Sto} (h136 : HF G l 12 "next" cX12_next 5 none d L0 σ0 (true, false) (dcV L0) 136 (A_X12_next_136 c136)) : HF G l 12 "next" cX12_next 5 none d L0 σ0 (true, false) (dcV L0) 180 (A_X12_next_180 (f_X12_next_180 c136)) := by
  intro lc st L σ o h hI
  unfold A_X12_next_180 at h
  split at h
  · obtain ⟨hq0, hA1⟩ := bif_s h
    obtain ⟨e0, hq1⟩ := beq_and hq0
    subst e0
    exact exs (sp := [136]) (K := (kc 136 (A_X12_next_136 c136) k0)) ok_X12_next rt_X12_next (by omega) (hc_X12_next G l hd) (hrV rfl) (hkc h136 hk0) 130 hA1 hI
  · cases h
set_option maxRecDepth 20000 in
theorem b_X12_next_246 {G : GT} {l : Launch} {d : Nat} {L0 : Lay} {σ0 : Sto} (hd : 3 ≤ d) : HF G l 12 "next" cX12_next 5 none d L0 σ0 (true, false) (dcV L0) 246 (A_X12_next_246 f_X12_next_246) := by
  intro lc st L σ o h hI
  unfold A_X12_next_246 at h
  split at h
  · obtain ⟨hq0, hA1⟩ := bif_s h
    obtain ⟨e0, hq1⟩ := beq_and hq0
    subst e0
    exact exs (sp := []) (K := k0) ok_X12_next rt_X12_next (by omega) (hc_X12_next G l hd) (hrV rfl) hk0 130 hA1 hI
  · cases h
set_option maxRecDepth 20000 in
theorem b_X12_next_241 {G : GT} {l : Launch} {d : Nat} {L0 : Lay} {σ0 : Sto} (hd : 3 ≤ d) : HF G l 12 "next" cX12_next 5 none d L0 σ0 (true, false) (dcV L0) 241 (A_X12_next_241 f_X12_next_241) := by
  intro lc st L σ o h hI
  unfold A_X12_next_241 at h
  split at h
  · obtain ⟨hq0, hA1⟩ := bif_s h
    obtain ⟨e0, hq1⟩ := beq_and hq0
    subst e0
    exact exs (sp := [246]) (K := (kc 246 (A_X12_next_246 (f_X12_next_246)) k0)) ok_X12_next rt_X12_next (by omega) (hc_X12_next G l hd) (hrV rfl) (hkc (b_X12_next_246 hd) hk0) 130 hA1 hI
  · cases h
set_option maxRecDepth 20000 in
theorem b_X12_next_226 {G : GT} {l : Launch} {d : Nat} {L0 : Lay} {σ0 : Sto} (hd : 3 ≤ d) : HF G l 12 "next" cX12_next 5 none d L0 σ0 (true, false) (dcV L0) 226 (A_X12_next_226 f_X12_next_226) := by
  intro lc st L σ o h hI
  unfold A_X12_next_226 at h
  split at h
  · obtain ⟨hq0, hA1⟩ := bif_s h
    obtain ⟨e0, hq1⟩ := beq_and hq0
    subst e0
    exact exs (sp := [241, 246]) (K := (kc 241 (A_X12_next_241 (f_X12_next_241)) (kc 246 (A_X12_next_246 (f_X12_next_246)) k0))) ok_X12_next rt_X12_next (by omega) (hc_X12_next G l hd) (hrV rfl) (hkc (b_X12_next_241 hd) (hkc (b_X12_next_246 hd) hk0)) 130 hA1 hI
  · cases h
set_option maxRecDepth 20000 in
theorem b_X12_next_221 {G : GT} {l : Launch} {d : Nat} {L0 : Lay} {σ0 : Sto} (hd : 3 ≤ d) : HF G l 12 "next" cX12_next 5 none d L0 σ0 (true, false) (dcV L0) 221 (A_X12_next_221 f_X12_next_221) := by
  intro lc st L σ o h hI
  unfold A_X12_next_221 at h
  split at h
  · obtain ⟨hq0, hA1⟩ := bif_s h
    obtain ⟨e0, hq1⟩ := beq_and hq0
    subst e0
    exact exs (sp := [226]) (K := (kc 226 (A_X12_next_226 (f_X12_next_226)) k0)) ok_X12_next rt_X12_next (by omega) (hc_X12_next G l hd) (hrV rfl) (hkc (b_X12_next_226 hd) hk0) 130 hA1 hI
  · cases h
set_option maxRecDepth 20000 in
theorem b_X12_next_225 {G : GT} {l : Launch} {d : Nat} {L0 : Lay} {σ0 : Sto} (hd : 3 ≤ d) : HF G l 12 "next" cX12_next 5 none d L0 σ0 (true, false) (dcV L0) 225 (A_X12_next_225 f_X12_next_225) := by
  intro lc st L σ o h hI
  unfold A_X12_next_225 at h
  split at h
  · obtain ⟨hq0, hA1⟩ := bif_s h
    obtain ⟨e0, hq1⟩ := beq_and hq0
    subst e0
    exact exs (sp := [226]) (K := (kc 226 (A_X12_next_226 (f_X12_next_226)) k0)) ok_X12_next rt_X12_next (by omega) (hc_X12_next G l hd) (hrV rfl) (hkc (b_X12_next_226 hd) hk0) 130 hA1 hI
  · cases h
set_option maxRecDepth 20000 in
theorem b_X12_next_193 {G : GT} {l : Launch} {d : Nat} {L0 : Lay} {σ0 : Sto} (hd : 3 ≤ d) : HF G l 12 "next" cX12_next 5 none d L0 σ0 (true, false) (dcV L0) 193 (A_X12_next_193 f_X12_next_193) := by
  intro lc st L σ o h hI
  unfold A_X12_next_193 at h
  split at h
  · obtain ⟨hq0, hA1⟩ := bif_s h
    obtain ⟨e0, hq1⟩ := beq_and hq0
    subst e0
    exact exs (sp := [221, 225]) (K := (kc 221 (A_X12_next_221 (f_X12_next_221)) (kc 225 (A_X12_next_225 (f_X12_next_225)) k0))) ok_X12_next rt_X12_next (by omega) (hc_X12_next G l hd) (hrV rfl) (hkc (b_X12_next_221 hd) (hkc (b_X12_next_225 hd) hk0)) 130 hA1 hI
  · cases h
set_option maxRecDepth 20000 in
theorem b_X12_next_158 {G : GT} {l : Launch} {d : Nat} {L0 : Lay} {σ0 : Sto} (hd : 3 ≤ d) {c136 : Lay → Sto → Nat → Int32 → Int32 → Int32 → Option Sto} (h136 : HF G l 12 "next" cX12_next 5 none d L0 σ0 (true, false) (dcV L0) 136 (A_X12_next_136 c136)) : HF G l 12 "next" cX12_next 5 none d L0 σ0 (true, false) (dcV L0) 158 (A_X12_next_158 (f_X12_next_158 c136)) := by
  intro lc st L σ o h hI
  unfold A_X12_next_158 at h
  split at h
  · obtain ⟨hq0, hA1⟩ := bif_s h
    obtain ⟨e0, hq1⟩ := beq_and hq0
    subst e0
    exact exs (sp := [180, 193]) (K := (kc 180 (A_X12_next_180 (f_X12_next_180 c136)) (kc 193 (A_X12_next_193 (f_X12_next_193)) k0))) ok_X12_next rt_X12_next (by omega) (hc_X12_next G l hd) (hrV rfl) (hkc (b_X12_next_180 hd h136) (hkc (b_X12_next_193 hd) hk0)) 130 hA1 hI
  · cases h
set_option maxRecDepth 20000 in
theorem b_X12_next_136 {G : GT} {l : Launch} {d : Nat} {L0 : Lay} {σ0 : Sto} (hd : 3 ≤ d) : ∀ k : Nat, HF G l 12 "next" cX12_next 5 none d L0 σ0 (true, false) (dcV L0) 136 (A_X12_next_136 (f_X12_next_136 k))
  | 0 => by
    intro lc st L σ o h hI
    unfold A_X12_next_136 at h
    split at h
    · obtain ⟨_, hA1⟩ := bif_s h
      cases hA1
    · cases h
  | k + 1 => by
    have ih := b_X12_next_136 (G := G) (l := l) (d := d) (L0 := L0) (σ0 := σ0) hd k
    intro lc st L σ o h hI
    unfold A_X12_next_136 at h
    split at h
    · obtain ⟨hq0, hA1⟩ := bif_s h
      obtain ⟨e0, hq1⟩ := beq_and hq0
      subst e0
      exact exs (sp := [158, 180]) (K := (kc 158 (A_X12_next_158 (f_X12_next_158 (f_X12_next_136 k))) (kc 180 (A_X12_next_180 (f_X12_next_180 (f_X12_next_136 k))) k0))) ok_X12_next rt_X12_next (by omega) (hc_X12_next G l hd) (hrV rfl) (hkc (b_X12_next_158 hd ih) (hkc (b_X12_next_180 hd ih) hk0)) 130 hA1 hI
    · cases h
set_option maxRecDepth 20000 in
theorem b_X12_next_132 {G : GT} {l : Launch} {d : Nat} {L0 : Lay} {σ0 : Sto} (hd : 3 ≤ d) : HF G l 12 "next" cX12_next 5 none d L0 σ0 (true, false) (dcV L0) 132 (A_X12_next_132 f_X12_next_132) := by
  intro lc st L σ o h hI
  unfold A_X12_next_132 at h
  split at h
  · obtain ⟨hq0, hA1⟩ := bif_s h
    obtain ⟨e0, hq1⟩ := beq_and hq0
    obtain ⟨e1, hq2⟩ := beq_and hq1
    subst e0
    subst e1
    exact exs (sp := [136]) (K := (kc 136 (A_X12_next_136 (f_X12_next_136 FU)) k0)) ok_X12_next rt_X12_next (by omega) (hc_X12_next G l hd) (hrV rfl) (hkc (b_X12_next_136 hd FU) hk0) 130 hA1 hI
  · cases h
set_option maxRecDepth 20000 in
theorem b_X12_next_111 {G : GT} {l : Launch} {d : Nat} {L0 : Lay} {σ0 : Sto} (hd : 3 ≤ d) : HF G l 12 "next" cX12_next 5 none d L0 σ0 (true, false) (dcV L0) 111 (A_X12_next_111 f_X12_next_111) := by
  intro lc st L σ o h hI
  unfold A_X12_next_111 at h
  split at h
  · obtain ⟨hq0, hA1⟩ := bif_s h
    obtain ⟨e0, hq1⟩ := beq_and hq0
    obtain ⟨e1, hq2⟩ := beq_and hq1
    subst e0
    subst e1
    exact exs (sp := [132]) (K := (kc 132 (A_X12_next_132 (f_X12_next_132)) k0)) ok_X12_next rt_X12_next (by omega) (hc_X12_next G l hd) (hrV rfl) (hkc (b_X12_next_132 hd) hk0) 130 hA1 hI
  · cases h
set_option maxRecDepth 20000 in
theorem b_X12_next_35 {G : GT} {l : Launch} {d : Nat} {L0 : Lay} {σ0 : Sto} (hd : 3 ≤ d) : ∀ k : Nat, HF G l 12 "next" cX12_next 5 none d L0 σ0 (true, false) (dcV L0) 35 (A_X12_next_35 (f_X12_next_35 k))
  | 0 => by
    intro lc st L σ o h hI
    unfold A_X12_next_35 at h
    split at h
    · obtain ⟨_, hA1⟩ := bif_s h
      cases hA1
    · cases h
  | k + 1 => by
    have ih := b_X12_next_35 (G := G) (l := l) (d := d) (L0 := L0) (σ0 := σ0) hd k
    intro lc st L σ o h hI
    unfold A_X12_next_35 at h
    split at h
    · obtain ⟨hq0, hA1⟩ := bif_s h
      obtain ⟨e0, hq1⟩ := beq_and hq0
      subst e0
      exact exs (sp := [35, 111]) (K := (kc 35 (A_X12_next_35 (f_X12_next_35 k)) (kc 111 (A_X12_next_111 (f_X12_next_111)) k0))) ok_X12_next rt_X12_next (by omega) (hc_X12_next G l hd) (hrV rfl) (hkc ih (hkc (b_X12_next_111 hd) hk0)) 130 hA1 hI
    · cases h
set_option maxRecDepth 20000 in
theorem b_X12_next_21 {G : GT} {l : Launch} {d : Nat} {L0 : Lay} {σ0 : Sto} (hd : 3 ≤ d) : HF G l 12 "next" cX12_next 5 none d L0 σ0 (true, false) (dcV L0) 21 (A_X12_next_21 f_X12_next_21) := by
  intro lc st L σ o h hI
  unfold A_X12_next_21 at h
  split at h
  · obtain ⟨hq0, hA1⟩ := bif_s h
    obtain ⟨e0, hq1⟩ := beq_and hq0
    subst e0
    exact exs (sp := [35]) (K := (kc 35 (A_X12_next_35 (f_X12_next_35 FU)) k0)) ok_X12_next rt_X12_next (by omega) (hc_X12_next G l hd) (hrV rfl) (hkc (b_X12_next_35 hd FU) hk0) 130 hA1 hI
  · cases h
set_option maxRecDepth 20000 in
theorem b_X12_next_16 {G : GT} {l : Launch} {d : Nat} {L0 : Lay} {σ0 : Sto} (hd : 3 ≤ d) : HF G l 12 "next" cX12_next 5 none d L0 σ0 (true, false) (dcV L0) 16 (A_X12_next_16 f_X12_next_16) := by
  intro lc st L σ o h hI
  unfold A_X12_next_16 at h
  split at h
  · obtain ⟨hq0, hA1⟩ := bif_s h
    obtain ⟨e0, hq1⟩ := beq_and hq0
    subst e0
    exact exs (sp := [21]) (K := (kc 21 (A_X12_next_21 (f_X12_next_21)) k0)) ok_X12_next rt_X12_next (by omega) (hc_X12_next G l hd) (hrV rfl) (hkc (b_X12_next_21 hd) hk0) 130 hA1 hI
  · cases h
set_option maxRecDepth 20000 in
theorem ca_X12_next (G : GT) (l : Launch) {d : Nat} (hd : 3 ≤ d) : CA G l 182 (true, false) d ad_X12_next := by
  intro O L σ as k o h hW hok
  unfold ad_X12_next at h
  split at h
  · obtain ⟨hq0, hA0⟩ := bif_s h
    obtain ⟨e0, hq1⟩ := beq_and hq0
    subst e0
    obtain ⟨r, hr, hk⟩ := Option.bind_eq_some_iff.mp hA0
    exact ca_of (q := (dcV L) r) (by decide) rfl (Nat.le_of_ble_eq_true rfl) hk (fun _ => rfl) (fun e => by cases e) (exs (sp := [16, 21]) (K := (kc 16 (A_X12_next_16 (f_X12_next_16)) (kc 21 (A_X12_next_21 (f_X12_next_21)) k0))) (L0 := L) (σ0 := σ) ok_X12_next rt_X12_next (by omega) (hc_X12_next G l hd) (hrV rfl) (hkc (b_X12_next_16 hd) (hkc (b_X12_next_21 hd) hk0)) 130 hr (inv0 hW hok))
  · cases h
