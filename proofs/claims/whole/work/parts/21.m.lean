def tt_X3_addOne (pc : Nat) : TI := bif Nat.blt pc 14 then (bif Nat.blt pc 7 then (bif Nat.blt pc 1 then (bif Nat.beq pc 0 then (.iload_n 1, 1, (1, 0, 0), 0, 0, []) else TN) else (bif Nat.blt pc 4 then (bif Nat.beq pc 1 then (.invokestatic 19, 4, (78, 1, 0), 0, 0, []) else TN) else (bif Nat.beq pc 4 then (.ifCond .eq 16, 7, (20, 0, 0), 0, 0, []) else TN))) else (bif Nat.blt pc 11 then (bif Nat.blt pc 8 then (bif Nat.beq pc 7 then (.aload_n 0, 8, (0, 0, 0), 0, 0, []) else TN) else (bif Nat.beq pc 8 then (.getfield 9, 11, (3, 0, 0), 0, 0, []) else TN)) else (bif Nat.blt pc 12 then (bif Nat.beq pc 11 then (.iload_n 1, 12, (1, 0, 0), 0, 0, []) else TN) else (bif Nat.beq pc 12 then (.bipush 97, 14, (0, 0, 0), 97, 0, []) else TN)))) else (bif Nat.blt pc 17 then (bif Nat.blt pc 15 then (bif Nat.beq pc 14 then (.isub, 15, (0, 0, 0), 0, 0, []) else TN) else (bif Nat.blt pc 16 then (bif Nat.beq pc 15 then (.dup2, 16, (0, 0, 0), 0, 0, []) else TN) else (bif Nat.beq pc 16 then (.iaload, 17, (0, 0, 0), 0, 0, []) else TN))) else (bif Nat.blt pc 19 then (bif Nat.blt pc 18 then (bif Nat.beq pc 17 then (.iconst 1, 18, (0, 0, 0), 1, 0, []) else TN) else (bif Nat.beq pc 18 then (.iadd, 19, (0, 0, 0), 0, 0, []) else TN)) else (bif Nat.blt pc 20 then (bif Nat.beq pc 19 then (.iastore, 20, (0, 0, 0), 0, 0, []) else TN) else (bif Nat.beq pc 20 then (.return_, 21, (0, 0, 0), 0, 0, []) else TN))))
def tb_X3_addOne (pc : Nat) : TI := bif Nat.ble 21 pc then TN else tt_X3_addOne pc
theorem ok_X3_addOne : tOK 3 (decide ("addOne" = "<init>")) cX3_addOne tb_X3_addOne := tOK_of 21 tn_of (by decide +kernel)
def f_X3_addOne (L : Lay) (σ : Sto) (a0 : Nat) (a1 : Int32) : Option Sto := (f_X11_isLetter L σ a1).bind fun r1 => (if r1 = 0 then some σ else (σ.2.1 a0 0).bind fun x2 => (rI L σ x2 (a1 - 97)).bind fun v3 => (σ.2.1 a0 0).bind fun x4 => (wI L σ x4 (a1 - 97) (v3 + 1)).bind fun σ5 => some σ5)
def ad_X3_addOne : ADT := fun O L σ as k => match as with
  | [.inr (.inr (.inl (ta0, some a0))), .inl a1] => bif Nat.beq ta0 3 && true then (f_X3_addOne L σ a0 a1).bind fun σ2 => k none L σ2 else none
  | _ => none
abbrev cl_X3_addOne {O : Type} : CLT O := (clc 78 ad_X11_isLetter cl0)
theorem hc_X3_addOne (G : GT) (l : Launch) {d : Nat} (hd : 2 ≤ d) {O : Type} : HCL G l (true, false) d (cl_X3_addOne (O := O)) := (hclc (ca_X11_isLetter G l (d := 1) (Nat.le_refl _)) (fun _ => rfl) (fun e => by cases e) (by omega) hcl0)
theorem rt_X3_addOne : retOK (6, 0) none := ⟨fun h => absurd h (by decide), fun h => absurd h (by decide), fun _ => rfl⟩
set_option maxRecDepth 20000 in
theorem ca_X3_addOne (G : GT) (l : Launch) {d : Nat} (hd : 2 ≤ d) : CA G l 237 (true, false) d ad_X3_addOne := by
  intro O L σ as k o h hW hok
  unfold ad_X3_addOne at h
  split at h
  · obtain ⟨hq0, hA0⟩ := bif_s h
    obtain ⟨e0, hq1⟩ := beq_and hq0
    subst e0
    obtain ⟨r, hr, hk⟩ := Option.bind_eq_some_iff.mp hA0
    exact ca_of (q := (dcV L) r) (by decide) rfl (Nat.le_of_ble_eq_true rfl) hk (fun _ => rfl) (fun e => by cases e) (exs (sp := []) (K := k0) (L0 := L) (σ0 := σ) ok_X3_addOne rt_X3_addOne (by omega) (hc_X3_addOne G l hd) (hrV rfl) hk0 17 hr (inv0 hW hok))
  · cases h
def tt_X0_tellEntitled (pc : Nat) : TI := bif Nat.blt pc 44 then (bif Nat.blt pc 22 then (bif Nat.blt pc 11 then (bif Nat.blt pc 6 then (bif Nat.blt pc 1 then (bif Nat.beq pc 0 then (.aload_n 1, 1, (1, 0, 0), 0, 0, []) else TN) else (bif Nat.blt pc 3 then (bif Nat.beq pc 1 then (.bipush 101, 3, (0, 0, 0), 101, 0, []) else TN) else (bif Nat.beq pc 3 then (.invokevirtual 76, 6, (237, 1, 3), 0, 0, []) else TN))) else (bif Nat.blt pc 7 then (bif Nat.beq pc 6 then (.aload_n 1, 7, (1, 0, 0), 0, 0, []) else TN) else (bif Nat.blt pc 8 then (bif Nat.beq pc 7 then (.aload_n 0, 8, (0, 0, 0), 0, 0, []) else TN) else (bif Nat.beq pc 8 then (.getfield 15, 11, (0, 5, 0), 0, 0, []) else TN)))) else (bif Nat.blt pc 14 then (bif Nat.blt pc 12 then (bif Nat.beq pc 11 then (.iload_n 2, 12, (2, 0, 0), 0, 0, []) else TN) else (bif Nat.blt pc 13 then (bif Nat.beq pc 12 then (.iaload, 13, (0, 0, 0), 0, 0, []) else TN) else (bif Nat.beq pc 13 then (.iload_n 3, 14, (3, 0, 0), 0, 0, []) else TN))) else (bif Nat.blt pc 17 then (bif Nat.beq pc 14 then (.if_icmp .gt 8, 17, (22, 0, 0), 0, 0, []) else TN) else (bif Nat.blt pc 19 then (bif Nat.beq pc 17 then (.bipush 112, 19, (0, 0, 0), 112, 0, []) else TN) else (bif Nat.beq pc 19 then (.goto 5, 22, (24, 0, 0), 0, 0, []) else TN))))) else (bif Nat.blt pc 33 then (bif Nat.blt pc 28 then (bif Nat.blt pc 24 then (bif Nat.beq pc 22 then (.bipush 109, 24, (0, 0, 0), 109, 0, []) else TN) else (bif Nat.blt pc 27 then (bif Nat.beq pc 24 then (.invokevirtual 76, 27, (237, 1, 3), 0, 0, []) else TN) else (bif Nat.beq pc 27 then (.aload_n 0, 28, (0, 0, 0), 0, 0, []) else TN))) else (bif Nat.blt pc 31 then (bif Nat.beq pc 28 then (.getfield 19, 31, (0, 6, 0), 0, 0, []) else TN) else (bif Nat.blt pc 32 then (bif Nat.beq pc 31 then (.iload_n 2, 32, (2, 0, 0), 0, 0, []) else TN) else (bif Nat.beq pc 32 then (.iaload, 33, (0, 0, 0), 0, 0, []) else TN)))) else (bif Nat.blt pc 38 then (bif Nat.blt pc 34 then (bif Nat.beq pc 33 then (.iload_n 3, 34, (3, 0, 0), 0, 0, []) else TN) else (bif Nat.blt pc 37 then (bif Nat.beq pc 34 then (.if_icmp .le 4, 37, (38, 0, 0), 0, 0, []) else TN) else (bif Nat.beq pc 37 then (.return_, 38, (0, 0, 0), 0, 0, []) else TN))) else (bif Nat.blt pc 40 then (bif Nat.blt pc 39 then (bif Nat.beq pc 38 then (.aload_n 1, 39, (1, 0, 0), 0, 0, []) else TN) else (bif Nat.beq pc 39 then (.aload_n 0, 40, (0, 0, 0), 0, 0, []) else TN)) else (bif Nat.blt pc 43 then (bif Nat.beq pc 40 then (.getfield 22, 43, (0, 7, 0), 0, 0, []) else TN) else (bif Nat.beq pc 43 then (.iload_n 2, 44, (2, 0, 0), 0, 0, []) else TN)))))) else (bif Nat.blt pc 69 then (bif Nat.blt pc 58 then (bif Nat.blt pc 50 then (bif Nat.blt pc 45 then (bif Nat.beq pc 44 then (.iaload, 45, (0, 0, 0), 0, 0, []) else TN) else (bif Nat.blt pc 48 then (bif Nat.beq pc 45 then (.ifCond .ne 8, 48, (53, 0, 0), 0, 0, []) else TN) else (bif Nat.beq pc 48 then (.bipush 98, 50, (0, 0, 0), 98, 0, []) else TN))) else (bif Nat.blt pc 53 then (bif Nat.beq pc 50 then (.goto 5, 53, (55, 0, 0), 0, 0, []) else TN) else (bif Nat.blt pc 55 then (bif Nat.beq pc 53 then (.bipush 114, 55, (0, 0, 0), 114, 0, []) else TN) else (bif Nat.beq pc 55 then (.invokevirtual 76, 58, (237, 1, 3), 0, 0, []) else TN)))) else (bif Nat.blt pc 63 then (bif Nat.blt pc 59 then (bif Nat.beq pc 58 then (.aload_n 0, 59, (0, 0, 0), 0, 0, []) else TN) else (bif Nat.blt pc 62 then (bif Nat.beq pc 59 then (.getfield 22, 62, (0, 7, 0), 0, 0, []) else TN) else (bif Nat.beq pc 62 then (.iload_n 2, 63, (2, 0, 0), 0, 0, []) else TN))) else (bif Nat.blt pc 65 then (bif Nat.blt pc 64 then (bif Nat.beq pc 63 then (.iaload, 64, (0, 0, 0), 0, 0, []) else TN) else (bif Nat.beq pc 64 then (.iconst 1, 65, (0, 0, 0), 1, 0, []) else TN)) else (bif Nat.blt pc 68 then (bif Nat.beq pc 65 then (.if_icmp .ne 12, 68, (77, 0, 0), 0, 0, []) else TN) else (bif Nat.beq pc 68 then (.aload_n 1, 69, (1, 0, 0), 0, 0, []) else TN))))) else (bif Nat.blt pc 82 then (bif Nat.blt pc 77 then (bif Nat.blt pc 71 then (bif Nat.beq pc 69 then (.bipush 121, 71, (0, 0, 0), 121, 0, []) else TN) else (bif Nat.blt pc 74 then (bif Nat.beq pc 71 then (.invokevirtual 76, 74, (237, 1, 3), 0, 0, []) else TN) else (bif Nat.beq pc 74 then (.goto 19, 77, (93, 0, 0), 0, 0, []) else TN))) else (bif Nat.blt pc 78 then (bif Nat.beq pc 77 then (.aload_n 0, 78, (0, 0, 0), 0, 0, []) else TN) else (bif Nat.blt pc 81 then (bif Nat.beq pc 78 then (.getfield 22, 81, (0, 7, 0), 0, 0, []) else TN) else (bif Nat.beq pc 81 then (.iload_n 2, 82, (2, 0, 0), 0, 0, []) else TN)))) else (bif Nat.blt pc 87 then (bif Nat.blt pc 83 then (bif Nat.beq pc 82 then (.iaload, 83, (0, 0, 0), 0, 0, []) else TN) else (bif Nat.blt pc 84 then (bif Nat.beq pc 83 then (.iconst 2, 84, (0, 0, 0), 2, 0, []) else TN) else (bif Nat.beq pc 84 then (.if_icmp .ne 9, 87, (93, 0, 0), 0, 0, []) else TN))) else (bif Nat.blt pc 90 then (bif Nat.blt pc 88 then (bif Nat.beq pc 87 then (.aload_n 1, 88, (1, 0, 0), 0, 0, []) else TN) else (bif Nat.beq pc 88 then (.bipush 110, 90, (0, 0, 0), 110, 0, []) else TN)) else (bif Nat.blt pc 93 then (bif Nat.beq pc 90 then (.invokevirtual 76, 93, (237, 1, 3), 0, 0, []) else TN) else (bif Nat.beq pc 93 then (.return_, 94, (0, 0, 0), 0, 0, []) else TN))))))
def tb_X0_tellEntitled (pc : Nat) : TI := bif Nat.ble 94 pc then TN else tt_X0_tellEntitled pc
theorem ok_X0_tellEntitled : tOK 0 (decide ("tellEntitled" = "<init>")) cX0_tellEntitled tb_X0_tellEntitled := tOK_of 94 tn_of (by decide +kernel)
def f_X0_tellEntitled_55 (L : Lay) (σ : Sto) (a0 : Nat) (a1 : Option Nat) (a2 : Int32) (s0 : Int32) (s1 : Option Nat) : Option Sto := s1.bind fun x1 => (f_X3_addOne L σ x1 s0).bind fun σ2 => (σ2.2.1 a0 7).bind fun x3 => (rI L σ2 x3 a2).bind fun v4 => (if v4 = 1 then a1.bind fun x9 => (f_X3_addOne L σ2 x9 121).bind fun σ10 => some σ10 else (σ2.2.1 a0 7).bind fun x5 => (rI L σ2 x5 a2).bind fun v6 => (if v6 = 2 then a1.bind fun x7 => (f_X3_addOne L σ2 x7 110).bind fun σ8 => some σ8 else some σ2))
def A_X0_tellEntitled_55 (c : Lay → Sto → Nat → Option Nat → Int32 → Int32 → Option Nat → Option Sto) (lc : List (Option AV)) (st : List AV) (L : Lay) (σ : Sto) : Option Sto := match lc, st with
  | [some (.inr (.inr (.inl (ta0, some a0)))), some (.inr (.inr (.inl (ta1, a1)))), some (.inl a2), _], [.inl s0, .inr (.inr (.inl (ts1, s1)))] => bif Nat.beq ta0 0 && (Nat.beq ta1 3 && (Nat.beq ts1 3 && true)) then c L σ a0 a1 a2 s0 s1 else none
  | _, _ => none
def f_X0_tellEntitled_24 (L : Lay) (σ : Sto) (a0 : Nat) (a1 : Option Nat) (a2 : Int32) (a3 : Int32) (s0 : Int32) (s1 : Option Nat) : Option Sto := s1.bind fun x11 => (f_X3_addOne L σ x11 s0).bind fun σ12 => (σ12.2.1 a0 6).bind fun x13 => (rI L σ12 x13 a2).bind fun v14 => (if v14 ≤ a3 then (σ12.2.1 a0 7).bind fun x15 => (rI L σ12 x15 a2).bind fun v16 => (if v16 = 0 then (f_X0_tellEntitled_55) L σ12 a0 a1 a2 98 a1 else (f_X0_tellEntitled_55) L σ12 a0 a1 a2 114 a1) else some σ12)
def A_X0_tellEntitled_24 (c : Lay → Sto → Nat → Option Nat → Int32 → Int32 → Int32 → Option Nat → Option Sto) (lc : List (Option AV)) (st : List AV) (L : Lay) (σ : Sto) : Option Sto := match lc, st with
  | [some (.inr (.inr (.inl (ta0, some a0)))), some (.inr (.inr (.inl (ta1, a1)))), some (.inl a2), some (.inl a3)], [.inl s0, .inr (.inr (.inl (ts1, s1)))] => bif Nat.beq ta0 0 && (Nat.beq ta1 3 && (Nat.beq ts1 3 && true)) then c L σ a0 a1 a2 a3 s0 s1 else none
  | _, _ => none
def f_X0_tellEntitled (L : Lay) (σ : Sto) (a0 : Nat) (a1 : Option Nat) (a2 : Int32) (a3 : Int32) : Option Sto := a1.bind fun x17 => (f_X3_addOne L σ x17 101).bind fun σ18 => (σ18.2.1 a0 5).bind fun x19 => (rI L σ18 x19 a2).bind fun v20 => (if a3 < v20 then (f_X0_tellEntitled_24) L σ18 a0 a1 a2 a3 109 a1 else (f_X0_tellEntitled_24) L σ18 a0 a1 a2 a3 112 a1)
def ad_X0_tellEntitled : ADT := fun O L σ as k => match as with
  | [.inr (.inr (.inl (ta0, some a0))), .inr (.inr (.inl (ta1, a1))), .inl a2, .inl a3] => bif Nat.beq ta0 0 && (Nat.beq ta1 3 && true) then (f_X0_tellEntitled L σ a0 a1 a2 a3).bind fun σ2 => k none L σ2 else none
  | _ => none
abbrev cl_X0_tellEntitled {O : Type} : CLT O := (clc 237 ad_X3_addOne cl0)
theorem hc_X0_tellEntitled (G : GT) (l : Launch) {d : Nat} (hd : 3 ≤ d) {O : Type} : HCL G l (true, false) d (cl_X0_tellEntitled (O := O)) := (hclc (ca_X3_addOne G l (d := 2) (Nat.le_refl _)) (fun _ => rfl) (fun e => by cases e) (by omega) hcl0)
theorem rt_X0_tellEntitled : retOK (6, 0) none := ⟨fun h => absurd h (by decide), fun h => absurd h (by decide), fun _ => rfl⟩
set_option maxRecDepth 20000 in
theorem b_X0_tellEntitled_55 {G : GT} {l : Launch} {d : Nat} {L0 : Lay} {σ0 : Sto} (hd : 3 ≤ d) : HF G l 0 "tellEntitled" cX0_tellEntitled 4 none d L0 σ0 (true, false) (dcV L0) 55 (A_X0_tellEntitled_55 f_X0_tellEntitled_55) := by
  intro lc st L σ o h hI
  unfold A_X0_tellEntitled_55 at h
  split at h
  · obtain ⟨hq0, hA1⟩ := bif_s h
    obtain ⟨e0, hq1⟩ := beq_and hq0
    obtain ⟨e1, hq2⟩ := beq_and hq1
    obtain ⟨e2, hq3⟩ := beq_and hq2
    subst e0
    subst e1
    subst e2
    exact exs (sp := []) (K := k0) ok_X0_tellEntitled rt_X0_tellEntitled (by omega) (hc_X0_tellEntitled G l hd) (hrV rfl) hk0 54 hA1 hI
  · cases h
set_option maxRecDepth 20000 in
theorem b_X0_tellEntitled_24 {G : GT} {l : Launch} {d : Nat} {L0 : Lay} {σ0 : Sto} (hd : 3 ≤ d) : HF G l 0 "tellEntitled" cX0_tellEntitled 4 none d L0 σ0 (true, false) (dcV L0) 24 (A_X0_tellEntitled_24 f_X0_tellEntitled_24) := by
  intro lc st L σ o h hI
  unfold A_X0_tellEntitled_24 at h
  split at h
  · obtain ⟨hq0, hA1⟩ := bif_s h
    obtain ⟨e0, hq1⟩ := beq_and hq0
    obtain ⟨e1, hq2⟩ := beq_and hq1
    obtain ⟨e2, hq3⟩ := beq_and hq2
    subst e0
    subst e1
    subst e2
    exact exs (sp := [55]) (K := (kc 55 (A_X0_tellEntitled_55 (f_X0_tellEntitled_55)) k0)) ok_X0_tellEntitled rt_X0_tellEntitled (by omega) (hc_X0_tellEntitled G l hd) (hrV rfl) (hkc (b_X0_tellEntitled_55 hd) hk0) 54 hA1 hI
  · cases h
set_option maxRecDepth 20000 in
theorem ca_X0_tellEntitled (G : GT) (l : Launch) {d : Nat} (hd : 3 ≤ d) : CA G l 42 (true, false) d ad_X0_tellEntitled := by
  intro O L σ as k o h hW hok
  unfold ad_X0_tellEntitled at h
  split at h
  · obtain ⟨hq0, hA0⟩ := bif_s h
    obtain ⟨e0, hq1⟩ := beq_and hq0
    obtain ⟨e1, hq2⟩ := beq_and hq1
    subst e0
    subst e1
    obtain ⟨r, hr, hk⟩ := Option.bind_eq_some_iff.mp hA0
    exact ca_of (q := (dcV L) r) (by decide) rfl (Nat.le_of_ble_eq_true rfl) hk (fun _ => rfl) (fun e => by cases e) (exs (sp := [24]) (K := (kc 24 (A_X0_tellEntitled_24 (f_X0_tellEntitled_24)) k0)) (L0 := L) (σ0 := σ) ok_X0_tellEntitled rt_X0_tellEntitled (by omega) (hc_X0_tellEntitled G l hd) (hrV rfl) (hkc (b_X0_tellEntitled_24 hd) hk0) 54 hr (inv0 hW hok))
  · cases h
def tt_X3_clear (pc : Nat) : TI := bif Nat.blt pc 4 then (bif Nat.blt pc 1 then (bif Nat.beq pc 0 then (.aload_n 0, 1, (0, 0, 0), 0, 0, []) else TN) else (bif Nat.beq pc 1 then (.getfield 9, 4, (3, 0, 0), 0, 0, []) else TN)) else (bif Nat.blt pc 5 then (bif Nat.beq pc 4 then (.iconst 0, 5, (0, 0, 0), 0, 0, []) else TN) else (bif Nat.blt pc 8 then (bif Nat.beq pc 5 then (.invokestatic 13, 8, (30, 2, 0), 0, 0, []) else TN) else (bif Nat.beq pc 8 then (.return_, 9, (0, 0, 0), 0, 0, []) else TN)))
def tb_X3_clear (pc : Nat) : TI := bif Nat.ble 9 pc then TN else tt_X3_clear pc
theorem ok_X3_clear : tOK 3 (decide ("clear" = "<init>")) cX3_clear tb_X3_clear := tOK_of 9 tn_of (by decide +kernel)
def f_X3_clear (L : Lay) (σ : Sto) (a0 : Nat) : Option Sto := (f_J7_fill_53178 L σ (σ.2.1 a0 0) 0).bind fun σ1 => some σ1
def ad_X3_clear : ADT := fun O L σ as k => match as with
  | [.inr (.inr (.inl (ta0, some a0)))] => bif Nat.beq ta0 3 && true then (f_X3_clear L σ a0).bind fun σ2 => k none L σ2 else none
  | _ => none
abbrev cl_X3_clear {O : Type} : CLT O := (clc 30 ad_J7_fill_53178 cl0)
theorem hc_X3_clear (G : GT) (l : Launch) {d : Nat} (hd : 2 ≤ d) {O : Type} : HCL G l (true, false) d (cl_X3_clear (O := O)) := (hclc (ca_J7_fill_53178 G l (d := 1) (Nat.le_refl _)) (fun _ => rfl) (fun e => by cases e) (by omega) hcl0)
theorem rt_X3_clear : retOK (6, 0) none := ⟨fun h => absurd h (by decide), fun h => absurd h (by decide), fun _ => rfl⟩
set_option maxRecDepth 20000 in
theorem ca_X3_clear (G : GT) (l : Launch) {d : Nat} (hd : 2 ≤ d) : CA G l 238 (true, false) d ad_X3_clear := by
  intro O L σ as k o h hW hok
  unfold ad_X3_clear at h
  split at h
  · obtain ⟨hq0, hA0⟩ := bif_s h
    obtain ⟨e0, hq1⟩ := beq_and hq0
    subst e0
    obtain ⟨r, hr, hk⟩ := Option.bind_eq_some_iff.mp hA0
    exact ca_of (q := (dcV L) r) (by decide) rfl (Nat.le_of_ble_eq_true rfl) hk (fun _ => rfl) (fun e => by cases e) (exs (sp := []) (K := k0) (L0 := L) (σ0 := σ) ok_X3_clear rt_X3_clear (by omega) (hc_X3_clear G l hd) (hrV rfl) hk0 8 hr (inv0 hW hok))
  · cases h
def tt_X10_hasBranch (pc : Nat) : TI := bif Nat.blt pc 6 then (bif Nat.blt pc 2 then (bif Nat.blt pc 1 then (bif Nat.beq pc 0 then (.iload_n 1, 1, (1, 0, 0), 0, 0, []) else TN) else (bif Nat.beq pc 1 then (.iconst 0, 2, (0, 0, 0), 0, 0, []) else TN)) else (bif Nat.blt pc 3 then (bif Nat.beq pc 2 then (.aload_n 0, 3, (0, 0, 0), 0, 0, []) else TN) else (bif Nat.beq pc 3 then (.getfield 25, 6, (10, 1, 0), 0, 0, []) else TN))) else (bif Nat.blt pc 8 then (bif Nat.blt pc 7 then (bif Nat.beq pc 6 then (.iconst 1, 7, (0, 0, 0), 1, 0, []) else TN) else (bif Nat.beq pc 7 then (.isub, 8, (0, 0, 0), 0, 0, []) else TN)) else (bif Nat.blt pc 11 then (bif Nat.beq pc 8 then (.invokestatic 21, 11, (83, 3, 0), 0, 0, []) else TN) else (bif Nat.beq pc 11 then (.ireturn, 12, (0, 0, 0), 0, 0, []) else TN)))
def tb_X10_hasBranch (pc : Nat) : TI := bif Nat.ble 12 pc then TN else tt_X10_hasBranch pc
theorem ok_X10_hasBranch : tOK 10 (decide ("hasBranch" = "<init>")) cX10_hasBranch tb_X10_hasBranch := tOK_of 12 tn_of (by decide +kernel)
def f_X10_hasBranch (L : Lay) (σ : Sto) (a0 : Nat) (a1 : Int32) : Option Int32 := (f_X11_isWithin L σ a1 0 ((σ.1 a0 1) - 1)).bind fun r1 => (ckN 1 r1).bind fun _ => some r1
def ad_X10_hasBranch : ADT := fun O L σ as k => match as with
  | [.inr (.inr (.inl (ta0, some a0))), .inl a1] => bif Nat.beq ta0 10 && true then (f_X10_hasBranch L σ a0 a1).bind fun r => k (some (vI r)) L σ else none
  | _ => none
abbrev cl_X10_hasBranch {O : Type} : CLT O := (clc 83 ad_X11_isWithin cl0)
theorem hc_X10_hasBranch (G : GT) (l : Launch) {d : Nat} (hd : 2 ≤ d) {O : Type} : HCL G l (true, true) d (cl_X10_hasBranch (O := O)) := (hclc (ca_X11_isWithin G l (d := 1) (Nat.le_refl _)) (fun _ => rfl) (fun _ => rfl) (by omega) hcl0)
theorem rt_X10_hasBranch : retOK (1, 0) (some .boolean) := ⟨fun _ => rfl, fun h => absurd h (by decide), fun h => absurd h (by decide)⟩
set_option maxRecDepth 20000 in
theorem ca_X10_hasBranch (G : GT) (l : Launch) {d : Nat} (hd : 2 ≤ d) : CA G l 47 (true, true) d ad_X10_hasBranch := by
  intro O L σ as k o h hW hok
  unfold ad_X10_hasBranch at h
  split at h
  · obtain ⟨hq0, hA0⟩ := bif_s h
    obtain ⟨e0, hq1⟩ := beq_and hq0
    subst e0
    obtain ⟨r, hr, hk⟩ := Option.bind_eq_some_iff.mp hA0
    exact ca_of (q := (dcPI L σ) r) (by decide) rfl (Nat.le_of_ble_eq_true rfl) hk (fun _ => rfl) (fun _ => rfl) (exs (sp := []) (K := k0) (L0 := L) (σ0 := σ) ok_X10_hasBranch rt_X10_hasBranch (by omega) (hc_X10_hasBranch G l hd) (hrPI rfl rfl) hk0 11 hr (inv0 hW hok))
  · cases h
def tt_X10_isBranchOf (pc : Nat) : TI := bif Nat.blt pc 21 then (bif Nat.blt pc 10 then (bif Nat.blt pc 5 then (bif Nat.blt pc 1 then (bif Nat.beq pc 0 then (.aload_n 0, 1, (0, 0, 0), 0, 0, []) else TN) else (bif Nat.blt pc 2 then (bif Nat.beq pc 1 then (.iload_n 1, 2, (1, 0, 0), 0, 0, []) else TN) else (bif Nat.beq pc 2 then (.invokevirtual 30, 5, (47, 1, 10), 0, 0, []) else TN))) else (bif Nat.blt pc 8 then (bif Nat.beq pc 5 then (.ifCond .ne 5, 8, (10, 0, 0), 0, 0, []) else TN) else (bif Nat.blt pc 9 then (bif Nat.beq pc 8 then (.iconst 0, 9, (0, 0, 0), 0, 0, []) else TN) else (bif Nat.beq pc 9 then (.ireturn, 10, (0, 0, 0), 0, 0, []) else TN)))) else (bif Nat.blt pc 15 then (bif Nat.blt pc 11 then (bif Nat.beq pc 10 then (.aload_n 0, 11, (0, 0, 0), 0, 0, []) else TN) else (bif Nat.blt pc 14 then (bif Nat.beq pc 11 then (.getfield 9, 14, (10, 0, 0), 0, 0, []) else TN) else (bif Nat.beq pc 14 then (.iload_n 1, 15, (1, 0, 0), 0, 0, []) else TN))) else (bif Nat.blt pc 17 then (bif Nat.blt pc 16 then (bif Nat.beq pc 15 then (.iaload, 16, (0, 0, 0), 0, 0, []) else TN) else (bif Nat.beq pc 16 then (.istore_n 3, 17, (3, 0, 0), 0, 0, []) else TN)) else (bif Nat.blt pc 18 then (bif Nat.beq pc 17 then (.iload_n 2, 18, (2, 0, 0), 0, 0, []) else TN) else (bif Nat.beq pc 18 then (.ifCond .eq 18, 21, (36, 0, 0), 0, 0, []) else TN))))) else (bif Nat.blt pc 31 then (bif Nat.blt pc 26 then (bif Nat.blt pc 22 then (bif Nat.beq pc 21 then (.iload_n 2, 22, (2, 0, 0), 0, 0, []) else TN) else (bif Nat.blt pc 23 then (bif Nat.beq pc 22 then (.iload_n 3, 23, (3, 0, 0), 0, 0, []) else TN) else (bif Nat.beq pc 23 then (.if_icmp .eq 13, 26, (36, 0, 0), 0, 0, []) else TN))) else (bif Nat.blt pc 27 then (bif Nat.beq pc 26 then (.iload_n 2, 27, (2, 0, 0), 0, 0, []) else TN) else (bif Nat.blt pc 28 then (bif Nat.beq pc 27 then (.iconst 1, 28, (0, 0, 0), 1, 0, []) else TN) else (bif Nat.beq pc 28 then (.if_icmp .ne 12, 31, (40, 0, 0), 0, 0, []) else TN)))) else (bif Nat.blt pc 36 then (bif Nat.blt pc 32 then (bif Nat.beq pc 31 then (.iload_n 3, 32, (3, 0, 0), 0, 0, []) else TN) else (bif Nat.blt pc 33 then (bif Nat.beq pc 32 then (.iconst 2, 33, (0, 0, 0), 2, 0, []) else TN) else (bif Nat.beq pc 33 then (.if_icmp .ne 7, 36, (40, 0, 0), 0, 0, []) else TN))) else (bif Nat.blt pc 40 then (bif Nat.blt pc 37 then (bif Nat.beq pc 36 then (.iconst 1, 37, (0, 0, 0), 1, 0, []) else TN) else (bif Nat.beq pc 37 then (.goto 4, 40, (41, 0, 0), 0, 0, []) else TN)) else (bif Nat.blt pc 41 then (bif Nat.beq pc 40 then (.iconst 0, 41, (0, 0, 0), 0, 0, []) else TN) else (bif Nat.beq pc 41 then (.ireturn, 42, (0, 0, 0), 0, 0, []) else TN)))))
def tb_X10_isBranchOf (pc : Nat) : TI := bif Nat.ble 42 pc then TN else tt_X10_isBranchOf pc
theorem ok_X10_isBranchOf : tOK 10 (decide ("isBranchOf" = "<init>")) cX10_isBranchOf tb_X10_isBranchOf := tOK_of 42 tn_of (by decide +kernel)
def f_X10_isBranchOf (L : Lay) (σ : Sto) (a0 : Nat) (a1 : Int32) (a2 : Int32) : Option Int32 := (f_X10_hasBranch L σ a0 a1).bind fun r1 => (if r1 = 0 then (ckN 1 0).bind fun _ => some 0 else (σ.2.1 a0 0).bind fun x2 => (rI L σ x2 a1).bind fun v3 => (if a2 = 0 then (ckN 1 1).bind fun _ => some 1 else (if a2 = v3 then (ckN 1 1).bind fun _ => some 1 else (if a2 = 1 then (if v3 = 2 then (ckN 1 1).bind fun _ => some 1 else (ckN 1 0).bind fun _ => some 0) else (ckN 1 0).bind fun _ => some 0))))
def ad_X10_isBranchOf : ADT := fun O L σ as k => match as with
  | [.inr (.inr (.inl (ta0, some a0))), .inl a1, .inl a2] => bif Nat.beq ta0 10 && true then (f_X10_isBranchOf L σ a0 a1 a2).bind fun r => k (some (vI r)) L σ else none
  | _ => none
abbrev cl_X10_isBranchOf {O : Type} : CLT O := (clc 47 ad_X10_hasBranch cl0)
theorem hc_X10_isBranchOf (G : GT) (l : Launch) {d : Nat} (hd : 3 ≤ d) {O : Type} : HCL G l (true, true) d (cl_X10_isBranchOf (O := O)) := (hclc (ca_X10_hasBranch G l (d := 2) (Nat.le_refl _)) (fun _ => rfl) (fun _ => rfl) (by omega) hcl0)
theorem rt_X10_isBranchOf : retOK (1, 0) (some .boolean) := ⟨fun _ => rfl, fun h => absurd h (by decide), fun h => absurd h (by decide)⟩
set_option maxRecDepth 20000 in
theorem ca_X10_isBranchOf (G : GT) (l : Launch) {d : Nat} (hd : 3 ≤ d) : CA G l 51 (true, true) d ad_X10_isBranchOf := by
  intro O L σ as k o h hW hok
  unfold ad_X10_isBranchOf at h
  split at h
  · obtain ⟨hq0, hA0⟩ := bif_s h
    obtain ⟨e0, hq1⟩ := beq_and hq0
    subst e0
    obtain ⟨r, hr, hk⟩ := Option.bind_eq_some_iff.mp hA0
    exact ca_of (q := (dcPI L σ) r) (by decide) rfl (Nat.le_of_ble_eq_true rfl) hk (fun _ => rfl) (fun _ => rfl) (exs (sp := []) (K := k0) (L0 := L) (σ0 := σ) ok_X10_isBranchOf rt_X10_isBranchOf (by omega) (hc_X10_isBranchOf G l hd) (hrPI rfl rfl) hk0 29 hr (inv0 hW hok))
  · cases h
def tt_X10_hasVital (pc : Nat) : TI := bif Nat.blt pc 16 then (bif Nat.blt pc 10 then (bif Nat.blt pc 3 then (bif Nat.blt pc 1 then (bif Nat.beq pc 0 then (.iconst 0, 1, (0, 0, 0), 0, 0, []) else TN) else (bif Nat.blt pc 2 then (bif Nat.beq pc 1 then (.istore_n 2, 2, (2, 0, 0), 0, 0, []) else TN) else (bif Nat.beq pc 2 then (.iload_n 2, 3, (2, 0, 0), 0, 0, []) else TN))) else (bif Nat.blt pc 4 then (bif Nat.beq pc 3 then (.aload_n 0, 4, (0, 0, 0), 0, 0, []) else TN) else (bif Nat.blt pc 7 then (bif Nat.beq pc 4 then (.getfield 25, 7, (10, 1, 0), 0, 0, []) else TN) else (bif Nat.beq pc 7 then (.if_icmp .ge 29, 10, (36, 0, 0), 0, 0, []) else TN)))) else (bif Nat.blt pc 13 then (bif Nat.blt pc 11 then (bif Nat.beq pc 10 then (.iload_n 1, 11, (1, 0, 0), 0, 0, []) else TN) else (bif Nat.blt pc 12 then (bif Nat.beq pc 11 then (.iload_n 2, 12, (2, 0, 0), 0, 0, []) else TN) else (bif Nat.beq pc 12 then (.ishr, 13, (0, 0, 0), 0, 0, []) else TN))) else (bif Nat.blt pc 14 then (bif Nat.beq pc 13 then (.iconst 1, 14, (0, 0, 0), 1, 0, []) else TN) else (bif Nat.blt pc 15 then (bif Nat.beq pc 14 then (.iand, 15, (0, 0, 0), 0, 0, []) else TN) else (bif Nat.beq pc 15 then (.iconst 1, 16, (0, 0, 0), 1, 0, []) else TN))))) else (bif Nat.blt pc 28 then (bif Nat.blt pc 21 then (bif Nat.blt pc 19 then (bif Nat.beq pc 16 then (.if_icmp .ne 14, 19, (30, 0, 0), 0, 0, []) else TN) else (bif Nat.blt pc 20 then (bif Nat.beq pc 19 then (.aload_n 0, 20, (0, 0, 0), 0, 0, []) else TN) else (bif Nat.beq pc 20 then (.iload_n 2, 21, (2, 0, 0), 0, 0, []) else TN))) else (bif Nat.blt pc 22 then (bif Nat.beq pc 21 then (.iconst 1, 22, (0, 0, 0), 1, 0, []) else TN) else (bif Nat.blt pc 25 then (bif Nat.beq pc 22 then (.invokevirtual 34, 25, (51, 2, 10), 0, 0, []) else TN) else (bif Nat.beq pc 25 then (.ifCond .eq 5, 28, (30, 0, 0), 0, 0, []) else TN)))) else (bif Nat.blt pc 33 then (bif Nat.blt pc 29 then (bif Nat.beq pc 28 then (.iconst 1, 29, (0, 0, 0), 1, 0, []) else TN) else (bif Nat.blt pc 30 then (bif Nat.beq pc 29 then (.ireturn, 30, (0, 0, 0), 0, 0, []) else TN) else (bif Nat.beq pc 30 then (.iinc 2 1, 33, (2, 0, 0), 1, 0, []) else TN))) else (bif Nat.blt pc 36 then (bif Nat.beq pc 33 then (.goto (-31), 36, (2, 0, 0), 0, 0, []) else TN) else (bif Nat.blt pc 37 then (bif Nat.beq pc 36 then (.iconst 0, 37, (0, 0, 0), 0, 0, []) else TN) else (bif Nat.beq pc 37 then (.ireturn, 38, (0, 0, 0), 0, 0, []) else TN)))))
def tb_X10_hasVital (pc : Nat) : TI := bif Nat.ble 38 pc then TN else tt_X10_hasVital pc
theorem ok_X10_hasVital : tOK 10 (decide ("hasVital" = "<init>")) cX10_hasVital tb_X10_hasVital := tOK_of 38 tn_of (by decide +kernel)
def f_X10_hasVital_30 (c2 : Lay → Sto → Nat → Int32 → Int32 → Option Int32) (L : Lay) (σ : Sto) (a0 : Nat) (a1 : Int32) (a2 : Int32) : Option Int32 := c2 L σ a0 a1 (a2 + 1)
def A_X10_hasVital_30 (c : Lay → Sto → Nat → Int32 → Int32 → Option Int32) (lc : List (Option AV)) (st : List AV) (L : Lay) (σ : Sto) : Option Int32 := match lc, st with
  | [some (.inr (.inr (.inl (ta0, some a0)))), some (.inl a1), some (.inl a2)], [] => bif Nat.beq ta0 10 && true then c L σ a0 a1 a2 else none
  | _, _ => none
def f_X10_hasVital_2 : Nat → Lay → Sto → Nat → Int32 → Int32 → Option Int32
  | 0 => fun _ _ _ _ _ => none
  | k + 1 => fun L σ a0 a1 a2 => (if (σ.1 a0 1) ≤ a2 then (ckN 1 0).bind fun _ => some 0 else (if ((a1 >>> (a2 &&& 31)) &&& 1) = 1 then (f_X10_isBranchOf L σ a0 a2 1).bind fun r1 => (if r1 = 0 then (f_X10_hasVital_30 (f_X10_hasVital_2 k)) L σ a0 a1 a2 else (ckN 1 1).bind fun _ => some 1) else (f_X10_hasVital_30 (f_X10_hasVital_2 k)) L σ a0 a1 a2))
def A_X10_hasVital_2 (c : Lay → Sto → Nat → Int32 → Int32 → Option Int32) (lc : List (Option AV)) (st : List AV) (L : Lay) (σ : Sto) : Option Int32 := match lc, st with
  | [some (.inr (.inr (.inl (ta0, some a0)))), some (.inl a1), some (.inl a2)], [] => bif Nat.beq ta0 10 && true then c L σ a0 a1 a2 else none
  | _, _ => none
def f_X10_hasVital (L : Lay) (σ : Sto) (a0 : Nat) (a1 : Int32) : Option Int32 := (f_X10_hasVital_2 FU) L σ a0 a1 0
def ad_X10_hasVital : ADT := fun O L σ as k => match as with
  | [.inr (.inr (.inl (ta0, some a0))), .inl a1] => bif Nat.beq ta0 10 && true then (f_X10_hasVital L σ a0 a1).bind fun r => k (some (vI r)) L σ else none
  | _ => none
abbrev cl_X10_hasVital {O : Type} : CLT O := (clc 51 ad_X10_isBranchOf cl0)
theorem hc_X10_hasVital (G : GT) (l : Launch) {d : Nat} (hd : 4 ≤ d) {O : Type} : HCL G l (true, true) d (cl_X10_hasVital (O := O)) := (hclc (ca_X10_isBranchOf G l (d := 3) (Nat.le_refl _)) (fun _ => rfl) (fun _ => rfl) (by omega) hcl0)
theorem rt_X10_hasVital : retOK (1, 0) (some .boolean) := ⟨fun _ => rfl, fun h => absurd h (by decide), fun h => absurd h (by decide)⟩
set_option maxRecDepth 20000 in
theorem b_X10_hasVital_30 {G : GT} {l : Launch} {d : Nat} {L0 : Lay} {σ0 : Sto} (hd : 4 ≤ d) {c2 : Lay → Sto → Nat → Int32 → Int32 → Option Int32} (h2 : HF G l 10 "hasVital" cX10_hasVital 3 (some .boolean) d L0 σ0 (true, true) (dcPI L0 σ0) 2 (A_X10_hasVital_2 c2)) : HF G l 10 "hasVital" cX10_hasVital 3 (some .boolean) d L0 σ0 (true, true) (dcPI L0 σ0) 30 (A_X10_hasVital_30 (f_X10_hasVital_30 c2)) := by
  intro lc st L σ o h hI
  unfold A_X10_hasVital_30 at h
  split at h
  · obtain ⟨hq0, hA1⟩ := bif_s h
    obtain ⟨e0, hq1⟩ := beq_and hq0
    subst e0
    exact exs (sp := [2]) (K := (kc 2 (A_X10_hasVital_2 c2) k0)) ok_X10_hasVital rt_X10_hasVital (by omega) (hc_X10_hasVital G l hd) (hrPI rfl rfl) (hkc h2 hk0) 27 hA1 hI
  · cases h
set_option maxRecDepth 20000 in
theorem b_X10_hasVital_2 {G : GT} {l : Launch} {d : Nat} {L0 : Lay} {σ0 : Sto} (hd : 4 ≤ d) : ∀ k : Nat, HF G l 10 "hasVital" cX10_hasVital 3 (some .boolean) d L0 σ0 (true, true) (dcPI L0 σ0) 2 (A_X10_hasVital_2 (f_X10_hasVital_2 k))
  | 0 => by
    intro lc st L σ o h hI
    unfold A_X10_hasVital_2 at h
    split at h
    · obtain ⟨_, hA1⟩ := bif_s h
      cases hA1
    · cases h
  | k + 1 => by
    have ih := b_X10_hasVital_2 (G := G) (l := l) (d := d) (L0 := L0) (σ0 := σ0) hd k
    intro lc st L σ o h hI
    unfold A_X10_hasVital_2 at h
    split at h
    · obtain ⟨hq0, hA1⟩ := bif_s h
      obtain ⟨e0, hq1⟩ := beq_and hq0
      subst e0
      exact exs (sp := [30]) (K := (kc 30 (A_X10_hasVital_30 (f_X10_hasVital_30 (f_X10_hasVital_2 k))) k0)) ok_X10_hasVital rt_X10_hasVital (by omega) (hc_X10_hasVital G l hd) (hrPI rfl rfl) (hkc (b_X10_hasVital_30 hd ih) hk0) 27 hA1 hI
    · cases h
set_option maxRecDepth 20000 in
theorem ca_X10_hasVital (G : GT) (l : Launch) {d : Nat} (hd : 4 ≤ d) : CA G l 48 (true, true) d ad_X10_hasVital := by
  intro O L σ as k o h hW hok
  unfold ad_X10_hasVital at h
  split at h
  · obtain ⟨hq0, hA0⟩ := bif_s h
    obtain ⟨e0, hq1⟩ := beq_and hq0
    subst e0
    obtain ⟨r, hr, hk⟩ := Option.bind_eq_some_iff.mp hA0
    exact ca_of (q := (dcPI L σ) r) (by decide) rfl (Nat.le_of_ble_eq_true rfl) hk (fun _ => rfl) (fun _ => rfl) (exs (sp := [2]) (K := (kc 2 (A_X10_hasVital_2 (f_X10_hasVital_2 FU)) k0)) (L0 := L) (σ0 := σ) ok_X10_hasVital rt_X10_hasVital (by omega) (hc_X10_hasVital G l hd) (hrPI rfl rfl) (hkc (b_X10_hasVital_2 hd FU) hk0) 27 hr (inv0 hW hok))
  · cases h
def tt_X3_put (pc : Nat) : TI := bif Nat.blt pc 11 then (bif Nat.blt pc 4 then (bif Nat.blt pc 1 then (bif Nat.beq pc 0 then (.iload_n 1, 1, (1, 0, 0), 0, 0, []) else TN) else (bif Nat.beq pc 1 then (.invokestatic 19, 4, (78, 1, 0), 0, 0, []) else TN)) else (bif Nat.blt pc 7 then (bif Nat.beq pc 4 then (.ifCond .eq 13, 7, (17, 0, 0), 0, 0, []) else TN) else (bif Nat.blt pc 8 then (bif Nat.beq pc 7 then (.aload_n 0, 8, (0, 0, 0), 0, 0, []) else TN) else (bif Nat.beq pc 8 then (.getfield 9, 11, (3, 0, 0), 0, 0, []) else TN)))) else (bif Nat.blt pc 15 then (bif Nat.blt pc 12 then (bif Nat.beq pc 11 then (.iload_n 1, 12, (1, 0, 0), 0, 0, []) else TN) else (bif Nat.blt pc 14 then (bif Nat.beq pc 12 then (.bipush 97, 14, (0, 0, 0), 97, 0, []) else TN) else (bif Nat.beq pc 14 then (.isub, 15, (0, 0, 0), 0, 0, []) else TN))) else (bif Nat.blt pc 16 then (bif Nat.beq pc 15 then (.iload_n 2, 16, (2, 0, 0), 0, 0, []) else TN) else (bif Nat.blt pc 17 then (bif Nat.beq pc 16 then (.iastore, 17, (0, 0, 0), 0, 0, []) else TN) else (bif Nat.beq pc 17 then (.return_, 18, (0, 0, 0), 0, 0, []) else TN))))
def tb_X3_put (pc : Nat) : TI := bif Nat.ble 18 pc then TN else tt_X3_put pc
theorem ok_X3_put : tOK 3 (decide ("put" = "<init>")) cX3_put tb_X3_put := tOK_of 18 tn_of (by decide +kernel)
def f_X3_put (L : Lay) (σ : Sto) (a0 : Nat) (a1 : Int32) (a2 : Int32) : Option Sto := (f_X11_isLetter L σ a1).bind fun r1 => (if r1 = 0 then some σ else (σ.2.1 a0 0).bind fun x2 => (wI L σ x2 (a1 - 97) a2).bind fun σ3 => some σ3)
def ad_X3_put : ADT := fun O L σ as k => match as with
  | [.inr (.inr (.inl (ta0, some a0))), .inl a1, .inl a2] => bif Nat.beq ta0 3 && true then (f_X3_put L σ a0 a1 a2).bind fun σ2 => k none L σ2 else none
  | _ => none
abbrev cl_X3_put {O : Type} : CLT O := (clc 78 ad_X11_isLetter cl0)
theorem hc_X3_put (G : GT) (l : Launch) {d : Nat} (hd : 2 ≤ d) {O : Type} : HCL G l (true, false) d (cl_X3_put (O := O)) := (hclc (ca_X11_isLetter G l (d := 1) (Nat.le_refl _)) (fun _ => rfl) (fun e => by cases e) (by omega) hcl0)
theorem rt_X3_put : retOK (6, 0) none := ⟨fun h => absurd h (by decide), fun h => absurd h (by decide), fun _ => rfl⟩
set_option maxRecDepth 20000 in
theorem ca_X3_put (G : GT) (l : Launch) {d : Nat} (hd : 2 ≤ d) : CA G l 240 (true, false) d ad_X3_put := by
  intro O L σ as k o h hW hok
  unfold ad_X3_put at h
  split at h
  · obtain ⟨hq0, hA0⟩ := bif_s h
    obtain ⟨e0, hq1⟩ := beq_and hq0
    subst e0
    obtain ⟨r, hr, hk⟩ := Option.bind_eq_some_iff.mp hA0
    exact ca_of (q := (dcV L) r) (by decide) rfl (Nat.le_of_ble_eq_true rfl) hk (fun _ => rfl) (fun e => by cases e) (exs (sp := []) (K := k0) (L0 := L) (σ0 := σ) ok_X3_put rt_X3_put (by omega) (hc_X3_put G l hd) (hrV rfl) hk0 14 hr (inv0 hW hok))
  · cases h
def tt_X0_tellNames (pc : Nat) : TI := bif Nat.blt pc 52 then (bif Nat.blt pc 24 then (bif Nat.blt pc 8 then (bif Nat.blt pc 5 then (bif Nat.blt pc 1 then (bif Nat.beq pc 0 then (.aload_n 1, 1, (1, 0, 0), 0, 0, []) else TN) else (bif Nat.blt pc 4 then (bif Nat.beq pc 1 then (.invokevirtual 67, 4, (238, 0, 3), 0, 0, []) else TN) else (bif Nat.beq pc 4 then (.iconst 0, 5, (0, 0, 0), 0, 0, []) else TN))) else (bif Nat.blt pc 6 then (bif Nat.beq pc 5 then (.istore_n 3, 6, (3, 0, 0), 0, 0, []) else TN) else (bif Nat.blt pc 7 then (bif Nat.beq pc 6 then (.iload_n 3, 7, (3, 0, 0), 0, 0, []) else TN) else (bif Nat.beq pc 7 then (.aload_n 0, 8, (0, 0, 0), 0, 0, []) else TN)))) else (bif Nat.blt pc 17 then (bif Nat.blt pc 11 then (bif Nat.beq pc 8 then (.getfield 25, 11, (0, 0, 0), 0, 0, []) else TN) else (bif Nat.blt pc 14 then (bif Nat.beq pc 11 then (.getfield 53, 14, (10, 3, 1), 0, 0, []) else TN) else (bif Nat.beq pc 14 then (.if_icmp .ge 60, 17, (74, 0, 0), 0, 0, []) else TN))) else (bif Nat.blt pc 20 then (bif Nat.blt pc 18 then (bif Nat.beq pc 17 then (.iload_n 3, 18, (3, 0, 0), 0, 0, []) else TN) else (bif Nat.beq pc 18 then (.bipush 40, 20, (0, 0, 0), 40, 0, []) else TN)) else (bif Nat.blt pc 23 then (bif Nat.beq pc 20 then (.if_icmp .ge 54, 23, (74, 0, 0), 0, 0, []) else TN) else (bif Nat.beq pc 23 then (.aload_n 0, 24, (0, 0, 0), 0, 0, []) else TN))))) else (bif Nat.blt pc 39 then (bif Nat.blt pc 29 then (bif Nat.blt pc 27 then (bif Nat.beq pc 24 then (.getfield 25, 27, (0, 0, 0), 0, 0, []) else TN) else (bif Nat.blt pc 28 then (bif Nat.beq pc 27 then (.iload_n 3, 28, (3, 0, 0), 0, 0, []) else TN) else (bif Nat.beq pc 28 then (.aload_n 0, 29, (0, 0, 0), 0, 0, []) else TN))) else (bif Nat.blt pc 33 then (bif Nat.blt pc 32 then (bif Nat.beq pc 29 then (.getfield 29, 32, (0, 1, 0), 0, 0, []) else TN) else (bif Nat.beq pc 32 then (.aload_n 0, 33, (0, 0, 0), 0, 0, []) else TN)) else (bif Nat.blt pc 36 then (bif Nat.beq pc 33 then (.getfield 37, 36, (0, 2, 0), 0, 0, []) else TN) else (bif Nat.beq pc 36 then (.invokevirtual 60, 39, (50, 3, 10), 0, 0, []) else TN)))) else (bif Nat.blt pc 44 then (bif Nat.blt pc 42 then (bif Nat.beq pc 39 then (.ifCond .eq 13, 42, (52, 0, 0), 0, 0, []) else TN) else (bif Nat.blt pc 43 then (bif Nat.beq pc 42 then (.aload_n 0, 43, (0, 0, 0), 0, 0, []) else TN) else (bif Nat.beq pc 43 then (.aload_n 1, 44, (1, 0, 0), 0, 0, []) else TN))) else (bif Nat.blt pc 46 then (bif Nat.blt pc 45 then (bif Nat.beq pc 44 then (.iload_n 3, 45, (3, 0, 0), 0, 0, []) else TN) else (bif Nat.beq pc 45 then (.iload_n 2, 46, (2, 0, 0), 0, 0, []) else TN)) else (bif Nat.blt pc 49 then (bif Nat.beq pc 46 then (.invokevirtual 72, 49, (42, 3, 0), 0, 0, []) else TN) else (bif Nat.beq pc 49 then (.goto 19, 52, (68, 0, 0), 0, 0, []) else TN)))))) else (bif Nat.blt pc 78 then (bif Nat.blt pc 63 then (bif Nat.blt pc 57 then (bif Nat.blt pc 53 then (bif Nat.beq pc 52 then (.aload_n 0, 53, (0, 0, 0), 0, 0, []) else TN) else (bif Nat.blt pc 56 then (bif Nat.beq pc 53 then (.getfield 15, 56, (0, 5, 0), 0, 0, []) else TN) else (bif Nat.beq pc 56 then (.iload_n 3, 57, (3, 0, 0), 0, 0, []) else TN))) else (bif Nat.blt pc 59 then (bif Nat.blt pc 58 then (bif Nat.beq pc 57 then (.iaload, 58, (0, 0, 0), 0, 0, []) else TN) else (bif Nat.beq pc 58 then (.iload_n 2, 59, (2, 0, 0), 0, 0, []) else TN)) else (bif Nat.blt pc 62 then (bif Nat.beq pc 59 then (.if_icmp .gt 9, 62, (68, 0, 0), 0, 0, []) else TN) else (bif Nat.beq pc 62 then (.aload_n 1, 63, (1, 0, 0), 0, 0, []) else TN)))) else (bif Nat.blt pc 71 then (bif Nat.blt pc 65 then (bif Nat.beq pc 63 then (.bipush 120, 65, (0, 0, 0), 120, 0, []) else TN) else (bif Nat.blt pc 68 then (bif Nat.beq pc 65 then (.invokevirtual 76, 68, (237, 1, 3), 0, 0, []) else TN) else (bif Nat.beq pc 68 then (.iinc 3 1, 71, (3, 0, 0), 1, 0, []) else TN))) else (bif Nat.blt pc 75 then (bif Nat.blt pc 74 then (bif Nat.beq pc 71 then (.goto (-65), 74, (6, 0, 0), 0, 0, []) else TN) else (bif Nat.beq pc 74 then (.aload_n 1, 75, (1, 0, 0), 0, 0, []) else TN)) else (bif Nat.blt pc 77 then (bif Nat.beq pc 75 then (.bipush 118, 77, (0, 0, 0), 118, 0, []) else TN) else (bif Nat.beq pc 77 then (.aload_n 0, 78, (0, 0, 0), 0, 0, []) else TN))))) else (bif Nat.blt pc 95 then (bif Nat.blt pc 85 then (bif Nat.blt pc 81 then (bif Nat.beq pc 78 then (.getfield 25, 81, (0, 0, 0), 0, 0, []) else TN) else (bif Nat.blt pc 82 then (bif Nat.beq pc 81 then (.aload_n 0, 82, (0, 0, 0), 0, 0, []) else TN) else (bif Nat.beq pc 82 then (.getfield 29, 85, (0, 1, 0), 0, 0, []) else TN))) else (bif Nat.blt pc 91 then (bif Nat.blt pc 88 then (bif Nat.beq pc 85 then (.invokevirtual 80, 88, (48, 1, 10), 0, 0, []) else TN) else (bif Nat.beq pc 88 then (.invokestatic 83, 91, (100, 1, 0), 0, 0, []) else TN)) else (bif Nat.blt pc 94 then (bif Nat.beq pc 91 then (.invokevirtual 87, 94, (240, 2, 3), 0, 0, []) else TN) else (bif Nat.beq pc 94 then (.aload_n 1, 95, (1, 0, 0), 0, 0, []) else TN)))) else (bif Nat.blt pc 99 then (bif Nat.blt pc 97 then (bif Nat.beq pc 95 then (.bipush 100, 97, (0, 0, 0), 100, 0, []) else TN) else (bif Nat.blt pc 98 then (bif Nat.beq pc 97 then (.iload_n 2, 98, (2, 0, 0), 0, 0, []) else TN) else (bif Nat.beq pc 98 then (.aload_n 0, 99, (0, 0, 0), 0, 0, []) else TN))) else (bif Nat.blt pc 103 then (bif Nat.blt pc 102 then (bif Nat.beq pc 99 then (.getfield 37, 102, (0, 2, 0), 0, 0, []) else TN) else (bif Nat.beq pc 102 then (.isub, 103, (0, 0, 0), 0, 0, []) else TN)) else (bif Nat.blt pc 106 then (bif Nat.beq pc 103 then (.invokevirtual 87, 106, (240, 2, 3), 0, 0, []) else TN) else (bif Nat.beq pc 106 then (.return_, 107, (0, 0, 0), 0, 0, []) else TN))))))
def tb_X0_tellNames (pc : Nat) : TI := bif Nat.ble 107 pc then TN else tt_X0_tellNames pc
theorem ok_X0_tellNames : tOK 0 (decide ("tellNames" = "<init>")) cX0_tellNames tb_X0_tellNames := tOK_of 107 tn_of (by decide +kernel)
def f_X0_tellNames_68 (c6 : Lay → Sto → Nat → Option Nat → Int32 → Int32 → Option Sto) (L : Lay) (σ : Sto) (a0 : Nat) (a1 : Option Nat) (a2 : Int32) (a3 : Int32) : Option Sto := c6 L σ a0 a1 a2 (a3 + 1)
def A_X0_tellNames_68 (c : Lay → Sto → Nat → Option Nat → Int32 → Int32 → Option Sto) (lc : List (Option AV)) (st : List AV) (L : Lay) (σ : Sto) : Option Sto := match lc, st with
  | [some (.inr (.inr (.inl (ta0, some a0)))), some (.inr (.inr (.inl (ta1, a1)))), some (.inl a2), some (.inl a3)], [] => bif Nat.beq ta0 0 && (Nat.beq ta1 3 && true) then c L σ a0 a1 a2 a3 else none
  | _, _ => none
def f_X0_tellNames_74 (L : Lay) (σ : Sto) (a0 : Nat) (a1 : Option Nat) (a2 : Int32) : Option Sto := (σ.2.1 a0 0).bind fun x1 => (f_X10_hasVital L σ x1 (σ.1 a0 1)).bind fun r2 => (f_X11_oneIf L σ r2).bind fun r3 => a1.bind fun x4 => (f_X3_put L σ x4 118 r3).bind fun σ5 => a1.bind fun x6 => (f_X3_put L σ5 x6 100 (a2 - (σ5.1 a0 2))).bind fun σ7 => some σ7
def A_X0_tellNames_74 (c : Lay → Sto → Nat → Option Nat → Int32 → Option Sto) (lc : List (Option AV)) (st : List AV) (L : Lay) (σ : Sto) : Option Sto := match lc, st with
  | [some (.inr (.inr (.inl (ta0, some a0)))), some (.inr (.inr (.inl (ta1, a1)))), some (.inl a2), _], [] => bif Nat.beq ta0 0 && (Nat.beq ta1 3 && true) then c L σ a0 a1 a2 else none
  | _, _ => none
def f_X0_tellNames_6 : Nat → Lay → Sto → Nat → Option Nat → Int32 → Int32 → Option Sto
  | 0 => fun _ _ _ _ _ _ => none
  | k + 1 => fun L σ a0 a1 a2 a3 => (σ.2.1 a0 0).bind fun x8 => (if (σ.1 x8 3) ≤ a3 then (f_X0_tellNames_74) L σ a0 a1 a2 else (if 40 ≤ a3 then (f_X0_tellNames_74) L σ a0 a1 a2 else (σ.2.1 a0 0).bind fun x9 => (f_X10_isAmong L σ x9 a3 (σ.1 a0 1) (σ.1 a0 2)).bind fun r10 => (if r10 = 0 then (σ.2.1 a0 5).bind fun x11 => (rI L σ x11 a3).bind fun v12 => (if a2 < v12 then (f_X0_tellNames_68 (f_X0_tellNames_6 k)) L σ a0 a1 a2 a3 else a1.bind fun x13 => (f_X3_addOne L σ x13 120).bind fun σ14 => (f_X0_tellNames_68 (f_X0_tellNames_6 k)) L σ14 a0 a1 a2 a3) else (f_X0_tellEntitled L σ a0 a1 a3 a2).bind fun σ15 => (f_X0_tellNames_68 (f_X0_tellNames_6 k)) L σ15 a0 a1 a2 a3)))
def A_X0_tellNames_6 (c : Lay → Sto → Nat → Option Nat → Int32 → Int32 → Option Sto) (lc : List (Option AV)) (st : List AV) (L : Lay) (σ : Sto) : Option Sto := match lc, st with
  | [some (.inr (.inr (.inl (ta0, some a0)))), some (.inr (.inr (.inl (ta1, a1)))), some (.inl a2), some (.inl a3)], [] => bif Nat.beq ta0 0 && (Nat.beq ta1 3 && true) then c L σ a0 a1 a2 a3 else none
  | _, _ => none
def f_X0_tellNames (L : Lay) (σ : Sto) (a0 : Nat) (a1 : Option Nat) (a2 : Int32) : Option Sto := a1.bind fun x16 => (f_X3_clear L σ x16).bind fun σ17 => (f_X0_tellNames_6 FU) L σ17 a0 a1 a2 0
def ad_X0_tellNames : ADT := fun O L σ as k => match as with
  | [.inr (.inr (.inl (ta0, some a0))), .inr (.inr (.inl (ta1, a1))), .inl a2] => bif Nat.beq ta0 0 && (Nat.beq ta1 3 && true) then (f_X0_tellNames L σ a0 a1 a2).bind fun σ2 => k none L σ2 else none
  | _ => none
abbrev cl_X0_tellNames {O : Type} : CLT O := (clc 48 ad_X10_hasVital (clc 100 ad_X11_oneIf (clc 240 ad_X3_put (clc 50 ad_X10_isAmong (clc 237 ad_X3_addOne (clc 42 ad_X0_tellEntitled (clc 238 ad_X3_clear cl0)))))))
theorem hc_X0_tellNames (G : GT) (l : Launch) {d : Nat} (hd : 5 ≤ d) {O : Type} : HCL G l (true, false) d (cl_X0_tellNames (O := O)) := (hclc (ca_X10_hasVital G l (d := 4) (Nat.le_refl _)) (fun _ => rfl) (fun e => by cases e) (by omega) (hclc (ca_X11_oneIf G l (d := 1) (Nat.le_refl _)) (fun _ => rfl) (fun e => by cases e) (by omega) (hclc (ca_X3_put G l (d := 2) (Nat.le_refl _)) (fun _ => rfl) (fun e => by cases e) (by omega) (hclc (ca_X10_isAmong G l (d := 4) (Nat.le_refl _)) (fun _ => rfl) (fun e => by cases e) (by omega) (hclc (ca_X3_addOne G l (d := 2) (Nat.le_refl _)) (fun _ => rfl) (fun e => by cases e) (by omega) (hclc (ca_X0_tellEntitled G l (d := 3) (Nat.le_refl _)) (fun _ => rfl) (fun e => by cases e) (by omega) (hclc (ca_X3_clear G l (d := 2) (Nat.le_refl _)) (fun _ => rfl) (fun e => by cases e) (by omega) hcl0)))))))
theorem rt_X0_tellNames : retOK (6, 0) none := ⟨fun h => absurd h (by decide), fun h => absurd h (by decide), fun _ => rfl⟩
set_option maxRecDepth 20000 in
theorem b_X0_tellNames_68 {G : GT} {l : Launch} {d : Nat} {L0 : Lay} {σ0 : Sto} (hd : 5 ≤ d) {c6 : Lay → Sto → Nat → Option Nat → Int32 → Int32 → Option Sto} (h6 : HF G l 0 "tellNames" cX0_tellNames 4 none d L0 σ0 (true, false) (dcV L0) 6 (A_X0_tellNames_6 c6)) : HF G l 0 "tellNames" cX0_tellNames 4 none d L0 σ0 (true, false) (dcV L0) 68 (A_X0_tellNames_68 (f_X0_tellNames_68 c6)) := by
  intro lc st L σ o h hI
  unfold A_X0_tellNames_68 at h
  split at h
  · obtain ⟨hq0, hA1⟩ := bif_s h
    obtain ⟨e0, hq1⟩ := beq_and hq0
    obtain ⟨e1, hq2⟩ := beq_and hq1
    subst e0
    subst e1
    exact exs (sp := [6]) (K := (kc 6 (A_X0_tellNames_6 c6) k0)) ok_X0_tellNames rt_X0_tellNames (by omega) (hc_X0_tellNames G l hd) (hrV rfl) (hkc h6 hk0) 58 hA1 hI
  · cases h
set_option maxRecDepth 20000 in
theorem b_X0_tellNames_74 {G : GT} {l : Launch} {d : Nat} {L0 : Lay} {σ0 : Sto} (hd : 5 ≤ d) : HF G l 0 "tellNames" cX0_tellNames 4 none d L0 σ0 (true, false) (dcV L0) 74 (A_X0_tellNames_74 f_X0_tellNames_74) := by
  intro lc st L σ o h hI
  unfold A_X0_tellNames_74 at h
  split at h
  · obtain ⟨hq0, hA1⟩ := bif_s h
    obtain ⟨e0, hq1⟩ := beq_and hq0
    obtain ⟨e1, hq2⟩ := beq_and hq1
    subst e0
    subst e1
    exact exs (sp := []) (K := k0) ok_X0_tellNames rt_X0_tellNames (by omega) (hc_X0_tellNames G l hd) (hrV rfl) hk0 58 hA1 hI
  · cases h
set_option maxRecDepth 20000 in
theorem b_X0_tellNames_6 {G : GT} {l : Launch} {d : Nat} {L0 : Lay} {σ0 : Sto} (hd : 5 ≤ d) : ∀ k : Nat, HF G l 0 "tellNames" cX0_tellNames 4 none d L0 σ0 (true, false) (dcV L0) 6 (A_X0_tellNames_6 (f_X0_tellNames_6 k))
  | 0 => by
    intro lc st L σ o h hI
    unfold A_X0_tellNames_6 at h
    split at h
    · obtain ⟨_, hA1⟩ := bif_s h
      cases hA1
    · cases h
  | k + 1 => by
    have ih := b_X0_tellNames_6 (G := G) (l := l) (d := d) (L0 := L0) (σ0 := σ0) hd k
    intro lc st L σ o h hI
    unfold A_X0_tellNames_6 at h
    split at h
    · obtain ⟨hq0, hA1⟩ := bif_s h
      obtain ⟨e0, hq1⟩ := beq_and hq0
      obtain ⟨e1, hq2⟩ := beq_and hq1
      subst e0
      subst e1
      exact exs (sp := [68, 74]) (K := (kc 68 (A_X0_tellNames_68 (f_X0_tellNames_68 (f_X0_tellNames_6 k))) (kc 74 (A_X0_tellNames_74 (f_X0_tellNames_74)) k0))) ok_X0_tellNames rt_X0_tellNames (by omega) (hc_X0_tellNames G l hd) (hrV rfl) (hkc (b_X0_tellNames_68 hd ih) (hkc (b_X0_tellNames_74 hd) hk0)) 58 hA1 hI
    · cases h
set_option maxRecDepth 20000 in
theorem ca_X0_tellNames (G : GT) (l : Launch) {d : Nat} (hd : 5 ≤ d) : CA G l 43 (true, false) d ad_X0_tellNames := by
  intro O L σ as k o h hW hok
  unfold ad_X0_tellNames at h
  split at h
  · obtain ⟨hq0, hA0⟩ := bif_s h
    obtain ⟨e0, hq1⟩ := beq_and hq0
    obtain ⟨e1, hq2⟩ := beq_and hq1
    subst e0
    subst e1
    obtain ⟨r, hr, hk⟩ := Option.bind_eq_some_iff.mp hA0
    exact ca_of (q := (dcV L) r) (by decide) rfl (Nat.le_of_ble_eq_true rfl) hk (fun _ => rfl) (fun e => by cases e) (exs (sp := [6]) (K := (kc 6 (A_X0_tellNames_6 (f_X0_tellNames_6 FU)) k0)) (L0 := L) (σ0 := σ) ok_X0_tellNames rt_X0_tellNames (by omega) (hc_X0_tellNames G l hd) (hrV rfl) (hkc (b_X0_tellNames_6 hd FU) hk0) 58 hr (inv0 hW hok))
  · cases h
def tt_X10_addBranch (pc : Nat) : TI := bif Nat.blt pc 21 then (bif Nat.blt pc 11 then (bif Nat.blt pc 4 then (bif Nat.blt pc 1 then (bif Nat.beq pc 0 then (.aload_n 0, 1, (0, 0, 0), 0, 0, []) else TN) else (bif Nat.beq pc 1 then (.getfield 25, 4, (10, 1, 0), 0, 0, []) else TN)) else (bif Nat.blt pc 6 then (bif Nat.beq pc 4 then (.bipush 6, 6, (0, 0, 0), 6, 0, []) else TN) else (bif Nat.blt pc 9 then (bif Nat.beq pc 6 then (.if_icmp .lt 6, 9, (12, 0, 0), 0, 0, []) else TN) else (bif Nat.beq pc 9 then (.ldc 29, 11, (0, 0, 0), -1000000003, 0, []) else TN)))) else (bif Nat.blt pc 16 then (bif Nat.blt pc 12 then (bif Nat.beq pc 11 then (.ireturn, 12, (0, 0, 0), 0, 0, []) else TN) else (bif Nat.blt pc 13 then (bif Nat.beq pc 12 then (.aload_n 0, 13, (0, 0, 0), 0, 0, []) else TN) else (bif Nat.beq pc 13 then (.getfield 9, 16, (10, 0, 0), 0, 0, []) else TN))) else (bif Nat.blt pc 17 then (bif Nat.beq pc 16 then (.aload_n 0, 17, (0, 0, 0), 0, 0, []) else TN) else (bif Nat.blt pc 20 then (bif Nat.beq pc 17 then (.getfield 25, 20, (10, 1, 0), 0, 0, []) else TN) else (bif Nat.beq pc 20 then (.iload_n 1, 21, (1, 0, 0), 0, 0, []) else TN))))) else (bif Nat.blt pc 29 then (bif Nat.blt pc 24 then (bif Nat.blt pc 22 then (bif Nat.beq pc 21 then (.iastore, 22, (0, 0, 0), 0, 0, []) else TN) else (bif Nat.blt pc 23 then (bif Nat.beq pc 22 then (.aload_n 0, 23, (0, 0, 0), 0, 0, []) else TN) else (bif Nat.beq pc 23 then (.dup, 24, (0, 0, 0), 0, 0, []) else TN))) else (bif Nat.blt pc 27 then (bif Nat.beq pc 24 then (.getfield 25, 27, (10, 1, 0), 0, 0, []) else TN) else (bif Nat.blt pc 28 then (bif Nat.beq pc 27 then (.iconst 1, 28, (0, 0, 0), 1, 0, []) else TN) else (bif Nat.beq pc 28 then (.iadd, 29, (0, 0, 0), 0, 0, []) else TN)))) else (bif Nat.blt pc 36 then (bif Nat.blt pc 32 then (bif Nat.beq pc 29 then (.putfield 25, 32, (10, 1, 0), 0, 0, []) else TN) else (bif Nat.blt pc 33 then (bif Nat.beq pc 32 then (.aload_n 0, 33, (0, 0, 0), 0, 0, []) else TN) else (bif Nat.beq pc 33 then (.getfield 25, 36, (10, 1, 0), 0, 0, []) else TN))) else (bif Nat.blt pc 37 then (bif Nat.beq pc 36 then (.iconst 1, 37, (0, 0, 0), 1, 0, []) else TN) else (bif Nat.blt pc 38 then (bif Nat.beq pc 37 then (.isub, 38, (0, 0, 0), 0, 0, []) else TN) else (bif Nat.beq pc 38 then (.ireturn, 39, (0, 0, 0), 0, 0, []) else TN)))))
def tb_X10_addBranch (pc : Nat) : TI := bif Nat.ble 39 pc then TN else tt_X10_addBranch pc
theorem ok_X10_addBranch : tOK 10 (decide ("addBranch" = "<init>")) cX10_addBranch tb_X10_addBranch := tOK_of 39 tn_of (by decide +kernel)
def f_X10_addBranch (L : Lay) (σ : Sto) (a0 : Nat) (a1 : Int32) : Option (Int32 × Sto) := (if (σ.1 a0 1) < 6 then (σ.2.1 a0 0).bind fun x1 => (wI L σ x1 (σ.1 a0 1) a1).bind fun σ2 => (putI σ2 a0 1 ((σ2.1 a0 1) + 1)).bind fun σ3 => some (((σ3.1 a0 1) - 1), σ3) else some ((-1000000003), σ))
def ad_X10_addBranch : ADT := fun O L σ as k => match as with
  | [.inr (.inr (.inl (ta0, some a0))), .inl a1] => bif Nat.beq ta0 10 && true then (f_X10_addBranch L σ a0 a1).bind fun r => k (some (vI r.1)) L r.2 else none
  | _ => none
abbrev cl_X10_addBranch {O : Type} : CLT O := cl0
theorem hc_X10_addBranch (G : GT) (l : Launch) {d : Nat} (hd : 1 ≤ d) {O : Type} : HCL G l (true, false) d (cl_X10_addBranch (O := O)) := hcl0
theorem rt_X10_addBranch : retOK (0, 0) (some .int) := ⟨fun _ => rfl, fun h => absurd h (by decide), fun h => absurd h (by decide)⟩
set_option maxRecDepth 20000 in
theorem ca_X10_addBranch (G : GT) (l : Launch) {d : Nat} (hd : 1 ≤ d) : CA G l 44 (true, false) d ad_X10_addBranch := by
  intro O L σ as k o h hW hok
  unfold ad_X10_addBranch at h
  split at h
  · obtain ⟨hq0, hA0⟩ := bif_s h
    obtain ⟨e0, hq1⟩ := beq_and hq0
    subst e0
    obtain ⟨r, hr, hk⟩ := Option.bind_eq_some_iff.mp hA0
    exact ca_of (q := (dcI L) r) (by decide) rfl (Nat.le_of_ble_eq_true rfl) hk (fun _ => rfl) (fun e => by cases e) (exs (sp := []) (K := k0) (L0 := L) (σ0 := σ) ok_X10_addBranch rt_X10_addBranch (by omega) (hc_X10_addBranch G l hd) (hrI rfl) hk0 26 hr (inv0 hW hok))
  · cases h
def tt_X10_addMember (pc : Nat) : TI := bif Nat.blt pc 21 then (bif Nat.blt pc 11 then (bif Nat.blt pc 4 then (bif Nat.blt pc 1 then (bif Nat.beq pc 0 then (.aload_n 0, 1, (0, 0, 0), 0, 0, []) else TN) else (bif Nat.beq pc 1 then (.getfield 38, 4, (10, 3, 0), 0, 0, []) else TN)) else (bif Nat.blt pc 6 then (bif Nat.beq pc 4 then (.bipush 40, 6, (0, 0, 0), 40, 0, []) else TN) else (bif Nat.blt pc 9 then (bif Nat.beq pc 6 then (.if_icmp .lt 6, 9, (12, 0, 0), 0, 0, []) else TN) else (bif Nat.beq pc 9 then (.ldc 29, 11, (0, 0, 0), -1000000003, 0, []) else TN)))) else (bif Nat.blt pc 16 then (bif Nat.blt pc 12 then (bif Nat.beq pc 11 then (.ireturn, 12, (0, 0, 0), 0, 0, []) else TN) else (bif Nat.blt pc 13 then (bif Nat.beq pc 12 then (.aload_n 0, 13, (0, 0, 0), 0, 0, []) else TN) else (bif Nat.beq pc 13 then (.getfield 17, 16, (10, 2, 0), 0, 0, []) else TN))) else (bif Nat.blt pc 17 then (bif Nat.beq pc 16 then (.aload_n 0, 17, (0, 0, 0), 0, 0, []) else TN) else (bif Nat.blt pc 20 then (bif Nat.beq pc 17 then (.getfield 38, 20, (10, 3, 0), 0, 0, []) else TN) else (bif Nat.beq pc 20 then (.aload_n 1, 21, (1, 0, 0), 0, 0, []) else TN))))) else (bif Nat.blt pc 29 then (bif Nat.blt pc 24 then (bif Nat.blt pc 22 then (bif Nat.beq pc 21 then (.aastore, 22, (0, 0, 0), 0, 0, []) else TN) else (bif Nat.blt pc 23 then (bif Nat.beq pc 22 then (.aload_n 0, 23, (0, 0, 0), 0, 0, []) else TN) else (bif Nat.beq pc 23 then (.dup, 24, (0, 0, 0), 0, 0, []) else TN))) else (bif Nat.blt pc 27 then (bif Nat.beq pc 24 then (.getfield 38, 27, (10, 3, 0), 0, 0, []) else TN) else (bif Nat.blt pc 28 then (bif Nat.beq pc 27 then (.iconst 1, 28, (0, 0, 0), 1, 0, []) else TN) else (bif Nat.beq pc 28 then (.iadd, 29, (0, 0, 0), 0, 0, []) else TN)))) else (bif Nat.blt pc 36 then (bif Nat.blt pc 32 then (bif Nat.beq pc 29 then (.putfield 38, 32, (10, 3, 0), 0, 0, []) else TN) else (bif Nat.blt pc 33 then (bif Nat.beq pc 32 then (.aload_n 0, 33, (0, 0, 0), 0, 0, []) else TN) else (bif Nat.beq pc 33 then (.getfield 38, 36, (10, 3, 0), 0, 0, []) else TN))) else (bif Nat.blt pc 37 then (bif Nat.beq pc 36 then (.iconst 1, 37, (0, 0, 0), 1, 0, []) else TN) else (bif Nat.blt pc 38 then (bif Nat.beq pc 37 then (.isub, 38, (0, 0, 0), 0, 0, []) else TN) else (bif Nat.beq pc 38 then (.ireturn, 39, (0, 0, 0), 0, 0, []) else TN)))))
def tb_X10_addMember (pc : Nat) : TI := bif Nat.ble 39 pc then TN else tt_X10_addMember pc
theorem ok_X10_addMember : tOK 10 (decide ("addMember" = "<init>")) cX10_addMember tb_X10_addMember := tOK_of 39 tn_of (by decide +kernel)
def f_X10_addMember (L : Lay) (σ : Sto) (a0 : Nat) (a1 : Option Nat) : Option (Int32 × Sto) := (if (σ.1 a0 3) < 40 then (σ.2.1 a0 2).bind fun x1 => a1.bind fun x2 => (wR L σ x1 (σ.1 a0 3) (some x2)).bind fun σ3 => (putI σ3 a0 3 ((σ3.1 a0 3) + 1)).bind fun σ4 => some (((σ4.1 a0 3) - 1), σ4) else some ((-1000000003), σ))
def ad_X10_addMember : ADT := fun O L σ as k => match as with
  | [.inr (.inr (.inl (ta0, some a0))), .inr (.inr (.inl (ta1, a1)))] => bif Nat.beq ta0 10 && (Nat.beq ta1 2 && true) then (f_X10_addMember L σ a0 a1).bind fun r => k (some (vI r.1)) L r.2 else none
  | _ => none
abbrev cl_X10_addMember {O : Type} : CLT O := cl0
theorem hc_X10_addMember (G : GT) (l : Launch) {d : Nat} (hd : 1 ≤ d) {O : Type} : HCL G l (true, false) d (cl_X10_addMember (O := O)) := hcl0
theorem rt_X10_addMember : retOK (0, 0) (some .int) := ⟨fun _ => rfl, fun h => absurd h (by decide), fun h => absurd h (by decide)⟩
set_option maxRecDepth 20000 in
theorem ca_X10_addMember (G : GT) (l : Launch) {d : Nat} (hd : 1 ≤ d) : CA G l 45 (true, false) d ad_X10_addMember := by
  intro O L σ as k o h hW hok
  unfold ad_X10_addMember at h
  split at h
  · obtain ⟨hq0, hA0⟩ := bif_s h
    obtain ⟨e0, hq1⟩ := beq_and hq0
    obtain ⟨e1, hq2⟩ := beq_and hq1
    subst e0
    subst e1
    obtain ⟨r, hr, hk⟩ := Option.bind_eq_some_iff.mp hA0
    exact ca_of (q := (dcI L) r) (by decide) rfl (Nat.le_of_ble_eq_true rfl) hk (fun _ => rfl) (fun e => by cases e) (exs (sp := []) (K := k0) (L0 := L) (σ0 := σ) ok_X10_addMember rt_X10_addMember (by omega) (hc_X10_addMember G l hd) (hrI rfl) hk0 26 hr (inv0 hW hok))
  · cases h
def tt_X10_init (pc : Nat) : TI := bif Nat.blt pc 9 then (bif Nat.blt pc 4 then (bif Nat.blt pc 1 then (bif Nat.beq pc 0 then (.aload_n 0, 1, (0, 0, 0), 0, 0, []) else TN) else (bif Nat.beq pc 1 then (.invokespecial 3, 4, (0, 0, 0), 0, 0, []) else TN)) else (bif Nat.blt pc 5 then (bif Nat.beq pc 4 then (.aload_n 0, 5, (0, 0, 0), 0, 0, []) else TN) else (bif Nat.blt pc 7 then (bif Nat.beq pc 5 then (.bipush 6, 7, (0, 0, 0), 6, 0, []) else TN) else (bif Nat.beq pc 7 then (.newarray .int, 9, (20, 6, 0), 0, 0, []) else TN)))) else (bif Nat.blt pc 15 then (bif Nat.blt pc 12 then (bif Nat.beq pc 9 then (.putfield 9, 12, (10, 0, 0), 0, 0, []) else TN) else (bif Nat.blt pc 13 then (bif Nat.beq pc 12 then (.aload_n 0, 13, (0, 0, 0), 0, 0, []) else TN) else (bif Nat.beq pc 13 then (.bipush 40, 15, (0, 0, 0), 40, 0, []) else TN))) else (bif Nat.blt pc 18 then (bif Nat.beq pc 15 then (.anewarray 15, 18, (23, 40, 0), 0, 0, []) else TN) else (bif Nat.blt pc 21 then (bif Nat.beq pc 18 then (.putfield 17, 21, (10, 2, 0), 0, 0, []) else TN) else (bif Nat.beq pc 21 then (.return_, 22, (0, 0, 0), 0, 0, []) else TN))))
def tb_X10_init (pc : Nat) : TI := bif Nat.ble 22 pc then TN else tt_X10_init pc
theorem ok_X10_init : tOK 10 (decide ("<init>" = "<init>")) cX10_init tb_X10_init := tOK_of 22 tn_of (by decide +kernel)
def f_X10_init (L : Lay) (σ : Sto) (a0 : Nat) : Option (Lay × Sto) := (if (6 : Int32) = nI 6 then (al L σ 20 6 6).bind fun q1 => (putR q1.2.2 a0 0 (some q1.1)).bind fun σ2 => (if (40 : Int32) = nI 40 then (al q1.2.1 σ2 23 40 40).bind fun q3 => (putR q3.2.2 a0 2 (some q3.1)).bind fun σ4 => some (q3.2.1, σ4) else none) else none)
def ad_X10_init : ADT := fun O L σ as k => match as with
  | [.inr (.inr (.inl (ta0, some a0)))] => bif Nat.beq ta0 10 && true then (f_X10_init L σ a0).bind fun r => k none r.1 r.2 else none
  | _ => none
abbrev cl_X10_init {O : Type} : CLT O := cl0
theorem hc_X10_init (G : GT) (l : Launch) {d : Nat} (hd : 1 ≤ d) {O : Type} : HCL G l (false, false) d (cl_X10_init (O := O)) := hcl0
theorem rt_X10_init : retOK (6, 0) none := ⟨fun h => absurd h (by decide), fun h => absurd h (by decide), fun _ => rfl⟩
set_option maxRecDepth 20000 in
theorem ca_X10_init (G : GT) (l : Launch) {d : Nat} (hd : 1 ≤ d) : CA G l 49 (false, false) d ad_X10_init := by
  intro O L σ as k o h hW hok
  unfold ad_X10_init at h
  split at h
  · obtain ⟨hq0, hA0⟩ := bif_s h
    obtain ⟨e0, hq1⟩ := beq_and hq0
    subst e0
    obtain ⟨r, hr, hk⟩ := Option.bind_eq_some_iff.mp hA0
    exact ca_of (q := dcAV r) (by decide) rfl (Nat.le_of_ble_eq_true rfl) hk (fun e => by cases e) (fun e => by cases e) (exs (sp := []) (K := k0) (L0 := L) (σ0 := σ) ok_X10_init rt_X10_init (by omega) (hc_X10_init G l hd) hrAV hk0 14 hr (inv0 hW hok))
  · cases h
def tt_X10_isKind (pc : Nat) : TI := bif Nat.blt pc 2 then (bif Nat.blt pc 1 then (bif Nat.beq pc 0 then (.iload_n 0, 1, (0, 0, 0), 0, 0, []) else TN) else (bif Nat.beq pc 1 then (.iconst 0, 2, (0, 0, 0), 0, 0, []) else TN)) else (bif Nat.blt pc 3 then (bif Nat.beq pc 2 then (.iconst 3, 3, (0, 0, 0), 3, 0, []) else TN) else (bif Nat.blt pc 6 then (bif Nat.beq pc 3 then (.invokestatic 21, 6, (83, 3, 0), 0, 0, []) else TN) else (bif Nat.beq pc 6 then (.ireturn, 7, (0, 0, 0), 0, 0, []) else TN)))
def tb_X10_isKind (pc : Nat) : TI := bif Nat.ble 7 pc then TN else tt_X10_isKind pc
theorem ok_X10_isKind : tOK 10 (decide ("isKind" = "<init>")) cX10_isKind tb_X10_isKind := tOK_of 7 tn_of (by decide +kernel)
def f_X10_isKind (L : Lay) (σ : Sto) (a0 : Int32) : Option Int32 := (f_X11_isWithin L σ a0 0 3).bind fun r1 => (ckN 1 r1).bind fun _ => some r1
def ad_X10_isKind : ADT := fun O L σ as k => match as with
  | [.inl a0] => (f_X10_isKind L σ a0).bind fun r => k (some (vI r)) L σ
  | _ => none
abbrev cl_X10_isKind {O : Type} : CLT O := (clc 83 ad_X11_isWithin cl0)
theorem hc_X10_isKind (G : GT) (l : Launch) {d : Nat} (hd : 2 ≤ d) {O : Type} : HCL G l (true, true) d (cl_X10_isKind (O := O)) := (hclc (ca_X11_isWithin G l (d := 1) (Nat.le_refl _)) (fun _ => rfl) (fun _ => rfl) (by omega) hcl0)
theorem rt_X10_isKind : retOK (1, 0) (some .boolean) := ⟨fun _ => rfl, fun h => absurd h (by decide), fun h => absurd h (by decide)⟩
set_option maxRecDepth 20000 in
theorem ca_X10_isKind (G : GT) (l : Launch) {d : Nat} (hd : 2 ≤ d) : CA G l 52 (true, true) d ad_X10_isKind := by
  intro O L σ as k o h hW hok
  unfold ad_X10_isKind at h
  split at h
  · have hA0 := h
    obtain ⟨r, hr, hk⟩ := Option.bind_eq_some_iff.mp hA0
    exact ca_of (q := (dcPI L σ) r) (by decide) rfl (Nat.le_of_ble_eq_true rfl) hk (fun _ => rfl) (fun _ => rfl) (exs (sp := []) (K := k0) (L0 := L) (σ0 := σ) ok_X10_isKind rt_X10_isKind (by omega) (hc_X10_isKind G l hd) (hrPI rfl rfl) hk0 8 hr (inv0 hW hok))
  · cases h
def tt_X10_sizeOf (pc : Nat) : TI := bif Nat.blt pc 19 then (bif Nat.blt pc 6 then (bif Nat.blt pc 3 then (bif Nat.blt pc 1 then (bif Nat.beq pc 0 then (.iconst 0, 1, (0, 0, 0), 0, 0, []) else TN) else (bif Nat.blt pc 2 then (bif Nat.beq pc 1 then (.istore_n 2, 2, (2, 0, 0), 0, 0, []) else TN) else (bif Nat.beq pc 2 then (.iconst 0, 3, (0, 0, 0), 0, 0, []) else TN))) else (bif Nat.blt pc 4 then (bif Nat.beq pc 3 then (.istore_n 3, 4, (3, 0, 0), 0, 0, []) else TN) else (bif Nat.blt pc 5 then (bif Nat.beq pc 4 then (.iload_n 3, 5, (3, 0, 0), 0, 0, []) else TN) else (bif Nat.beq pc 5 then (.aload_n 0, 6, (0, 0, 0), 0, 0, []) else TN)))) else (bif Nat.blt pc 13 then (bif Nat.blt pc 9 then (bif Nat.beq pc 6 then (.getfield 38, 9, (10, 3, 0), 0, 0, []) else TN) else (bif Nat.blt pc 12 then (bif Nat.beq pc 9 then (.if_icmp .ge 33, 12, (42, 0, 0), 0, 0, []) else TN) else (bif Nat.beq pc 12 then (.iload_n 2, 13, (2, 0, 0), 0, 0, []) else TN))) else (bif Nat.blt pc 15 then (bif Nat.blt pc 14 then (bif Nat.beq pc 13 then (.aload_n 0, 14, (0, 0, 0), 0, 0, []) else TN) else (bif Nat.beq pc 14 then (.iload_n 3, 15, (3, 0, 0), 0, 0, []) else TN)) else (bif Nat.blt pc 16 then (bif Nat.beq pc 15 then (.aload_n 0, 16, (0, 0, 0), 0, 0, []) else TN) else (bif Nat.beq pc 16 then (.getfield 53, 19, (10, 4, 0), 0, 0, []) else TN))))) else (bif Nat.blt pc 31 then (bif Nat.blt pc 26 then (bif Nat.blt pc 22 then (bif Nat.beq pc 19 then (.invokevirtual 50, 22, (46, 2, 10), 0, 0, []) else TN) else (bif Nat.blt pc 23 then (bif Nat.beq pc 22 then (.iload_n 1, 23, (1, 0, 0), 0, 0, []) else TN) else (bif Nat.beq pc 23 then (.if_icmp .ne 7, 26, (30, 0, 0), 0, 0, []) else TN))) else (bif Nat.blt pc 27 then (bif Nat.beq pc 26 then (.iconst 1, 27, (0, 0, 0), 1, 0, []) else TN) else (bif Nat.blt pc 30 then (bif Nat.beq pc 27 then (.goto 4, 30, (31, 0, 0), 0, 0, []) else TN) else (bif Nat.beq pc 30 then (.iconst 0, 31, (0, 0, 0), 0, 0, []) else TN)))) else (bif Nat.blt pc 36 then (bif Nat.blt pc 34 then (bif Nat.beq pc 31 then (.invokestatic 56, 34, (100, 1, 0), 0, 0, []) else TN) else (bif Nat.blt pc 35 then (bif Nat.beq pc 34 then (.iadd, 35, (0, 0, 0), 0, 0, []) else TN) else (bif Nat.beq pc 35 then (.istore_n 2, 36, (2, 0, 0), 0, 0, []) else TN))) else (bif Nat.blt pc 42 then (bif Nat.blt pc 39 then (bif Nat.beq pc 36 then (.iinc 3 1, 39, (3, 0, 0), 1, 0, []) else TN) else (bif Nat.beq pc 39 then (.goto (-35), 42, (4, 0, 0), 0, 0, []) else TN)) else (bif Nat.blt pc 43 then (bif Nat.beq pc 42 then (.iload_n 2, 43, (2, 0, 0), 0, 0, []) else TN) else (bif Nat.beq pc 43 then (.ireturn, 44, (0, 0, 0), 0, 0, []) else TN)))))
def tb_X10_sizeOf (pc : Nat) : TI := bif Nat.ble 44 pc then TN else tt_X10_sizeOf pc
theorem ok_X10_sizeOf : tOK 10 (decide ("sizeOf" = "<init>")) cX10_sizeOf tb_X10_sizeOf := tOK_of 44 tn_of (by decide +kernel)
def f_X10_sizeOf_31 (c4 : Lay → Sto → Nat → Int32 → Int32 → Int32 → Option Int32) (L : Lay) (σ : Sto) (a0 : Nat) (a1 : Int32) (a3 : Int32) (s0 : Int32) (s1 : Int32) : Option Int32 := (f_X11_oneIf L σ s0).bind fun r1 => c4 L σ a0 a1 (s1 + r1) (a3 + 1)
def A_X10_sizeOf_31 (c : Lay → Sto → Nat → Int32 → Int32 → Int32 → Int32 → Option Int32) (lc : List (Option AV)) (st : List AV) (L : Lay) (σ : Sto) : Option Int32 := match lc, st with
  | [some (.inr (.inr (.inl (ta0, some a0)))), some (.inl a1), _, some (.inl a3)], [.inl s0, .inl s1] => bif Nat.beq ta0 10 && true then c L σ a0 a1 a3 s0 s1 else none
  | _, _ => none
def f_X10_sizeOf_4 : Nat → Lay → Sto → Nat → Int32 → Int32 → Int32 → Option Int32
  | 0 => fun _ _ _ _ _ _ => none
  | k + 1 => fun L σ a0 a1 a2 a3 => (if (σ.1 a0 3) ≤ a3 then some a2 else (f_X10_branchOn L σ a0 a3 (σ.1 a0 4)).bind fun r2 => (if r2 = a1 then (f_X10_sizeOf_31 (f_X10_sizeOf_4 k)) L σ a0 a1 a3 1 a2 else (f_X10_sizeOf_31 (f_X10_sizeOf_4 k)) L σ a0 a1 a3 0 a2))
def A_X10_sizeOf_4 (c : Lay → Sto → Nat → Int32 → Int32 → Int32 → Option Int32) (lc : List (Option AV)) (st : List AV) (L : Lay) (σ : Sto) : Option Int32 := match lc, st with
  | [some (.inr (.inr (.inl (ta0, some a0)))), some (.inl a1), some (.inl a2), some (.inl a3)], [] => bif Nat.beq ta0 10 && true then c L σ a0 a1 a2 a3 else none
  | _, _ => none
def f_X10_sizeOf (L : Lay) (σ : Sto) (a0 : Nat) (a1 : Int32) : Option Int32 := (f_X10_sizeOf_4 FU) L σ a0 a1 0 0
def ad_X10_sizeOf : ADT := fun O L σ as k => match as with
  | [.inr (.inr (.inl (ta0, some a0))), .inl a1] => bif Nat.beq ta0 10 && true then (f_X10_sizeOf L σ a0 a1).bind fun r => k (some (vI r)) L σ else none
  | _ => none
abbrev cl_X10_sizeOf {O : Type} : CLT O := (clc 100 ad_X11_oneIf (clc 46 ad_X10_branchOn cl0))
theorem hc_X10_sizeOf (G : GT) (l : Launch) {d : Nat} (hd : 4 ≤ d) {O : Type} : HCL G l (true, true) d (cl_X10_sizeOf (O := O)) := (hclc (ca_X11_oneIf G l (d := 1) (Nat.le_refl _)) (fun _ => rfl) (fun _ => rfl) (by omega) (hclc (ca_X10_branchOn G l (d := 3) (Nat.le_refl _)) (fun _ => rfl) (fun _ => rfl) (by omega) hcl0))
theorem rt_X10_sizeOf : retOK (0, 0) (some .int) := ⟨fun _ => rfl, fun h => absurd h (by decide), fun h => absurd h (by decide)⟩
set_option maxRecDepth 20000 in
theorem b_X10_sizeOf_31 {G : GT} {l : Launch} {d : Nat} {L0 : Lay} {σ0 : Sto} (hd : 4 ≤ d) {c4 : Lay → Sto → Nat → Int32 → Int32 → Int32 → Option Int32} (h4 : HF G l 10 "sizeOf" cX10_sizeOf 4 (some .int) d L0 σ0 (true, true) (dcPI L0 σ0) 4 (A_X10_sizeOf_4 c4)) : HF G l 10 "sizeOf" cX10_sizeOf 4 (some .int) d L0 σ0 (true, true) (dcPI L0 σ0) 31 (A_X10_sizeOf_31 (f_X10_sizeOf_31 c4)) := by
  intro lc st L σ o h hI
  unfold A_X10_sizeOf_31 at h
  split at h
  · obtain ⟨hq0, hA1⟩ := bif_s h
    obtain ⟨e0, hq1⟩ := beq_and hq0
    subst e0
    exact exs (sp := [4]) (K := (kc 4 (A_X10_sizeOf_4 c4) k0)) ok_X10_sizeOf rt_X10_sizeOf (by omega) (hc_X10_sizeOf G l hd) (hrPI rfl rfl) (hkc h4 hk0) 29 hA1 hI
  · cases h
set_option maxRecDepth 20000 in
theorem b_X10_sizeOf_4 {G : GT} {l : Launch} {d : Nat} {L0 : Lay} {σ0 : Sto} (hd : 4 ≤ d) : ∀ k : Nat, HF G l 10 "sizeOf" cX10_sizeOf 4 (some .int) d L0 σ0 (true, true) (dcPI L0 σ0) 4 (A_X10_sizeOf_4 (f_X10_sizeOf_4 k))
  | 0 => by
    intro lc st L σ o h hI
    unfold A_X10_sizeOf_4 at h
    split at h
    · obtain ⟨_, hA1⟩ := bif_s h
      cases hA1
    · cases h
  | k + 1 => by
    have ih := b_X10_sizeOf_4 (G := G) (l := l) (d := d) (L0 := L0) (σ0 := σ0) hd k
    intro lc st L σ o h hI
    unfold A_X10_sizeOf_4 at h
    split at h
    · obtain ⟨hq0, hA1⟩ := bif_s h
      obtain ⟨e0, hq1⟩ := beq_and hq0
      subst e0
      exact exs (sp := [31]) (K := (kc 31 (A_X10_sizeOf_31 (f_X10_sizeOf_31 (f_X10_sizeOf_4 k))) k0)) ok_X10_sizeOf rt_X10_sizeOf (by omega) (hc_X10_sizeOf G l hd) (hrPI rfl rfl) (hkc (b_X10_sizeOf_31 hd ih) hk0) 29 hA1 hI
    · cases h
set_option maxRecDepth 20000 in
theorem ca_X10_sizeOf (G : GT) (l : Launch) {d : Nat} (hd : 4 ≤ d) : CA G l 54 (true, true) d ad_X10_sizeOf := by
  intro O L σ as k o h hW hok
  unfold ad_X10_sizeOf at h
  split at h
  · obtain ⟨hq0, hA0⟩ := bif_s h
    obtain ⟨e0, hq1⟩ := beq_and hq0
    subst e0
    obtain ⟨r, hr, hk⟩ := Option.bind_eq_some_iff.mp hA0
    exact ca_of (q := (dcPI L σ) r) (by decide) rfl (Nat.le_of_ble_eq_true rfl) hk (fun _ => rfl) (fun _ => rfl) (exs (sp := [4]) (K := (kc 4 (A_X10_sizeOf_4 (f_X10_sizeOf_4 FU)) k0)) (L0 := L) (σ0 := σ) ok_X10_sizeOf rt_X10_sizeOf (by omega) (hc_X10_sizeOf G l hd) (hrPI rfl rfl) (hkc (b_X10_sizeOf_4 hd FU) hk0) 29 hr (inv0 hW hok))
  · cases h
def tt_X2_hasLeft (pc : Nat) : TI := bif Nat.blt pc 10 then (bif Nat.blt pc 4 then (bif Nat.blt pc 1 then (bif Nat.beq pc 0 then (.aload_n 0, 1, (0, 0, 0), 0, 0, []) else TN) else (bif Nat.beq pc 1 then (.getfield 9, 4, (2, 4, 0), 0, 0, []) else TN)) else (bif Nat.blt pc 7 then (bif Nat.beq pc 4 then (.sipush 401, 7, (0, 0, 0), 401, 0, []) else TN) else (bif Nat.beq pc 7 then (.if_icmp .eq 7, 10, (14, 0, 0), 0, 0, []) else TN))) else (bif Nat.blt pc 14 then (bif Nat.blt pc 11 then (bif Nat.beq pc 10 then (.iconst 1, 11, (0, 0, 0), 1, 0, []) else TN) else (bif Nat.beq pc 11 then (.goto 4, 14, (15, 0, 0), 0, 0, []) else TN)) else (bif Nat.blt pc 15 then (bif Nat.beq pc 14 then (.iconst 0, 15, (0, 0, 0), 0, 0, []) else TN) else (bif Nat.beq pc 15 then (.ireturn, 16, (0, 0, 0), 0, 0, []) else TN)))
def tb_X2_hasLeft (pc : Nat) : TI := bif Nat.ble 16 pc then TN else tt_X2_hasLeft pc
theorem ok_X2_hasLeft : tOK 2 (decide ("hasLeft" = "<init>")) cX2_hasLeft tb_X2_hasLeft := tOK_of 16 tn_of (by decide +kernel)
def f_X2_hasLeft (L : Lay) (σ : Sto) (a0 : Nat) : Option Int32 := (if (σ.1 a0 4) = 401 then (ckN 1 0).bind fun _ => some 0 else (ckN 1 1).bind fun _ => some 1)
def ad_X2_hasLeft : ADT := fun O L σ as k => match as with
  | [.inr (.inr (.inl (ta0, some a0)))] => bif Nat.beq ta0 2 && true then (f_X2_hasLeft L σ a0).bind fun r => k (some (vI r)) L σ else none
  | _ => none
abbrev cl_X2_hasLeft {O : Type} : CLT O := cl0
theorem hc_X2_hasLeft (G : GT) (l : Launch) {d : Nat} (hd : 1 ≤ d) {O : Type} : HCL G l (true, true) d (cl_X2_hasLeft (O := O)) := hcl0
theorem rt_X2_hasLeft : retOK (1, 0) (some .boolean) := ⟨fun _ => rfl, fun h => absurd h (by decide), fun h => absurd h (by decide)⟩
set_option maxRecDepth 20000 in
theorem ca_X2_hasLeft (G : GT) (l : Launch) {d : Nat} (hd : 1 ≤ d) : CA G l 234 (true, true) d ad_X2_hasLeft := by
  intro O L σ as k o h hW hok
  unfold ad_X2_hasLeft at h
  split at h
  · obtain ⟨hq0, hA0⟩ := bif_s h
    obtain ⟨e0, hq1⟩ := beq_and hq0
    subst e0
    obtain ⟨r, hr, hk⟩ := Option.bind_eq_some_iff.mp hA0
    exact ca_of (q := (dcPI L σ) r) (by decide) rfl (Nat.le_of_ble_eq_true rfl) hk (fun _ => rfl) (fun _ => rfl) (exs (sp := []) (K := k0) (L0 := L) (σ0 := σ) ok_X2_hasLeft rt_X2_hasLeft (by omega) (hc_X2_hasLeft G l hd) (hrPI rfl rfl) hk0 11 hr (inv0 hW hok))
  · cases h
def tt_X10_stayers (pc : Nat) : TI := bif Nat.blt pc 20 then (bif Nat.blt pc 9 then (bif Nat.blt pc 3 then (bif Nat.blt pc 1 then (bif Nat.beq pc 0 then (.iconst 0, 1, (0, 0, 0), 0, 0, []) else TN) else (bif Nat.blt pc 2 then (bif Nat.beq pc 1 then (.istore_n 1, 2, (1, 0, 0), 0, 0, []) else TN) else (bif Nat.beq pc 2 then (.iconst 0, 3, (0, 0, 0), 0, 0, []) else TN))) else (bif Nat.blt pc 5 then (bif Nat.blt pc 4 then (bif Nat.beq pc 3 then (.istore_n 2, 4, (2, 0, 0), 0, 0, []) else TN) else (bif Nat.beq pc 4 then (.iload_n 2, 5, (2, 0, 0), 0, 0, []) else TN)) else (bif Nat.blt pc 6 then (bif Nat.beq pc 5 then (.aload_n 0, 6, (0, 0, 0), 0, 0, []) else TN) else (bif Nat.beq pc 6 then (.getfield 38, 9, (10, 3, 0), 0, 0, []) else TN)))) else (bif Nat.blt pc 14 then (bif Nat.blt pc 12 then (bif Nat.beq pc 9 then (.if_icmp .ge 37, 12, (46, 0, 0), 0, 0, []) else TN) else (bif Nat.blt pc 13 then (bif Nat.beq pc 12 then (.aload_n 0, 13, (0, 0, 0), 0, 0, []) else TN) else (bif Nat.beq pc 13 then (.iload_n 2, 14, (2, 0, 0), 0, 0, []) else TN))) else (bif Nat.blt pc 18 then (bif Nat.blt pc 17 then (bif Nat.beq pc 14 then (.invokevirtual 41, 17, (53, 1, 10), 0, 0, []) else TN) else (bif Nat.beq pc 17 then (.astore_n 3, 18, (3, 0, 0), 0, 0, []) else TN)) else (bif Nat.blt pc 19 then (bif Nat.beq pc 18 then (.iload_n 1, 19, (1, 0, 0), 0, 0, []) else TN) else (bif Nat.beq pc 19 then (.aload_n 3, 20, (3, 0, 0), 0, 0, []) else TN))))) else (bif Nat.blt pc 35 then (bif Nat.blt pc 27 then (bif Nat.blt pc 23 then (bif Nat.beq pc 20 then (.ifnull 14, 23, (34, 0, 0), 0, 0, []) else TN) else (bif Nat.blt pc 24 then (bif Nat.beq pc 23 then (.aload_n 3, 24, (3, 0, 0), 0, 0, []) else TN) else (bif Nat.beq pc 24 then (.invokevirtual 60, 27, (234, 0, 2), 0, 0, []) else TN))) else (bif Nat.blt pc 31 then (bif Nat.blt pc 30 then (bif Nat.beq pc 27 then (.ifCond .ne 7, 30, (34, 0, 0), 0, 0, []) else TN) else (bif Nat.beq pc 30 then (.iconst 1, 31, (0, 0, 0), 1, 0, []) else TN)) else (bif Nat.blt pc 34 then (bif Nat.beq pc 31 then (.goto 4, 34, (35, 0, 0), 0, 0, []) else TN) else (bif Nat.beq pc 34 then (.iconst 0, 35, (0, 0, 0), 0, 0, []) else TN)))) else (bif Nat.blt pc 40 then (bif Nat.blt pc 38 then (bif Nat.beq pc 35 then (.invokestatic 56, 38, (100, 1, 0), 0, 0, []) else TN) else (bif Nat.blt pc 39 then (bif Nat.beq pc 38 then (.iadd, 39, (0, 0, 0), 0, 0, []) else TN) else (bif Nat.beq pc 39 then (.istore_n 1, 40, (1, 0, 0), 0, 0, []) else TN))) else (bif Nat.blt pc 46 then (bif Nat.blt pc 43 then (bif Nat.beq pc 40 then (.iinc 2 1, 43, (2, 0, 0), 1, 0, []) else TN) else (bif Nat.beq pc 43 then (.goto (-39), 46, (4, 0, 0), 0, 0, []) else TN)) else (bif Nat.blt pc 47 then (bif Nat.beq pc 46 then (.iload_n 1, 47, (1, 0, 0), 0, 0, []) else TN) else (bif Nat.beq pc 47 then (.ireturn, 48, (0, 0, 0), 0, 0, []) else TN)))))
def tb_X10_stayers (pc : Nat) : TI := bif Nat.ble 48 pc then TN else tt_X10_stayers pc
theorem ok_X10_stayers : tOK 10 (decide ("stayers" = "<init>")) cX10_stayers tb_X10_stayers := tOK_of 48 tn_of (by decide +kernel)
def f_X10_stayers_35 (c4 : Lay → Sto → Nat → Int32 → Int32 → Option Int32) (L : Lay) (σ : Sto) (a0 : Nat) (a2 : Int32) (s0 : Int32) (s1 : Int32) : Option Int32 := (f_X11_oneIf L σ s0).bind fun r1 => c4 L σ a0 (s1 + r1) (a2 + 1)
def A_X10_stayers_35 (c : Lay → Sto → Nat → Int32 → Int32 → Int32 → Option Int32) (lc : List (Option AV)) (st : List AV) (L : Lay) (σ : Sto) : Option Int32 := match lc, st with
  | [some (.inr (.inr (.inl (ta0, some a0)))), _, some (.inl a2), _], [.inl s0, .inl s1] => bif Nat.beq ta0 10 && true then c L σ a0 a2 s0 s1 else none
  | _, _ => none
def f_X10_stayers_34 (c4 : Lay → Sto → Nat → Int32 → Int32 → Option Int32) (L : Lay) (σ : Sto) (a0 : Nat) (a2 : Int32) (s0 : Int32) : Option Int32 := (f_X10_stayers_35 c4) L σ a0 a2 0 s0
def A_X10_stayers_34 (c : Lay → Sto → Nat → Int32 → Int32 → Option Int32) (lc : List (Option AV)) (st : List AV) (L : Lay) (σ : Sto) : Option Int32 := match lc, st with
  | [some (.inr (.inr (.inl (ta0, some a0)))), _, some (.inl a2), _], [.inl s0] => bif Nat.beq ta0 10 && true then c L σ a0 a2 s0 else none
  | _, _ => none
def f_X10_stayers_4 : Nat → Lay → Sto → Nat → Int32 → Int32 → Option Int32
  | 0 => fun _ _ _ _ _ => none
  | k + 1 => fun L σ a0 a1 a2 => (if (σ.1 a0 3) ≤ a2 then some a1 else (f_X10_memberAt L σ a0 a2).bind fun o2 => (Option.elim o2 ((f_X10_stayers_34 (f_X10_stayers_4 k)) L σ a0 a2 a1) (fun _ => o2.bind fun x3 => (f_X2_hasLeft L σ x3).bind fun r4 => (if r4 = 0 then (f_X10_stayers_35 (f_X10_stayers_4 k)) L σ a0 a2 1 a1 else (f_X10_stayers_34 (f_X10_stayers_4 k)) L σ a0 a2 a1))))
def A_X10_stayers_4 (c : Lay → Sto → Nat → Int32 → Int32 → Option Int32) (lc : List (Option AV)) (st : List AV) (L : Lay) (σ : Sto) : Option Int32 := match lc, st with
  | [some (.inr (.inr (.inl (ta0, some a0)))), some (.inl a1), some (.inl a2), _], [] => bif Nat.beq ta0 10 && true then c L σ a0 a1 a2 else none
  | _, _ => none
def f_X10_stayers (L : Lay) (σ : Sto) (a0 : Nat) : Option Int32 := (f_X10_stayers_4 FU) L σ a0 0 0
def ad_X10_stayers : ADT := fun O L σ as k => match as with
  | [.inr (.inr (.inl (ta0, some a0)))] => bif Nat.beq ta0 10 && true then (f_X10_stayers L σ a0).bind fun r => k (some (vI r)) L σ else none
  | _ => none
abbrev cl_X10_stayers {O : Type} : CLT O := (clc 100 ad_X11_oneIf (clc 53 ad_X10_memberAt (clc 234 ad_X2_hasLeft cl0)))
theorem hc_X10_stayers (G : GT) (l : Launch) {d : Nat} (hd : 3 ≤ d) {O : Type} : HCL G l (true, true) d (cl_X10_stayers (O := O)) := (hclc (ca_X11_oneIf G l (d := 1) (Nat.le_refl _)) (fun _ => rfl) (fun _ => rfl) (by omega) (hclc (ca_X10_memberAt G l (d := 2) (Nat.le_refl _)) (fun _ => rfl) (fun _ => rfl) (by omega) (hclc (ca_X2_hasLeft G l (d := 1) (Nat.le_refl _)) (fun _ => rfl) (fun _ => rfl) (by omega) hcl0)))
theorem rt_X10_stayers : retOK (0, 0) (some .int) := ⟨fun _ => rfl, fun h => absurd h (by decide), fun h => absurd h (by decide)⟩
set_option maxRecDepth 20000 in
theorem b_X10_stayers_35 {G : GT} {l : Launch} {d : Nat} {L0 : Lay} {σ0 : Sto} (hd : 3 ≤ d) {c4 : Lay → Sto → Nat → Int32 → Int32 → Option Int32} (h4 : HF G l 10 "stayers" cX10_stayers 4 (some .int) d L0 σ0 (true, true) (dcPI L0 σ0) 4 (A_X10_stayers_4 c4)) : HF G l 10 "stayers" cX10_stayers 4 (some .int) d L0 σ0 (true, true) (dcPI L0 σ0) 35 (A_X10_stayers_35 (f_X10_stayers_35 c4)) := by
  intro lc st L σ o h hI
  unfold A_X10_stayers_35 at h
  split at h
  · obtain ⟨hq0, hA1⟩ := bif_s h
    obtain ⟨e0, hq1⟩ := beq_and hq0
    subst e0
    exact exs (sp := [4]) (K := (kc 4 (A_X10_stayers_4 c4) k0)) ok_X10_stayers rt_X10_stayers (by omega) (hc_X10_stayers G l hd) (hrPI rfl rfl) (hkc h4 hk0) 31 hA1 hI
  · cases h
set_option maxRecDepth 20000 in
theorem b_X10_stayers_34 {G : GT} {l : Launch} {d : Nat} {L0 : Lay} {σ0 : Sto} (hd : 3 ≤ d) {c4 : Lay → Sto → Nat → Int32 → Int32 → Option Int32} (h4 : HF G l 10 "stayers" cX10_stayers 4 (some .int) d L0 σ0 (true, true) (dcPI L0 σ0) 4 (A_X10_stayers_4 c4)) : HF G l 10 "stayers" cX10_stayers 4 (some .int) d L0 σ0 (true, true) (dcPI L0 σ0) 34 (A_X10_stayers_34 (f_X10_stayers_34 c4)) := by
  intro lc st L σ o h hI
  unfold A_X10_stayers_34 at h
  split at h
  · obtain ⟨hq0, hA1⟩ := bif_s h
    obtain ⟨e0, hq1⟩ := beq_and hq0
    subst e0
    exact exs (sp := [35]) (K := (kc 35 (A_X10_stayers_35 (f_X10_stayers_35 c4)) k0)) ok_X10_stayers rt_X10_stayers (by omega) (hc_X10_stayers G l hd) (hrPI rfl rfl) (hkc (b_X10_stayers_35 hd h4) hk0) 31 hA1 hI
  · cases h
set_option maxRecDepth 20000 in
theorem b_X10_stayers_4 {G : GT} {l : Launch} {d : Nat} {L0 : Lay} {σ0 : Sto} (hd : 3 ≤ d) : ∀ k : Nat, HF G l 10 "stayers" cX10_stayers 4 (some .int) d L0 σ0 (true, true) (dcPI L0 σ0) 4 (A_X10_stayers_4 (f_X10_stayers_4 k))
  | 0 => by
    intro lc st L σ o h hI
    unfold A_X10_stayers_4 at h
    split at h
    · obtain ⟨_, hA1⟩ := bif_s h
      cases hA1
    · cases h
  | k + 1 => by
    have ih := b_X10_stayers_4 (G := G) (l := l) (d := d) (L0 := L0) (σ0 := σ0) hd k
    intro lc st L σ o h hI
    unfold A_X10_stayers_4 at h
    split at h
    · obtain ⟨hq0, hA1⟩ := bif_s h
      obtain ⟨e0, hq1⟩ := beq_and hq0
      subst e0
      exact exs (sp := [34, 35]) (K := (kc 34 (A_X10_stayers_34 (f_X10_stayers_34 (f_X10_stayers_4 k))) (kc 35 (A_X10_stayers_35 (f_X10_stayers_35 (f_X10_stayers_4 k))) k0))) ok_X10_stayers rt_X10_stayers (by omega) (hc_X10_stayers G l hd) (hrPI rfl rfl) (hkc (b_X10_stayers_34 hd ih) (hkc (b_X10_stayers_35 hd ih) hk0)) 31 hA1 hI
    · cases h
set_option maxRecDepth 20000 in
theorem ca_X10_stayers (G : GT) (l : Launch) {d : Nat} (hd : 3 ≤ d) : CA G l 55 (true, true) d ad_X10_stayers := by
  intro O L σ as k o h hW hok
  unfold ad_X10_stayers at h
  split at h
  · obtain ⟨hq0, hA0⟩ := bif_s h
    obtain ⟨e0, hq1⟩ := beq_and hq0
    subst e0
    obtain ⟨r, hr, hk⟩ := Option.bind_eq_some_iff.mp hA0
    exact ca_of (q := (dcPI L σ) r) (by decide) rfl (Nat.le_of_ble_eq_true rfl) hk (fun _ => rfl) (fun _ => rfl) (exs (sp := [4]) (K := (kc 4 (A_X10_stayers_4 (f_X10_stayers_4 FU)) k0)) (L0 := L) (σ0 := σ) ok_X10_stayers rt_X10_stayers (by omega) (hc_X10_stayers G l hd) (hrPI rfl rfl) (hkc (b_X10_stayers_4 hd FU) hk0) 31 hr (inv0 hW hok))
  · cases h
def tt_X2_dayWage (pc : Nat) : TI := bif Nat.blt pc 8 then (bif Nat.blt pc 4 then (bif Nat.blt pc 1 then (bif Nat.beq pc 0 then (.aload_n 0, 1, (0, 0, 0), 0, 0, []) else TN) else (bif Nat.beq pc 1 then (.getfield 28, 4, (2, 1, 0), 0, 0, []) else TN)) else (bif Nat.blt pc 5 then (bif Nat.beq pc 4 then (.aload_n 0, 5, (0, 0, 0), 0, 0, []) else TN) else (bif Nat.beq pc 5 then (.getfield 31, 8, (2, 2, 0), 0, 0, []) else TN))) else (bif Nat.blt pc 10 then (bif Nat.blt pc 9 then (bif Nat.beq pc 8 then (.imul, 9, (0, 0, 0), 0, 0, []) else TN) else (bif Nat.beq pc 9 then (.iconst 5, 10, (0, 0, 0), 5, 0, []) else TN)) else (bif Nat.blt pc 11 then (bif Nat.beq pc 10 then (.idiv, 11, (0, 0, 0), 0, 0, []) else TN) else (bif Nat.beq pc 11 then (.ireturn, 12, (0, 0, 0), 0, 0, []) else TN)))
def tb_X2_dayWage (pc : Nat) : TI := bif Nat.ble 12 pc then TN else tt_X2_dayWage pc
theorem ok_X2_dayWage : tOK 2 (decide ("dayWage" = "<init>")) cX2_dayWage tb_X2_dayWage := tOK_of 12 tn_of (by decide +kernel)
def f_X2_dayWage (L : Lay) (σ : Sto) (a0 : Nat) : Option Int32 := (dv ((σ.1 a0 1) * (σ.1 a0 2)) 5).bind fun q1 => some q1
def ad_X2_dayWage : ADT := fun O L σ as k => match as with
  | [.inr (.inr (.inl (ta0, some a0)))] => bif Nat.beq ta0 2 && true then (f_X2_dayWage L σ a0).bind fun r => k (some (vI r)) L σ else none
  | _ => none
abbrev cl_X2_dayWage {O : Type} : CLT O := cl0
theorem hc_X2_dayWage (G : GT) (l : Launch) {d : Nat} (hd : 1 ≤ d) {O : Type} : HCL G l (true, true) d (cl_X2_dayWage (O := O)) := hcl0
theorem rt_X2_dayWage : retOK (0, 0) (some .int) := ⟨fun _ => rfl, fun h => absurd h (by decide), fun h => absurd h (by decide)⟩
set_option maxRecDepth 20000 in
theorem ca_X2_dayWage (G : GT) (l : Launch) {d : Nat} (hd : 1 ≤ d) : CA G l 232 (true, true) d ad_X2_dayWage := by
  intro O L σ as k o h hW hok
  unfold ad_X2_dayWage at h
  split at h
  · obtain ⟨hq0, hA0⟩ := bif_s h
    obtain ⟨e0, hq1⟩ := beq_and hq0
    subst e0
    obtain ⟨r, hr, hk⟩ := Option.bind_eq_some_iff.mp hA0
    exact ca_of (q := (dcPI L σ) r) (by decide) rfl (Nat.le_of_ble_eq_true rfl) hk (fun _ => rfl) (fun _ => rfl) (exs (sp := []) (K := k0) (L0 := L) (σ0 := σ) ok_X2_dayWage rt_X2_dayWage (by omega) (hc_X2_dayWage G l hd) (hrPI rfl rfl) hk0 11 hr (inv0 hW hok))
  · cases h
def tt_X10_strikePay (pc : Nat) : TI := bif Nat.blt pc 31 then (bif Nat.blt pc 14 then (bif Nat.blt pc 5 then (bif Nat.blt pc 2 then (bif Nat.blt pc 1 then (bif Nat.beq pc 0 then (.iconst 0, 1, (0, 0, 0), 0, 0, []) else TN) else (bif Nat.beq pc 1 then (.istore_n 3, 2, (3, 0, 0), 0, 0, []) else TN)) else (bif Nat.blt pc 3 then (bif Nat.beq pc 2 then (.iconst 0, 3, (0, 0, 0), 0, 0, []) else TN) else (bif Nat.beq pc 3 then (.istore 4, 5, (4, 0, 0), 0, 0, []) else TN))) else (bif Nat.blt pc 8 then (bif Nat.blt pc 7 then (bif Nat.beq pc 5 then (.iload 4, 7, (4, 0, 0), 0, 0, []) else TN) else (bif Nat.beq pc 7 then (.aload_n 0, 8, (0, 0, 0), 0, 0, []) else TN)) else (bif Nat.blt pc 11 then (bif Nat.beq pc 8 then (.getfield 38, 11, (10, 3, 0), 0, 0, []) else TN) else (bif Nat.beq pc 11 then (.if_icmp .ge 49, 14, (60, 0, 0), 0, 0, []) else TN)))) else (bif Nat.blt pc 22 then (bif Nat.blt pc 17 then (bif Nat.blt pc 15 then (bif Nat.beq pc 14 then (.aload_n 0, 15, (0, 0, 0), 0, 0, []) else TN) else (bif Nat.beq pc 15 then (.iload 4, 17, (4, 0, 0), 0, 0, []) else TN)) else (bif Nat.blt pc 20 then (bif Nat.beq pc 17 then (.invokevirtual 41, 20, (53, 1, 10), 0, 0, []) else TN) else (bif Nat.beq pc 20 then (.astore 5, 22, (5, 0, 0), 0, 0, []) else TN))) else (bif Nat.blt pc 27 then (bif Nat.blt pc 24 then (bif Nat.beq pc 22 then (.aload 5, 24, (5, 0, 0), 0, 0, []) else TN) else (bif Nat.beq pc 24 then (.ifnull 30, 27, (54, 0, 0), 0, 0, []) else TN)) else (bif Nat.blt pc 28 then (bif Nat.beq pc 27 then (.aload_n 0, 28, (0, 0, 0), 0, 0, []) else TN) else (bif Nat.blt pc 30 then (bif Nat.beq pc 28 then (.iload 4, 30, (4, 0, 0), 0, 0, []) else TN) else (bif Nat.beq pc 30 then (.iload_n 1, 31, (1, 0, 0), 0, 0, []) else TN)))))) else (bif Nat.blt pc 48 then (bif Nat.blt pc 41 then (bif Nat.blt pc 35 then (bif Nat.blt pc 32 then (bif Nat.beq pc 31 then (.aload_n 0, 32, (0, 0, 0), 0, 0, []) else TN) else (bif Nat.beq pc 32 then (.getfield 53, 35, (10, 4, 0), 0, 0, []) else TN)) else (bif Nat.blt pc 38 then (bif Nat.beq pc 35 then (.invokevirtual 64, 38, (50, 3, 10), 0, 0, []) else TN) else (bif Nat.beq pc 38 then (.ifCond .eq 16, 41, (54, 0, 0), 0, 0, []) else TN))) else (bif Nat.blt pc 44 then (bif Nat.blt pc 42 then (bif Nat.beq pc 41 then (.iload_n 3, 42, (3, 0, 0), 0, 0, []) else TN) else (bif Nat.beq pc 42 then (.aload 5, 44, (5, 0, 0), 0, 0, []) else TN)) else (bif Nat.blt pc 47 then (bif Nat.beq pc 44 then (.invokevirtual 67, 47, (232, 0, 2), 0, 0, []) else TN) else (bif Nat.beq pc 47 then (.iload_n 2, 48, (2, 0, 0), 0, 0, []) else TN)))) else (bif Nat.blt pc 53 then (bif Nat.blt pc 51 then (bif Nat.blt pc 49 then (bif Nat.beq pc 48 then (.imul, 49, (0, 0, 0), 0, 0, []) else TN) else (bif Nat.beq pc 49 then (.bipush 100, 51, (0, 0, 0), 100, 0, []) else TN)) else (bif Nat.blt pc 52 then (bif Nat.beq pc 51 then (.idiv, 52, (0, 0, 0), 0, 0, []) else TN) else (bif Nat.beq pc 52 then (.iadd, 53, (0, 0, 0), 0, 0, []) else TN))) else (bif Nat.blt pc 57 then (bif Nat.blt pc 54 then (bif Nat.beq pc 53 then (.istore_n 3, 54, (3, 0, 0), 0, 0, []) else TN) else (bif Nat.beq pc 54 then (.iinc 4 1, 57, (4, 0, 0), 1, 0, []) else TN)) else (bif Nat.blt pc 60 then (bif Nat.beq pc 57 then (.goto (-52), 60, (5, 0, 0), 0, 0, []) else TN) else (bif Nat.blt pc 61 then (bif Nat.beq pc 60 then (.iload_n 3, 61, (3, 0, 0), 0, 0, []) else TN) else (bif Nat.beq pc 61 then (.ireturn, 62, (0, 0, 0), 0, 0, []) else TN))))))
def tb_X10_strikePay (pc : Nat) : TI := bif Nat.ble 62 pc then TN else tt_X10_strikePay pc
theorem ok_X10_strikePay : tOK 10 (decide ("strikePay" = "<init>")) cX10_strikePay tb_X10_strikePay := tOK_of 62 tn_of (by decide +kernel)
def f_X10_strikePay_54 (c5 : Lay → Sto → Nat → Int32 → Int32 → Int32 → Int32 → Option Int32) (L : Lay) (σ : Sto) (a0 : Nat) (a1 : Int32) (a2 : Int32) (a3 : Int32) (a4 : Int32) : Option Int32 := c5 L σ a0 a1 a2 a3 (a4 + 1)
def A_X10_strikePay_54 (c : Lay → Sto → Nat → Int32 → Int32 → Int32 → Int32 → Option Int32) (lc : List (Option AV)) (st : List AV) (L : Lay) (σ : Sto) : Option Int32 := match lc, st with
  | [some (.inr (.inr (.inl (ta0, some a0)))), some (.inl a1), some (.inl a2), some (.inl a3), some (.inl a4), _], [] => bif Nat.beq ta0 10 && true then c L σ a0 a1 a2 a3 a4 else none
  | _, _ => none
def f_X10_strikePay_5 : Nat → Lay → Sto → Nat → Int32 → Int32 → Int32 → Int32 → Option Int32
  | 0 => fun _ _ _ _ _ _ _ => none
  | k + 1 => fun L σ a0 a1 a2 a3 a4 => (if (σ.1 a0 3) ≤ a4 then some a3 else (f_X10_memberAt L σ a0 a4).bind fun o1 => (Option.elim o1 ((f_X10_strikePay_54 (f_X10_strikePay_5 k)) L σ a0 a1 a2 a3 a4) (fun _ => (f_X10_isAmong L σ a0 a4 a1 (σ.1 a0 4)).bind fun r2 => (if r2 = 0 then (f_X10_strikePay_54 (f_X10_strikePay_5 k)) L σ a0 a1 a2 a3 a4 else o1.bind fun x3 => (f_X2_dayWage L σ x3).bind fun r4 => (dv (r4 * a2) 100).bind fun q5 => (f_X10_strikePay_54 (f_X10_strikePay_5 k)) L σ a0 a1 a2 (a3 + q5) a4))))
def A_X10_strikePay_5 (c : Lay → Sto → Nat → Int32 → Int32 → Int32 → Int32 → Option Int32) (lc : List (Option AV)) (st : List AV) (L : Lay) (σ : Sto) : Option Int32 := match lc, st with
  | [some (.inr (.inr (.inl (ta0, some a0)))), some (.inl a1), some (.inl a2), some (.inl a3), some (.inl a4), _], [] => bif Nat.beq ta0 10 && true then c L σ a0 a1 a2 a3 a4 else none
  | _, _ => none
def f_X10_strikePay (L : Lay) (σ : Sto) (a0 : Nat) (a1 : Int32) (a2 : Int32) : Option Int32 := (f_X10_strikePay_5 FU) L σ a0 a1 a2 0 0
def ad_X10_strikePay : ADT := fun O L σ as k => match as with
  | [.inr (.inr (.inl (ta0, some a0))), .inl a1, .inl a2] => bif Nat.beq ta0 10 && true then (f_X10_strikePay L σ a0 a1 a2).bind fun r => k (some (vI r)) L σ else none
  | _ => none
abbrev cl_X10_strikePay {O : Type} : CLT O := (clc 53 ad_X10_memberAt (clc 50 ad_X10_isAmong (clc 232 ad_X2_dayWage cl0)))
theorem hc_X10_strikePay (G : GT) (l : Launch) {d : Nat} (hd : 5 ≤ d) {O : Type} : HCL G l (true, true) d (cl_X10_strikePay (O := O)) := (hclc (ca_X10_memberAt G l (d := 2) (Nat.le_refl _)) (fun _ => rfl) (fun _ => rfl) (by omega) (hclc (ca_X10_isAmong G l (d := 4) (Nat.le_refl _)) (fun _ => rfl) (fun _ => rfl) (by omega) (hclc (ca_X2_dayWage G l (d := 1) (Nat.le_refl _)) (fun _ => rfl) (fun _ => rfl) (by omega) hcl0)))
theorem rt_X10_strikePay : retOK (0, 0) (some .int) := ⟨fun _ => rfl, fun h => absurd h (by decide), fun h => absurd h (by decide)⟩
set_option maxRecDepth 20000 in
theorem b_X10_strikePay_54 {G : GT} {l : Launch} {d : Nat} {L0 : Lay} {σ0 : Sto} (hd : 5 ≤ d) {c5 : Lay → Sto → Nat → Int32 → Int32 → Int32 → Int32 → Option Int32} (h5 : HF G l 10 "strikePay" cX10_strikePay 6 (some .int) d L0 σ0 (true, true) (dcPI L0 σ0) 5 (A_X10_strikePay_5 c5)) : HF G l 10 "strikePay" cX10_strikePay 6 (some .int) d L0 σ0 (true, true) (dcPI L0 σ0) 54 (A_X10_strikePay_54 (f_X10_strikePay_54 c5)) := by
  intro lc st L σ o h hI
  unfold A_X10_strikePay_54 at h
  split at h
  · obtain ⟨hq0, hA1⟩ := bif_s h
    obtain ⟨e0, hq1⟩ := beq_and hq0
    subst e0
    exact exs (sp := [5]) (K := (kc 5 (A_X10_strikePay_5 c5) k0)) ok_X10_strikePay rt_X10_strikePay (by omega) (hc_X10_strikePay G l hd) (hrPI rfl rfl) (hkc h5 hk0) 37 hA1 hI
  · cases h
set_option maxRecDepth 20000 in
theorem b_X10_strikePay_5 {G : GT} {l : Launch} {d : Nat} {L0 : Lay} {σ0 : Sto} (hd : 5 ≤ d) : ∀ k : Nat, HF G l 10 "strikePay" cX10_strikePay 6 (some .int) d L0 σ0 (true, true) (dcPI L0 σ0) 5 (A_X10_strikePay_5 (f_X10_strikePay_5 k))
  | 0 => by
    intro lc st L σ o h hI
    unfold A_X10_strikePay_5 at h
    split at h
    · obtain ⟨_, hA1⟩ := bif_s h
      cases hA1
    · cases h
  | k + 1 => by
    have ih := b_X10_strikePay_5 (G := G) (l := l) (d := d) (L0 := L0) (σ0 := σ0) hd k
    intro lc st L σ o h hI
    unfold A_X10_strikePay_5 at h
    split at h
    · obtain ⟨hq0, hA1⟩ := bif_s h
      obtain ⟨e0, hq1⟩ := beq_and hq0
      subst e0
      exact exs (sp := [54]) (K := (kc 54 (A_X10_strikePay_54 (f_X10_strikePay_54 (f_X10_strikePay_5 k))) k0)) ok_X10_strikePay rt_X10_strikePay (by omega) (hc_X10_strikePay G l hd) (hrPI rfl rfl) (hkc (b_X10_strikePay_54 hd ih) hk0) 37 hA1 hI
    · cases h
set_option maxRecDepth 20000 in
theorem ca_X10_strikePay (G : GT) (l : Launch) {d : Nat} (hd : 5 ≤ d) : CA G l 56 (true, true) d ad_X10_strikePay := by
  intro O L σ as k o h hW hok
  unfold ad_X10_strikePay at h
  split at h
  · obtain ⟨hq0, hA0⟩ := bif_s h
    obtain ⟨e0, hq1⟩ := beq_and hq0
    subst e0
    obtain ⟨r, hr, hk⟩ := Option.bind_eq_some_iff.mp hA0
    exact ca_of (q := (dcPI L σ) r) (by decide) rfl (Nat.le_of_ble_eq_true rfl) hk (fun _ => rfl) (fun _ => rfl) (exs (sp := [5]) (K := (kc 5 (A_X10_strikePay_5 (f_X10_strikePay_5 FU)) k0)) (L0 := L) (σ0 := σ) ok_X10_strikePay rt_X10_strikePay (by omega) (hc_X10_strikePay G l hd) (hrPI rfl rfl) (hkc (b_X10_strikePay_5 hd FU) hk0) 37 hr (inv0 hW hok))
  · cases h
def tt_X10_strikesVital (pc : Nat) : TI := bif Nat.blt pc 24 then (bif Nat.blt pc 11 then (bif Nat.blt pc 3 then (bif Nat.blt pc 1 then (bif Nat.beq pc 0 then (.iconst 0, 1, (0, 0, 0), 0, 0, []) else TN) else (bif Nat.blt pc 2 then (bif Nat.beq pc 1 then (.istore_n 2, 2, (2, 0, 0), 0, 0, []) else TN) else (bif Nat.beq pc 2 then (.iload_n 2, 3, (2, 0, 0), 0, 0, []) else TN))) else (bif Nat.blt pc 7 then (bif Nat.blt pc 4 then (bif Nat.beq pc 3 then (.aload_n 0, 4, (0, 0, 0), 0, 0, []) else TN) else (bif Nat.beq pc 4 then (.getfield 38, 7, (10, 3, 0), 0, 0, []) else TN)) else (bif Nat.blt pc 10 then (bif Nat.beq pc 7 then (.if_icmp .ge 41, 10, (48, 0, 0), 0, 0, []) else TN) else (bif Nat.beq pc 10 then (.aload_n 0, 11, (0, 0, 0), 0, 0, []) else TN)))) else (bif Nat.blt pc 14 then (bif Nat.blt pc 12 then (bif Nat.beq pc 11 then (.iload_n 2, 12, (2, 0, 0), 0, 0, []) else TN) else (bif Nat.blt pc 13 then (bif Nat.beq pc 12 then (.iload_n 1, 13, (1, 0, 0), 0, 0, []) else TN) else (bif Nat.beq pc 13 then (.aload_n 0, 14, (0, 0, 0), 0, 0, []) else TN))) else (bif Nat.blt pc 20 then (bif Nat.blt pc 17 then (bif Nat.beq pc 14 then (.getfield 53, 17, (10, 4, 0), 0, 0, []) else TN) else (bif Nat.beq pc 17 then (.invokevirtual 64, 20, (50, 3, 10), 0, 0, []) else TN)) else (bif Nat.blt pc 23 then (bif Nat.beq pc 20 then (.ifCond .eq 22, 23, (42, 0, 0), 0, 0, []) else TN) else (bif Nat.beq pc 23 then (.aload_n 0, 24, (0, 0, 0), 0, 0, []) else TN))))) else (bif Nat.blt pc 37 then (bif Nat.blt pc 27 then (bif Nat.blt pc 25 then (bif Nat.beq pc 24 then (.aload_n 0, 25, (0, 0, 0), 0, 0, []) else TN) else (bif Nat.blt pc 26 then (bif Nat.beq pc 25 then (.iload_n 2, 26, (2, 0, 0), 0, 0, []) else TN) else (bif Nat.beq pc 26 then (.aload_n 0, 27, (0, 0, 0), 0, 0, []) else TN))) else (bif Nat.blt pc 33 then (bif Nat.blt pc 30 then (bif Nat.beq pc 27 then (.getfield 53, 30, (10, 4, 0), 0, 0, []) else TN) else (bif Nat.beq pc 30 then (.invokevirtual 50, 33, (46, 2, 10), 0, 0, []) else TN)) else (bif Nat.blt pc 34 then (bif Nat.beq pc 33 then (.iconst 1, 34, (0, 0, 0), 1, 0, []) else TN) else (bif Nat.beq pc 34 then (.invokevirtual 34, 37, (51, 2, 10), 0, 0, []) else TN)))) else (bif Nat.blt pc 42 then (bif Nat.blt pc 40 then (bif Nat.beq pc 37 then (.ifCond .eq 5, 40, (42, 0, 0), 0, 0, []) else TN) else (bif Nat.blt pc 41 then (bif Nat.beq pc 40 then (.iconst 1, 41, (0, 0, 0), 1, 0, []) else TN) else (bif Nat.beq pc 41 then (.ireturn, 42, (0, 0, 0), 0, 0, []) else TN))) else (bif Nat.blt pc 48 then (bif Nat.blt pc 45 then (bif Nat.beq pc 42 then (.iinc 2 1, 45, (2, 0, 0), 1, 0, []) else TN) else (bif Nat.beq pc 45 then (.goto (-43), 48, (2, 0, 0), 0, 0, []) else TN)) else (bif Nat.blt pc 49 then (bif Nat.beq pc 48 then (.iconst 0, 49, (0, 0, 0), 0, 0, []) else TN) else (bif Nat.beq pc 49 then (.ireturn, 50, (0, 0, 0), 0, 0, []) else TN)))))
def tb_X10_strikesVital (pc : Nat) : TI := bif Nat.ble 50 pc then TN else tt_X10_strikesVital pc
theorem ok_X10_strikesVital : tOK 10 (decide ("strikesVital" = "<init>")) cX10_strikesVital tb_X10_strikesVital := tOK_of 50 tn_of (by decide +kernel)
def f_X10_strikesVital_42 (c2 : Lay → Sto → Nat → Int32 → Int32 → Option Int32) (L : Lay) (σ : Sto) (a0 : Nat) (a1 : Int32) (a2 : Int32) : Option Int32 := c2 L σ a0 a1 (a2 + 1)
def A_X10_strikesVital_42 (c : Lay → Sto → Nat → Int32 → Int32 → Option Int32) (lc : List (Option AV)) (st : List AV) (L : Lay) (σ : Sto) : Option Int32 := match lc, st with
  | [some (.inr (.inr (.inl (ta0, some a0)))), some (.inl a1), some (.inl a2)], [] => bif Nat.beq ta0 10 && true then c L σ a0 a1 a2 else none
  | _, _ => none
def f_X10_strikesVital_2 : Nat → Lay → Sto → Nat → Int32 → Int32 → Option Int32
  | 0 => fun _ _ _ _ _ => none
  | k + 1 => fun L σ a0 a1 a2 => (if (σ.1 a0 3) ≤ a2 then (ckN 1 0).bind fun _ => some 0 else (f_X10_isAmong L σ a0 a2 a1 (σ.1 a0 4)).bind fun r1 => (if r1 = 0 then (f_X10_strikesVital_42 (f_X10_strikesVital_2 k)) L σ a0 a1 a2 else (f_X10_branchOn L σ a0 a2 (σ.1 a0 4)).bind fun r2 => (f_X10_isBranchOf L σ a0 r2 1).bind fun r3 => (if r3 = 0 then (f_X10_strikesVital_42 (f_X10_strikesVital_2 k)) L σ a0 a1 a2 else (ckN 1 1).bind fun _ => some 1)))
def A_X10_strikesVital_2 (c : Lay → Sto → Nat → Int32 → Int32 → Option Int32) (lc : List (Option AV)) (st : List AV) (L : Lay) (σ : Sto) : Option Int32 := match lc, st with
  | [some (.inr (.inr (.inl (ta0, some a0)))), some (.inl a1), some (.inl a2)], [] => bif Nat.beq ta0 10 && true then c L σ a0 a1 a2 else none
  | _, _ => none
def f_X10_strikesVital (L : Lay) (σ : Sto) (a0 : Nat) (a1 : Int32) : Option Int32 := (f_X10_strikesVital_2 FU) L σ a0 a1 0
def ad_X10_strikesVital : ADT := fun O L σ as k => match as with
  | [.inr (.inr (.inl (ta0, some a0))), .inl a1] => bif Nat.beq ta0 10 && true then (f_X10_strikesVital L σ a0 a1).bind fun r => k (some (vI r)) L σ else none
  | _ => none
abbrev cl_X10_strikesVital {O : Type} : CLT O := (clc 50 ad_X10_isAmong (clc 46 ad_X10_branchOn (clc 51 ad_X10_isBranchOf cl0)))
theorem hc_X10_strikesVital (G : GT) (l : Launch) {d : Nat} (hd : 5 ≤ d) {O : Type} : HCL G l (true, true) d (cl_X10_strikesVital (O := O)) := (hclc (ca_X10_isAmong G l (d := 4) (Nat.le_refl _)) (fun _ => rfl) (fun _ => rfl) (by omega) (hclc (ca_X10_branchOn G l (d := 3) (Nat.le_refl _)) (fun _ => rfl) (fun _ => rfl) (by omega) (hclc (ca_X10_isBranchOf G l (d := 3) (Nat.le_refl _)) (fun _ => rfl) (fun _ => rfl) (by omega) hcl0)))
theorem rt_X10_strikesVital : retOK (1, 0) (some .boolean) := ⟨fun _ => rfl, fun h => absurd h (by decide), fun h => absurd h (by decide)⟩
set_option maxRecDepth 20000 in
theorem b_X10_strikesVital_42 {G : GT} {l : Launch} {d : Nat} {L0 : Lay} {σ0 : Sto} (hd : 5 ≤ d) {c2 : Lay → Sto → Nat → Int32 → Int32 → Option Int32} (h2 : HF G l 10 "strikesVital" cX10_strikesVital 3 (some .boolean) d L0 σ0 (true, true) (dcPI L0 σ0) 2 (A_X10_strikesVital_2 c2)) : HF G l 10 "strikesVital" cX10_strikesVital 3 (some .boolean) d L0 σ0 (true, true) (dcPI L0 σ0) 42 (A_X10_strikesVital_42 (f_X10_strikesVital_42 c2)) := by
  intro lc st L σ o h hI
  unfold A_X10_strikesVital_42 at h
  split at h
  · obtain ⟨hq0, hA1⟩ := bif_s h
    obtain ⟨e0, hq1⟩ := beq_and hq0
    subst e0
    exact exs (sp := [2]) (K := (kc 2 (A_X10_strikesVital_2 c2) k0)) ok_X10_strikesVital rt_X10_strikesVital (by omega) (hc_X10_strikesVital G l hd) (hrPI rfl rfl) (hkc h2 hk0) 31 hA1 hI
  · cases h
set_option maxRecDepth 20000 in
theorem b_X10_strikesVital_2 {G : GT} {l : Launch} {d : Nat} {L0 : Lay} {σ0 : Sto} (hd : 5 ≤ d) : ∀ k : Nat, HF G l 10 "strikesVital" cX10_strikesVital 3 (some .boolean) d L0 σ0 (true, true) (dcPI L0 σ0) 2 (A_X10_strikesVital_2 (f_X10_strikesVital_2 k))
  | 0 => by
    intro lc st L σ o h hI
    unfold A_X10_strikesVital_2 at h
    split at h
    · obtain ⟨_, hA1⟩ := bif_s h
      cases hA1
    · cases h
  | k + 1 => by
    have ih := b_X10_strikesVital_2 (G := G) (l := l) (d := d) (L0 := L0) (σ0 := σ0) hd k
    intro lc st L σ o h hI
    unfold A_X10_strikesVital_2 at h
    split at h
    · obtain ⟨hq0, hA1⟩ := bif_s h
      obtain ⟨e0, hq1⟩ := beq_and hq0
      subst e0
      exact exs (sp := [42]) (K := (kc 42 (A_X10_strikesVital_42 (f_X10_strikesVital_42 (f_X10_strikesVital_2 k))) k0)) ok_X10_strikesVital rt_X10_strikesVital (by omega) (hc_X10_strikesVital G l hd) (hrPI rfl rfl) (hkc (b_X10_strikesVital_42 hd ih) hk0) 31 hA1 hI
    · cases h
set_option maxRecDepth 20000 in
theorem ca_X10_strikesVital (G : GT) (l : Launch) {d : Nat} (hd : 5 ≤ d) : CA G l 57 (true, true) d ad_X10_strikesVital := by
  intro O L σ as k o h hW hok
  unfold ad_X10_strikesVital at h
  split at h
  · obtain ⟨hq0, hA0⟩ := bif_s h
    obtain ⟨e0, hq1⟩ := beq_and hq0
    subst e0
    obtain ⟨r, hr, hk⟩ := Option.bind_eq_some_iff.mp hA0
    exact ca_of (q := (dcPI L σ) r) (by decide) rfl (Nat.le_of_ble_eq_true rfl) hk (fun _ => rfl) (fun _ => rfl) (exs (sp := [2]) (K := (kc 2 (A_X10_strikesVital_2 (f_X10_strikesVital_2 FU)) k0)) (L0 := L) (σ0 := σ) ok_X10_strikesVital rt_X10_strikesVital (by omega) (hc_X10_strikesVital G l hd) (hrPI rfl rfl) (hkc (b_X10_strikesVital_2 hd FU) hk0) 31 hr (inv0 hW hok))
  · cases h
