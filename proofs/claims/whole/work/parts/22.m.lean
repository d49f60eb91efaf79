def tt_X10_wrongIn (pc : Nat) : TI := bif Nat.blt pc 31 then (bif Nat.blt pc 16 then (bif Nat.blt pc 6 then (bif Nat.blt pc 3 then (bif Nat.blt pc 1 then (bif Nat.beq pc 0 then (.iconst 0, 1, (0, 0, 0), 0, 0, []) else TN) else (bif Nat.beq pc 1 then (.istore 4, 3, (4, 0, 0), 0, 0, []) else TN)) else (bif Nat.blt pc 4 then (bif Nat.beq pc 3 then (.iconst 0, 4, (0, 0, 0), 0, 0, []) else TN) else (bif Nat.beq pc 4 then (.istore 5, 6, (5, 0, 0), 0, 0, []) else TN))) else (bif Nat.blt pc 9 then (bif Nat.blt pc 8 then (bif Nat.beq pc 6 then (.iload 5, 8, (5, 0, 0), 0, 0, []) else TN) else (bif Nat.beq pc 8 then (.aload_n 0, 9, (0, 0, 0), 0, 0, []) else TN)) else (bif Nat.blt pc 12 then (bif Nat.beq pc 9 then (.getfield 38, 12, (10, 3, 0), 0, 0, []) else TN) else (bif Nat.blt pc 15 then (bif Nat.beq pc 12 then (.if_icmp .ge 56, 15, (68, 0, 0), 0, 0, []) else TN) else (bif Nat.beq pc 15 then (.lload_n 1, 16, (1, 0, 0), 0, 0, []) else TN))))) else (bif Nat.blt pc 22 then (bif Nat.blt pc 19 then (bif Nat.blt pc 18 then (bif Nat.beq pc 16 then (.iload 5, 18, (5, 0, 0), 0, 0, []) else TN) else (bif Nat.beq pc 18 then (.lshr, 19, (0, 0, 0), 0, 0, []) else TN)) else (bif Nat.blt pc 20 then (bif Nat.beq pc 19 then (.lconst 1, 20, (0, 0, 0), 0, 1, []) else TN) else (bif Nat.blt pc 21 then (bif Nat.beq pc 20 then (.land, 21, (0, 0, 0), 0, 0, []) else TN) else (bif Nat.beq pc 21 then (.lconst 1, 22, (0, 0, 0), 0, 1, []) else TN)))) else (bif Nat.blt pc 26 then (bif Nat.blt pc 23 then (bif Nat.beq pc 22 then (.lcmp, 23, (0, 0, 0), 0, 0, []) else TN) else (bif Nat.beq pc 23 then (.ifCond .ne 7, 26, (30, 0, 0), 0, 0, []) else TN)) else (bif Nat.blt pc 27 then (bif Nat.beq pc 26 then (.iconst 1, 27, (0, 0, 0), 1, 0, []) else TN) else (bif Nat.blt pc 30 then (bif Nat.beq pc 27 then (.goto 4, 30, (31, 0, 0), 0, 0, []) else TN) else (bif Nat.beq pc 30 then (.iconst 0, 31, (0, 0, 0), 0, 0, []) else TN)))))) else (bif Nat.blt pc 51 then (bif Nat.blt pc 40 then (bif Nat.blt pc 35 then (bif Nat.blt pc 33 then (bif Nat.beq pc 31 then (.istore 6, 33, (6, 0, 0), 0, 0, []) else TN) else (bif Nat.beq pc 33 then (.iload 4, 35, (4, 0, 0), 0, 0, []) else TN)) else (bif Nat.blt pc 37 then (bif Nat.beq pc 35 then (.iload 6, 37, (6, 0, 0), 0, 0, []) else TN) else (bif Nat.blt pc 38 then (bif Nat.beq pc 37 then (.aload_n 0, 38, (0, 0, 0), 0, 0, []) else TN) else (bif Nat.beq pc 38 then (.iload 5, 40, (5, 0, 0), 0, 0, []) else TN)))) else (bif Nat.blt pc 42 then (bif Nat.blt pc 41 then (bif Nat.beq pc 40 then (.iload_n 3, 41, (3, 0, 0), 0, 0, []) else TN) else (bif Nat.beq pc 41 then (.aload_n 0, 42, (0, 0, 0), 0, 0, []) else TN)) else (bif Nat.blt pc 45 then (bif Nat.beq pc 42 then (.getfield 53, 45, (10, 4, 0), 0, 0, []) else TN) else (bif Nat.blt pc 48 then (bif Nat.beq pc 45 then (.invokevirtual 64, 48, (50, 3, 10), 0, 0, []) else TN) else (bif Nat.beq pc 48 then (.if_icmp .eq 7, 51, (55, 0, 0), 0, 0, []) else TN))))) else (bif Nat.blt pc 60 then (bif Nat.blt pc 55 then (bif Nat.blt pc 52 then (bif Nat.beq pc 51 then (.iconst 1, 52, (0, 0, 0), 1, 0, []) else TN) else (bif Nat.beq pc 52 then (.goto 4, 55, (56, 0, 0), 0, 0, []) else TN)) else (bif Nat.blt pc 56 then (bif Nat.beq pc 55 then (.iconst 0, 56, (0, 0, 0), 0, 0, []) else TN) else (bif Nat.blt pc 59 then (bif Nat.beq pc 56 then (.invokestatic 56, 59, (100, 1, 0), 0, 0, []) else TN) else (bif Nat.beq pc 59 then (.iadd, 60, (0, 0, 0), 0, 0, []) else TN)))) else (bif Nat.blt pc 65 then (bif Nat.blt pc 62 then (bif Nat.beq pc 60 then (.istore 4, 62, (4, 0, 0), 0, 0, []) else TN) else (bif Nat.beq pc 62 then (.iinc 5 1, 65, (5, 0, 0), 1, 0, []) else TN)) else (bif Nat.blt pc 68 then (bif Nat.beq pc 65 then (.goto (-59), 68, (6, 0, 0), 0, 0, []) else TN) else (bif Nat.blt pc 70 then (bif Nat.beq pc 68 then (.iload 4, 70, (4, 0, 0), 0, 0, []) else TN) else (bif Nat.beq pc 70 then (.ireturn, 71, (0, 0, 0), 0, 0, []) else TN))))))
def tb_X10_wrongIn (pc : Nat) : TI := bif Nat.ble 71 pc then TN else tt_X10_wrongIn pc
theorem ok_X10_wrongIn : tOK 10 (decide ("wrongIn" = "<init>")) cX10_wrongIn tb_X10_wrongIn := tOK_of 71 tn_of (by decide +kernel)
def f_X10_wrongIn_56 (c6 : Lay → Sto → Nat → Int64 → Int32 → Int32 → Int32 → Option Int32) (L : Lay) (σ : Sto) (a0 : Nat) (a1 : Int64) (a3 : Int32) (a5 : Int32) (s0 : Int32) (s1 : Int32) : Option Int32 := (f_X11_oneIf L σ s0).bind fun r1 => c6 L σ a0 a1 a3 (s1 + r1) (a5 + 1)
def A_X10_wrongIn_56 (c : Lay → Sto → Nat → Int64 → Int32 → Int32 → Int32 → Int32 → Option Int32) (lc : List (Option AV)) (st : List AV) (L : Lay) (σ : Sto) : Option Int32 := match lc, st with
  | [some (.inr (.inr (.inl (ta0, some a0)))), some (.inr (.inl a1)), _, some (.inl a3), _, some (.inl a5), _], [.inl s0, .inl s1] => bif Nat.beq ta0 10 && true then c L σ a0 a1 a3 a5 s0 s1 else none
  | _, _ => none
def f_X10_wrongIn_31 (c6 : Lay → Sto → Nat → Int64 → Int32 → Int32 → Int32 → Option Int32) (L : Lay) (σ : Sto) (a0 : Nat) (a1 : Int64) (a3 : Int32) (a4 : Int32) (a5 : Int32) (s0 : Int32) : Option Int32 := (f_X10_isAmong L σ a0 a5 a3 (σ.1 a0 4)).bind fun r2 => (if s0 = r2 then (f_X10_wrongIn_56 c6) L σ a0 a1 a3 a5 0 a4 else (f_X10_wrongIn_56 c6) L σ a0 a1 a3 a5 1 a4)
def A_X10_wrongIn_31 (c : Lay → Sto → Nat → Int64 → Int32 → Int32 → Int32 → Int32 → Option Int32) (lc : List (Option AV)) (st : List AV) (L : Lay) (σ : Sto) : Option Int32 := match lc, st with
  | [some (.inr (.inr (.inl (ta0, some a0)))), some (.inr (.inl a1)), _, some (.inl a3), some (.inl a4), some (.inl a5), _], [.inl s0] => bif Nat.beq ta0 10 && true then c L σ a0 a1 a3 a4 a5 s0 else none
  | _, _ => none
def f_X10_wrongIn_6 : Nat → Lay → Sto → Nat → Int64 → Int32 → Int32 → Int32 → Option Int32
  | 0 => fun _ _ _ _ _ _ _ => none
  | k + 1 => fun L σ a0 a1 a3 a4 a5 => (if (σ.1 a0 3) ≤ a5 then some a4 else (if (lg_cmp ((a1 >>> (a5.toInt64 &&& 63)) &&& 1) 1) = 0 then (f_X10_wrongIn_31 (f_X10_wrongIn_6 k)) L σ a0 a1 a3 a4 a5 1 else (f_X10_wrongIn_31 (f_X10_wrongIn_6 k)) L σ a0 a1 a3 a4 a5 0))
def A_X10_wrongIn_6 (c : Lay → Sto → Nat → Int64 → Int32 → Int32 → Int32 → Option Int32) (lc : List (Option AV)) (st : List AV) (L : Lay) (σ : Sto) : Option Int32 := match lc, st with
  | [some (.inr (.inr (.inl (ta0, some a0)))), some (.inr (.inl a1)), _, some (.inl a3), some (.inl a4), some (.inl a5), _], [] => bif Nat.beq ta0 10 && true then c L σ a0 a1 a3 a4 a5 else none
  | _, _ => none
def f_X10_wrongIn (L : Lay) (σ : Sto) (a0 : Nat) (a1 : Int64) (a2 : Int32) : Option Int32 := (f_X10_wrongIn_6 FU) L σ a0 a1 a2 0 0
def ad_X10_wrongIn : ADT := fun O L σ as k => match as with
  | [.inr (.inr (.inl (ta0, some a0))), .inr (.inl a1), .inl a2] => bif Nat.beq ta0 10 && true then (f_X10_wrongIn L σ a0 a1 a2).bind fun r => k (some (vI r)) L σ else none
  | _ => none
abbrev cl_X10_wrongIn {O : Type} : CLT O := (clc 100 ad_X11_oneIf (clc 50 ad_X10_isAmong cl0))
theorem hc_X10_wrongIn (G : GT) (l : Launch) {d : Nat} (hd : 5 ≤ d) {O : Type} : HCL G l (true, true) d (cl_X10_wrongIn (O := O)) := (hclc (ca_X11_oneIf G l (d := 1) (Nat.le_refl _)) (fun _ => rfl) (fun _ => rfl) (by omega) (hclc (ca_X10_isAmong G l (d := 4) (Nat.le_refl _)) (fun _ => rfl) (fun _ => rfl) (by omega) hcl0))
theorem rt_X10_wrongIn : retOK (0, 0) (some .int) := ⟨fun _ => rfl, fun h => absurd h (by decide), fun h => absurd h (by decide)⟩
set_option maxRecDepth 20000 in
theorem b_X10_wrongIn_56 {G : GT} {l : Launch} {d : Nat} {L0 : Lay} {σ0 : Sto} (hd : 5 ≤ d) {c6 : Lay → Sto → Nat → Int64 → Int32 → Int32 → Int32 → Option Int32} (h6 : HF G l 10 "wrongIn" cX10_wrongIn 7 (some .int) d L0 σ0 (true, true) (dcPI L0 σ0) 6 (A_X10_wrongIn_6 c6)) : HF G l 10 "wrongIn" cX10_wrongIn 7 (some .int) d L0 σ0 (true, true) (dcPI L0 σ0) 56 (A_X10_wrongIn_56 (f_X10_wrongIn_56 c6)) := by
  intro lc st L σ o h hI
  unfold A_X10_wrongIn_56 at h
  split at h
  · obtain ⟨hq0, hA1⟩ := bif_s h
    obtain ⟨e0, hq1⟩ := beq_and hq0
    subst e0
    exact exs (sp := [6]) (K := (kc 6 (A_X10_wrongIn_6 c6) k0)) ok_X10_wrongIn rt_X10_wrongIn (by omega) (hc_X10_wrongIn G l hd) (hrPI rfl rfl) (hkc h6 hk0) 42 hA1 hI
  · cases h
set_option maxRecDepth 20000 in
theorem b_X10_wrongIn_31 {G : GT} {l : Launch} {d : Nat} {L0 : Lay} {σ0 : Sto} (hd : 5 ≤ d) {c6 : Lay → Sto → Nat → Int64 → Int32 → Int32 → Int32 → Option Int32} (h6 : HF G l 10 "wrongIn" cX10_wrongIn 7 (some .int) d L0 σ0 (true, true) (dcPI L0 σ0) 6 (A_X10_wrongIn_6 c6)) : HF G l 10 "wrongIn" cX10_wrongIn 7 (some .int) d L0 σ0 (true, true) (dcPI L0 σ0) 31 (A_X10_wrongIn_31 (f_X10_wrongIn_31 c6)) := by
  intro lc st L σ o h hI
  unfold A_X10_wrongIn_31 at h
  split at h
  · obtain ⟨hq0, hA1⟩ := bif_s h
    obtain ⟨e0, hq1⟩ := beq_and hq0
    subst e0
    exact exs (sp := [56]) (K := (kc 56 (A_X10_wrongIn_56 (f_X10_wrongIn_56 c6)) k0)) ok_X10_wrongIn rt_X10_wrongIn (by omega) (hc_X10_wrongIn G l hd) (hrPI rfl rfl) (hkc (b_X10_wrongIn_56 hd h6) hk0) 42 hA1 hI
  · cases h
set_option maxRecDepth 20000 in
theorem b_X10_wrongIn_6 {G : GT} {l : Launch} {d : Nat} {L0 : Lay} {σ0 : Sto} (hd : 5 ≤ d) : ∀ k : Nat, HF G l 10 "wrongIn" cX10_wrongIn 7 (some .int) d L0 σ0 (true, true) (dcPI L0 σ0) 6 (A_X10_wrongIn_6 (f_X10_wrongIn_6 k))
  | 0 => by
    intro lc st L σ o h hI
    unfold A_X10_wrongIn_6 at h
    split at h
    · obtain ⟨_, hA1⟩ := bif_s h
      cases hA1
    · cases h
  | k + 1 => by
    have ih := b_X10_wrongIn_6 (G := G) (l := l) (d := d) (L0 := L0) (σ0 := σ0) hd k
    intro lc st L σ o h hI
    unfold A_X10_wrongIn_6 at h
    split at h
    · obtain ⟨hq0, hA1⟩ := bif_s h
      obtain ⟨e0, hq1⟩ := beq_and hq0
      subst e0
      exact exs (sp := [31]) (K := (kc 31 (A_X10_wrongIn_31 (f_X10_wrongIn_31 (f_X10_wrongIn_6 k))) k0)) ok_X10_wrongIn rt_X10_wrongIn (by omega) (hc_X10_wrongIn G l hd) (hrPI rfl rfl) (hkc (b_X10_wrongIn_31 hd ih) hk0) 42 hA1 hI
    · cases h
set_option maxRecDepth 20000 in
theorem ca_X10_wrongIn (G : GT) (l : Launch) {d : Nat} (hd : 5 ≤ d) : CA G l 58 (true, true) d ad_X10_wrongIn := by
  intro O L σ as k o h hW hok
  unfold ad_X10_wrongIn at h
  split at h
  · obtain ⟨hq0, hA0⟩ := bif_s h
    obtain ⟨e0, hq1⟩ := beq_and hq0
    subst e0
    obtain ⟨r, hr, hk⟩ := Option.bind_eq_some_iff.mp hA0
    exact ca_of (q := (dcPI L σ) r) (by decide) rfl (Nat.le_of_ble_eq_true rfl) hk (fun _ => rfl) (fun _ => rfl) (exs (sp := [6]) (K := (kc 6 (A_X10_wrongIn_6 (f_X10_wrongIn_6 FU)) k0)) (L0 := L) (σ0 := σ) ok_X10_wrongIn rt_X10_wrongIn (by omega) (hc_X10_wrongIn G l hd) (hrPI rfl rfl) (hkc (b_X10_wrongIn_6 hd FU) hk0) 42 hr (inv0 hW hok))
  · cases h
def tt_X11_ballotAt (pc : Nat) : TI := bif Nat.blt pc 11 then (bif Nat.blt pc 3 then (bif Nat.blt pc 1 then (bif Nat.beq pc 0 then (.iload_n 1, 1, (1, 0, 0), 0, 0, []) else TN) else (bif Nat.blt pc 2 then (bif Nat.beq pc 1 then (.iconst 0, 2, (0, 0, 0), 0, 0, []) else TN) else (bif Nat.beq pc 2 then (.aload_n 0, 3, (0, 0, 0), 0, 0, []) else TN))) else (bif Nat.blt pc 7 then (bif Nat.blt pc 6 then (bif Nat.beq pc 3 then (.getfield 212, 6, (11, 3, 0), 0, 0, []) else TN) else (bif Nat.beq pc 6 then (.iconst 1, 7, (0, 0, 0), 1, 0, []) else TN)) else (bif Nat.blt pc 8 then (bif Nat.beq pc 7 then (.isub, 8, (0, 0, 0), 0, 0, []) else TN) else (bif Nat.beq pc 8 then (.invokestatic 115, 11, (83, 3, 0), 0, 0, []) else TN)))) else (bif Nat.blt pc 19 then (bif Nat.blt pc 15 then (bif Nat.blt pc 14 then (bif Nat.beq pc 11 then (.ifCond .eq 12, 14, (23, 0, 0), 0, 0, []) else TN) else (bif Nat.beq pc 14 then (.aload_n 0, 15, (0, 0, 0), 0, 0, []) else TN)) else (bif Nat.blt pc 18 then (bif Nat.beq pc 15 then (.getfield 27, 18, (11, 2, 0), 0, 0, []) else TN) else (bif Nat.beq pc 18 then (.iload_n 1, 19, (1, 0, 0), 0, 0, []) else TN))) else (bif Nat.blt pc 23 then (bif Nat.blt pc 20 then (bif Nat.beq pc 19 then (.aaload, 20, (0, 0, 0), 0, 0, []) else TN) else (bif Nat.beq pc 20 then (.goto 4, 23, (24, 0, 0), 0, 0, []) else TN)) else (bif Nat.blt pc 24 then (bif Nat.beq pc 23 then (.aconst_null, 24, (0, 0, 0), 0, 0, []) else TN) else (bif Nat.beq pc 24 then (.areturn, 25, (0, 0, 0), 0, 0, []) else TN))))
def tb_X11_ballotAt (pc : Nat) : TI := bif Nat.ble 25 pc then TN else tt_X11_ballotAt pc
theorem ok_X11_ballotAt : tOK 11 (decide ("ballotAt" = "<init>")) cX11_ballotAt tb_X11_ballotAt := tOK_of 25 tn_of (by decide +kernel)
def f_X11_ballotAt (L : Lay) (σ : Sto) (a0 : Nat) (a1 : Int32) : Option (Option Nat) := (f_X11_isWithin L σ a1 0 ((σ.1 a0 3) - 1)).bind fun r1 => (if r1 = 0 then some none else (σ.2.1 a0 2).bind fun x2 => (rR L σ x2 a1).bind fun o3 => some o3)
def ad_X11_ballotAt : ADT := fun O L σ as k => match as with
  | [.inr (.inr (.inl (ta0, some a0))), .inl a1] => bif Nat.beq ta0 11 && true then (f_X11_ballotAt L σ a0 a1).bind fun r => k (some (vR 0 r)) L σ else none
  | _ => none
abbrev cl_X11_ballotAt {O : Type} : CLT O := (clc 83 ad_X11_isWithin cl0)
theorem hc_X11_ballotAt (G : GT) (l : Launch) {d : Nat} (hd : 2 ≤ d) {O : Type} : HCL G l (true, true) d (cl_X11_ballotAt (O := O)) := (hclc (ca_X11_isWithin G l (d := 1) (Nat.le_refl _)) (fun _ => rfl) (fun _ => rfl) (by omega) hcl0)
theorem rt_X11_ballotAt : retOK (5, 0) (some (.object "StrikeBallots$Ballot")) := ⟨fun h => absurd h (by decide), fun _ => ⟨_, rfl⟩, fun h => absurd h (by decide)⟩
set_option maxRecDepth 20000 in
theorem ca_X11_ballotAt (G : GT) (l : Launch) {d : Nat} (hd : 2 ≤ d) : CA G l 61 (true, true) d ad_X11_ballotAt := by
  intro O L σ as k o h hW hok
  unfold ad_X11_ballotAt at h
  split at h
  · obtain ⟨hq0, hA0⟩ := bif_s h
    obtain ⟨e0, hq1⟩ := beq_and hq0
    subst e0
    obtain ⟨r, hr, hk⟩ := Option.bind_eq_some_iff.mp hA0
    exact ca_of (q := (dcPR 0 L σ) r) (by decide) rfl (Nat.le_of_ble_eq_true rfl) hk (fun _ => rfl) (fun _ => rfl) (exs (sp := []) (K := k0) (L0 := L) (σ0 := σ) ok_X11_ballotAt rt_X11_ballotAt (by omega) (hc_X11_ballotAt G l hd) (hrPR rfl rfl) hk0 18 hr (inv0 hW hok))
  · cases h
def tt_X11_dayOrNone (pc : Nat) : TI := bif Nat.blt pc 7 then (bif Nat.blt pc 1 then (bif Nat.beq pc 0 then (.iload_n 0, 1, (0, 0, 0), 0, 0, []) else TN) else (bif Nat.blt pc 4 then (bif Nat.beq pc 1 then (.sipush 401, 4, (0, 0, 0), 401, 0, []) else TN) else (bif Nat.beq pc 4 then (.if_icmp .ne 9, 7, (13, 0, 0), 0, 0, []) else TN))) else (bif Nat.blt pc 13 then (bif Nat.blt pc 10 then (bif Nat.beq pc 7 then (.ldc_w 283, 10, (0, 0, 0), -1000000005, 0, []) else TN) else (bif Nat.beq pc 10 then (.goto 4, 13, (14, 0, 0), 0, 0, []) else TN)) else (bif Nat.blt pc 14 then (bif Nat.beq pc 13 then (.iload_n 0, 14, (0, 0, 0), 0, 0, []) else TN) else (bif Nat.beq pc 14 then (.ireturn, 15, (0, 0, 0), 0, 0, []) else TN)))
def tb_X11_dayOrNone (pc : Nat) : TI := bif Nat.ble 15 pc then TN else tt_X11_dayOrNone pc
theorem ok_X11_dayOrNone : tOK 11 (decide ("dayOrNone" = "<init>")) cX11_dayOrNone tb_X11_dayOrNone := tOK_of 15 tn_of (by decide +kernel)
def f_X11_dayOrNone (L : Lay) (σ : Sto) (a0 : Int32) : Option Int32 := (if a0 = 401 then some (-1000000005) else some a0)
def ad_X11_dayOrNone : ADT := fun O L σ as k => match as with
  | [.inl a0] => (f_X11_dayOrNone L σ a0).bind fun r => k (some (vI r)) L σ
  | _ => none
abbrev cl_X11_dayOrNone {O : Type} : CLT O := cl0
theorem hc_X11_dayOrNone (G : GT) (l : Launch) {d : Nat} (hd : 1 ≤ d) {O : Type} : HCL G l (true, true) d (cl_X11_dayOrNone (O := O)) := hcl0
theorem rt_X11_dayOrNone : retOK (0, 0) (some .int) := ⟨fun _ => rfl, fun h => absurd h (by decide), fun h => absurd h (by decide)⟩
set_option maxRecDepth 20000 in
theorem ca_X11_dayOrNone (G : GT) (l : Launch) {d : Nat} (hd : 1 ≤ d) : CA G l 69 (true, true) d ad_X11_dayOrNone := by
  intro O L σ as k o h hW hok
  unfold ad_X11_dayOrNone at h
  split at h
  · have hA0 := h
    obtain ⟨r, hr, hk⟩ := Option.bind_eq_some_iff.mp hA0
    exact ca_of (q := (dcPI L σ) r) (by decide) rfl (Nat.le_of_ble_eq_true rfl) hk (fun _ => rfl) (fun _ => rfl) (exs (sp := []) (K := k0) (L0 := L) (σ0 := σ) ok_X11_dayOrNone rt_X11_dayOrNone (by omega) (hc_X11_dayOrNone G l hd) (hrPI rfl rfl) hk0 10 hr (inv0 hW hok))
  · cases h
def tt_X11_about (pc : Nat) : TI := bif Nat.blt pc 41 then (bif Nat.blt pc 7 then (bif Nat.blt pc 2 then (bif Nat.blt pc 1 then (bif Nat.beq pc 0 then (.aload_n 0, 1, (0, 0, 0), 0, 0, []) else TN) else (bif Nat.beq pc 1 then (.iload_n 1, 2, (1, 0, 0), 0, 0, []) else TN)) else (bif Nat.blt pc 5 then (bif Nat.beq pc 2 then (.invokevirtual 218, 5, (61, 1, 11), 0, 0, []) else TN) else (bif Nat.blt pc 6 then (bif Nat.beq pc 5 then (.astore_n 3, 6, (3, 0, 0), 0, 0, []) else TN) else (bif Nat.beq pc 6 then (.aload_n 3, 7, (3, 0, 0), 0, 0, []) else TN)))) else (bif Nat.blt pc 13 then (bif Nat.blt pc 10 then (bif Nat.beq pc 7 then (.ifnonnull 6, 10, (13, 0, 0), 0, 0, []) else TN) else (bif Nat.blt pc 12 then (bif Nat.beq pc 10 then (.ldc 91, 12, (0, 0, 0), -1000000001, 0, []) else TN) else (bif Nat.beq pc 12 then (.ireturn, 13, (0, 0, 0), 0, 0, []) else TN))) else (bif Nat.blt pc 14 then (bif Nat.beq pc 13 then (.iload_n 2, 14, (2, 0, 0), 0, 0, []) else TN) else (bif Nat.blt pc 40 then (bif Nat.beq pc 14 then (.tableswitch 44 0 2 #[26, 31, 36], 40, (58, 0, 0), 0, 0, [(0, 40), (1, 45), (2, 50)]) else TN) else (bif Nat.beq pc 40 then (.aload_n 3, 41, (3, 0, 0), 0, 0, []) else TN))))) else (bif Nat.blt pc 50 then (bif Nat.blt pc 45 then (bif Nat.blt pc 44 then (bif Nat.beq pc 41 then (.getfield 267, 44, (0, 1, 1), 0, 0, []) else TN) else (bif Nat.beq pc 44 then (.ireturn, 45, (0, 0, 0), 0, 0, []) else TN)) else (bif Nat.blt pc 46 then (bif Nat.beq pc 45 then (.aload_n 3, 46, (3, 0, 0), 0, 0, []) else TN) else (bif Nat.blt pc 49 then (bif Nat.beq pc 46 then (.getfield 270, 49, (0, 2, 1), 0, 0, []) else TN) else (bif Nat.beq pc 49 then (.ireturn, 50, (0, 0, 0), 0, 0, []) else TN)))) else (bif Nat.blt pc 57 then (bif Nat.blt pc 51 then (bif Nat.beq pc 50 then (.aload_n 3, 51, (3, 0, 0), 0, 0, []) else TN) else (bif Nat.blt pc 54 then (bif Nat.beq pc 51 then (.getfield 245, 54, (0, 3, 1), 0, 0, []) else TN) else (bif Nat.beq pc 54 then (.invokestatic 168, 57, (69, 1, 0), 0, 0, []) else TN))) else (bif Nat.blt pc 58 then (bif Nat.beq pc 57 then (.ireturn, 58, (0, 0, 0), 0, 0, []) else TN) else (bif Nat.blt pc 60 then (bif Nat.beq pc 58 then (.ldc 91, 60, (0, 0, 0), -1000000001, 0, []) else TN) else (bif Nat.beq pc 60 then (.ireturn, 61, (0, 0, 0), 0, 0, []) else TN)))))
def tb_X11_about (pc : Nat) : TI := bif Nat.ble 61 pc then TN else tt_X11_about pc
theorem ok_X11_about : tOK 11 (decide ("about" = "<init>")) cX11_about tb_X11_about := tOK_of 61 tn_of (by decide +kernel)
def f_X11_about (L : Lay) (σ : Sto) (a0 : Nat) (a1 : Int32) (a2 : Int32) : Option Int32 := (f_X11_ballotAt L σ a0 a1).bind fun o1 => (Option.elim o1 (some (-1000000001)) (fun _ => (if a2 = 0 then o1.bind fun x5 => some (σ.1 x5 1) else (if a2 = 1 then o1.bind fun x4 => some (σ.1 x4 2) else (if a2 = 2 then o1.bind fun x2 => (f_X11_dayOrNone L σ (σ.1 x2 3)).bind fun r3 => some r3 else some (-1000000001))))))
def ad_X11_about : ADT := fun O L σ as k => match as with
  | [.inr (.inr (.inl (ta0, some a0))), .inl a1, .inl a2] => bif Nat.beq ta0 11 && true then (f_X11_about L σ a0 a1 a2).bind fun r => k (some (vI r)) L σ else none
  | _ => none
abbrev cl_X11_about {O : Type} : CLT O := (clc 61 ad_X11_ballotAt (clc 69 ad_X11_dayOrNone cl0))
theorem hc_X11_about (G : GT) (l : Launch) {d : Nat} (hd : 3 ≤ d) {O : Type} : HCL G l (true, true) d (cl_X11_about (O := O)) := (hclc (ca_X11_ballotAt G l (d := 2) (Nat.le_refl _)) (fun _ => rfl) (fun _ => rfl) (by omega) (hclc (ca_X11_dayOrNone G l (d := 1) (Nat.le_refl _)) (fun _ => rfl) (fun _ => rfl) (by omega) hcl0))
theorem rt_X11_about : retOK (0, 0) (some .int) := ⟨fun _ => rfl, fun h => absurd h (by decide), fun h => absurd h (by decide)⟩
set_option maxRecDepth 20000 in
theorem ca_X11_about (G : GT) (l : Launch) {d : Nat} (hd : 3 ≤ d) : CA G l 59 (true, true) d ad_X11_about := by
  intro O L σ as k o h hW hok
  unfold ad_X11_about at h
  split at h
  · obtain ⟨hq0, hA0⟩ := bif_s h
    obtain ⟨e0, hq1⟩ := beq_and hq0
    subst e0
    obtain ⟨r, hr, hk⟩ := Option.bind_eq_some_iff.mp hA0
    exact ca_of (q := (dcPI L σ) r) (by decide) rfl (Nat.le_of_ble_eq_true rfl) hk (fun _ => rfl) (fun _ => rfl) (exs (sp := []) (K := k0) (L0 := L) (σ0 := σ) ok_X11_about rt_X11_about (by omega) (hc_X11_about G l hd) (hrPI rfl rfl) hk0 25 hr (inv0 hW hok))
  · cases h
def tt_X11_back (pc : Nat) : TI := bif Nat.blt pc 35 then (bif Nat.blt pc 17 then (bif Nat.blt pc 7 then (bif Nat.blt pc 2 then (bif Nat.blt pc 1 then (bif Nat.beq pc 0 then (.aload_n 0, 1, (0, 0, 0), 0, 0, []) else TN) else (bif Nat.beq pc 1 then (.iload_n 1, 2, (1, 0, 0), 0, 0, []) else TN)) else (bif Nat.blt pc 5 then (bif Nat.beq pc 2 then (.invokevirtual 218, 5, (61, 1, 11), 0, 0, []) else TN) else (bif Nat.beq pc 5 then (.astore 4, 7, (4, 0, 0), 0, 0, []) else TN))) else (bif Nat.blt pc 12 then (bif Nat.blt pc 9 then (bif Nat.beq pc 7 then (.aload 4, 9, (4, 0, 0), 0, 0, []) else TN) else (bif Nat.beq pc 9 then (.ifnull 23, 12, (32, 0, 0), 0, 0, []) else TN)) else (bif Nat.blt pc 13 then (bif Nat.beq pc 12 then (.aload_n 0, 13, (0, 0, 0), 0, 0, []) else TN) else (bif Nat.blt pc 16 then (bif Nat.beq pc 13 then (.getfield 12, 16, (11, 0, 0), 0, 0, []) else TN) else (bif Nat.beq pc 16 then (.iload_n 2, 17, (2, 0, 0), 0, 0, []) else TN))))) else (bif Nat.blt pc 25 then (bif Nat.blt pc 23 then (bif Nat.blt pc 20 then (bif Nat.beq pc 17 then (.invokevirtual 134, 20, (53, 1, 10), 0, 0, []) else TN) else (bif Nat.beq pc 20 then (.ifnull 12, 23, (32, 0, 0), 0, 0, []) else TN)) else (bif Nat.blt pc 24 then (bif Nat.beq pc 23 then (.iload_n 3, 24, (3, 0, 0), 0, 0, []) else TN) else (bif Nat.beq pc 24 then (.iconst 0, 25, (0, 0, 0), 0, 0, []) else TN))) else (bif Nat.blt pc 29 then (bif Nat.blt pc 26 then (bif Nat.beq pc 25 then (.iconst 3, 26, (0, 0, 0), 3, 0, []) else TN) else (bif Nat.beq pc 26 then (.invokestatic 115, 29, (83, 3, 0), 0, 0, []) else TN)) else (bif Nat.blt pc 32 then (bif Nat.beq pc 29 then (.ifCond .ne 6, 32, (35, 0, 0), 0, 0, []) else TN) else (bif Nat.blt pc 34 then (bif Nat.beq pc 32 then (.ldc 91, 34, (0, 0, 0), -1000000001, 0, []) else TN) else (bif Nat.beq pc 34 then (.ireturn, 35, (0, 0, 0), 0, 0, []) else TN)))))) else (bif Nat.blt pc 55 then (bif Nat.blt pc 45 then (bif Nat.blt pc 40 then (bif Nat.blt pc 37 then (bif Nat.beq pc 35 then (.aload 4, 37, (4, 0, 0), 0, 0, []) else TN) else (bif Nat.beq pc 37 then (.invokevirtual 222, 40, (34, 0, 0), 0, 0, []) else TN)) else (bif Nat.blt pc 43 then (bif Nat.beq pc 40 then (.ifCond .ne 21, 43, (61, 0, 0), 0, 0, []) else TN) else (bif Nat.beq pc 43 then (.aload 4, 45, (4, 0, 0), 0, 0, []) else TN))) else (bif Nat.blt pc 49 then (bif Nat.blt pc 46 then (bif Nat.beq pc 45 then (.iload_n 2, 46, (2, 0, 0), 0, 0, []) else TN) else (bif Nat.beq pc 46 then (.invokevirtual 225, 49, (36, 1, 0), 0, 0, []) else TN)) else (bif Nat.blt pc 52 then (bif Nat.beq pc 49 then (.ifCond .eq 12, 52, (61, 0, 0), 0, 0, []) else TN) else (bif Nat.blt pc 54 then (bif Nat.beq pc 52 then (.aload 4, 54, (4, 0, 0), 0, 0, []) else TN) else (bif Nat.beq pc 54 then (.iload_n 2, 55, (2, 0, 0), 0, 0, []) else TN))))) else (bif Nat.blt pc 66 then (bif Nat.blt pc 61 then (bif Nat.blt pc 58 then (bif Nat.beq pc 55 then (.invokevirtual 238, 58, (35, 1, 0), 0, 0, []) else TN) else (bif Nat.beq pc 58 then (.ifCond .eq 6, 61, (64, 0, 0), 0, 0, []) else TN)) else (bif Nat.blt pc 63 then (bif Nat.beq pc 61 then (.ldc 146, 63, (0, 0, 0), -1000000002, 0, []) else TN) else (bif Nat.blt pc 64 then (bif Nat.beq pc 63 then (.ireturn, 64, (0, 0, 0), 0, 0, []) else TN) else (bif Nat.beq pc 64 then (.aload 4, 66, (4, 0, 0), 0, 0, []) else TN)))) else (bif Nat.blt pc 68 then (bif Nat.blt pc 67 then (bif Nat.beq pc 66 then (.iload_n 2, 67, (2, 0, 0), 0, 0, []) else TN) else (bif Nat.beq pc 67 then (.iload_n 3, 68, (3, 0, 0), 0, 0, []) else TN)) else (bif Nat.blt pc 71 then (bif Nat.beq pc 68 then (.invokevirtual 241, 71, (37, 2, 0), 0, 0, []) else TN) else (bif Nat.blt pc 72 then (bif Nat.beq pc 71 then (.iconst 1, 72, (0, 0, 0), 1, 0, []) else TN) else (bif Nat.beq pc 72 then (.ireturn, 73, (0, 0, 0), 0, 0, []) else TN))))))
def tb_X11_back (pc : Nat) : TI := bif Nat.ble 73 pc then TN else tt_X11_back pc
theorem ok_X11_back : tOK 11 (decide ("back" = "<init>")) cX11_back tb_X11_back := tOK_of 73 tn_of (by decide +kernel)
def f_X11_back (L : Lay) (σ : Sto) (a0 : Nat) (a1 : Int32) (a2 : Int32) (a3 : Int32) : Option (Int32 × Sto) := (f_X11_ballotAt L σ a0 a1).bind fun o1 => (Option.elim o1 (some ((-1000000001), σ)) (fun _ => (σ.2.1 a0 0).bind fun x2 => (f_X10_memberAt L σ x2 a2).bind fun o3 => (Option.elim o3 (some ((-1000000001), σ)) (fun _ => (f_X11_isWithin L σ a3 0 3).bind fun r4 => (if r4 = 0 then some ((-1000000001), σ) else o1.bind fun x5 => (f_X0_hasClosed L σ x5).bind fun r6 => (if r6 = 0 then o1.bind fun x7 => (f_X0_hasSent L σ x7 a2).bind fun r8 => (if r8 = 0 then some ((-1000000002), σ) else o1.bind fun x9 => (f_X0_hasHeard L σ x9 a2).bind fun r10 => (if r10 = 0 then o1.bind fun x11 => (f_X0_hear L σ x11 a2 a3).bind fun σ12 => some (1, σ12) else some ((-1000000002), σ))) else some ((-1000000002), σ)))))))
def ad_X11_back : ADT := fun O L σ as k => match as with
  | [.inr (.inr (.inl (ta0, some a0))), .inl a1, .inl a2, .inl a3] => bif Nat.beq ta0 11 && true then (f_X11_back L σ a0 a1 a2 a3).bind fun r => k (some (vI r.1)) L r.2 else none
  | _ => none
abbrev cl_X11_back {O : Type} : CLT O := (clc 61 ad_X11_ballotAt (clc 53 ad_X10_memberAt (clc 83 ad_X11_isWithin (clc 34 ad_X0_hasClosed (clc 36 ad_X0_hasSent (clc 35 ad_X0_hasHeard (clc 37 ad_X0_hear cl0)))))))
theorem hc_X11_back (G : GT) (l : Launch) {d : Nat} (hd : 3 ≤ d) {O : Type} : HCL G l (true, false) d (cl_X11_back (O := O)) := (hclc (ca_X11_ballotAt G l (d := 2) (Nat.le_refl _)) (fun _ => rfl) (fun e => by cases e) (by omega) (hclc (ca_X10_memberAt G l (d := 2) (Nat.le_refl _)) (fun _ => rfl) (fun e => by cases e) (by omega) (hclc (ca_X11_isWithin G l (d := 1) (Nat.le_refl _)) (fun _ => rfl) (fun e => by cases e) (by omega) (hclc (ca_X0_hasClosed G l (d := 1) (Nat.le_refl _)) (fun _ => rfl) (fun e => by cases e) (by omega) (hclc (ca_X0_hasSent G l (d := 2) (Nat.le_refl _)) (fun _ => rfl) (fun e => by cases e) (by omega) (hclc (ca_X0_hasHeard G l (d := 2) (Nat.le_refl _)) (fun _ => rfl) (fun e => by cases e) (by omega) (hclc (ca_X0_hear G l (d := 2) (Nat.le_refl _)) (fun _ => rfl) (fun e => by cases e) (by omega) hcl0)))))))
theorem rt_X11_back : retOK (0, 0) (some .int) := ⟨fun _ => rfl, fun h => absurd h (by decide), fun h => absurd h (by decide)⟩
set_option maxRecDepth 20000 in
theorem ca_X11_back (G : GT) (l : Launch) {d : Nat} (hd : 3 ≤ d) : CA G l 60 (true, false) d ad_X11_back := by
  intro O L σ as k o h hW hok
  unfold ad_X11_back at h
  split at h
  · obtain ⟨hq0, hA0⟩ := bif_s h
    obtain ⟨e0, hq1⟩ := beq_and hq0
    subst e0
    obtain ⟨r, hr, hk⟩ := Option.bind_eq_some_iff.mp hA0
    exact ca_of (q := (dcI L) r) (by decide) rfl (Nat.le_of_ble_eq_true rfl) hk (fun _ => rfl) (fun e => by cases e) (exs (sp := []) (K := k0) (L0 := L) (σ0 := σ) ok_X11_back rt_X11_back (by omega) (hc_X11_back G l hd) (hrI rfl) hk0 40 hr (inv0 hW hok))
  · cases h
def tt_X11_branch (pc : Nat) : TI := bif Nat.blt pc 17 then (bif Nat.blt pc 9 then (bif Nat.blt pc 4 then (bif Nat.blt pc 1 then (bif Nat.beq pc 0 then (.iload_n 1, 1, (1, 0, 0), 0, 0, []) else TN) else (bif Nat.beq pc 1 then (.invokestatic 87, 4, (52, 1, 0), 0, 0, []) else TN)) else (bif Nat.blt pc 7 then (bif Nat.beq pc 4 then (.ifCond .ne 6, 7, (10, 0, 0), 0, 0, []) else TN) else (bif Nat.beq pc 7 then (.ldc 91, 9, (0, 0, 0), -1000000001, 0, []) else TN))) else (bif Nat.blt pc 11 then (bif Nat.blt pc 10 then (bif Nat.beq pc 9 then (.ireturn, 10, (0, 0, 0), 0, 0, []) else TN) else (bif Nat.beq pc 10 then (.aload_n 0, 11, (0, 0, 0), 0, 0, []) else TN)) else (bif Nat.blt pc 14 then (bif Nat.beq pc 11 then (.getfield 12, 14, (11, 0, 0), 0, 0, []) else TN) else (bif Nat.beq pc 14 then (.getfield 92, 17, (10, 1, 1), 0, 0, []) else TN)))) else (bif Nat.blt pc 27 then (bif Nat.blt pc 22 then (bif Nat.blt pc 19 then (bif Nat.beq pc 17 then (.bipush 6, 19, (0, 0, 0), 6, 0, []) else TN) else (bif Nat.beq pc 19 then (.if_icmp .lt 8, 22, (27, 0, 0), 0, 0, []) else TN)) else (bif Nat.blt pc 24 then (bif Nat.beq pc 22 then (.ldc 96, 24, (0, 0, 0), -1000000003, 0, []) else TN) else (bif Nat.beq pc 24 then (.goto 11, 27, (35, 0, 0), 0, 0, []) else TN))) else (bif Nat.blt pc 31 then (bif Nat.blt pc 28 then (bif Nat.beq pc 27 then (.aload_n 0, 28, (0, 0, 0), 0, 0, []) else TN) else (bif Nat.beq pc 28 then (.getfield 12, 31, (11, 0, 0), 0, 0, []) else TN)) else (bif Nat.blt pc 32 then (bif Nat.beq pc 31 then (.iload_n 1, 32, (1, 0, 0), 0, 0, []) else TN) else (bif Nat.blt pc 35 then (bif Nat.beq pc 32 then (.invokevirtual 97, 35, (44, 1, 10), 0, 0, []) else TN) else (bif Nat.beq pc 35 then (.ireturn, 36, (0, 0, 0), 0, 0, []) else TN)))))
def tb_X11_branch (pc : Nat) : TI := bif Nat.ble 36 pc then TN else tt_X11_branch pc
theorem ok_X11_branch : tOK 11 (decide ("branch" = "<init>")) cX11_branch tb_X11_branch := tOK_of 36 tn_of (by decide +kernel)
def f_X11_branch (L : Lay) (σ : Sto) (a0 : Nat) (a1 : Int32) : Option (Int32 × Sto) := (f_X10_isKind L σ a1).bind fun r1 => (if r1 = 0 then some ((-1000000001), σ) else (σ.2.1 a0 0).bind fun x2 => (if (σ.1 x2 1) < 6 then (σ.2.1 a0 0).bind fun x3 => (f_X10_addBranch L σ x3 a1).bind fun r4 => some (r4.1, r4.2) else some ((-1000000003), σ)))
def ad_X11_branch : ADT := fun O L σ as k => match as with
  | [.inr (.inr (.inl (ta0, some a0))), .inl a1] => bif Nat.beq ta0 11 && true then (f_X11_branch L σ a0 a1).bind fun r => k (some (vI r.1)) L r.2 else none
  | _ => none
abbrev cl_X11_branch {O : Type} : CLT O := (clc 52 ad_X10_isKind (clc 44 ad_X10_addBranch cl0))
theorem hc_X11_branch (G : GT) (l : Launch) {d : Nat} (hd : 3 ≤ d) {O : Type} : HCL G l (true, false) d (cl_X11_branch (O := O)) := (hclc (ca_X10_isKind G l (d := 2) (Nat.le_refl _)) (fun _ => rfl) (fun e => by cases e) (by omega) (hclc (ca_X10_addBranch G l (d := 1) (Nat.le_refl _)) (fun _ => rfl) (fun e => by cases e) (by omega) hcl0))
theorem rt_X11_branch : retOK (0, 0) (some .int) := ⟨fun _ => rfl, fun h => absurd h (by decide), fun h => absurd h (by decide)⟩
set_option maxRecDepth 20000 in
theorem ca_X11_branch (G : GT) (l : Launch) {d : Nat} (hd : 3 ≤ d) : CA G l 62 (true, false) d ad_X11_branch := by
  intro O L σ as k o h hW hok
  unfold ad_X11_branch at h
  split at h
  · obtain ⟨hq0, hA0⟩ := bif_s h
    obtain ⟨e0, hq1⟩ := beq_and hq0
    subst e0
    obtain ⟨r, hr, hk⟩ := Option.bind_eq_some_iff.mp hA0
    exact ca_of (q := (dcI L) r) (by decide) rfl (Nat.le_of_ble_eq_true rfl) hk (fun _ => rfl) (fun e => by cases e) (exs (sp := []) (K := k0) (L0 := L) (σ0 := σ) ok_X11_branch rt_X11_branch (by omega) (hc_X11_branch G l hd) (hrI rfl) hk0 20 hr (inv0 hW hok))
  · cases h
def tt_J6_bitCount_0f7a4 (pc : Nat) : TI := bif Nat.blt pc 27 then (bif Nat.blt pc 14 then (bif Nat.blt pc 7 then (bif Nat.blt pc 2 then (bif Nat.blt pc 1 then (bif Nat.beq pc 0 then (.iload_n 0, 1, (0, 0, 0), 0, 0, []) else TN) else (bif Nat.beq pc 1 then (.iload_n 0, 2, (0, 0, 0), 0, 0, []) else TN)) else (bif Nat.blt pc 3 then (bif Nat.beq pc 2 then (.iconst 1, 3, (0, 0, 0), 1, 0, []) else TN) else (bif Nat.blt pc 4 then (bif Nat.beq pc 3 then (.iushr, 4, (0, 0, 0), 0, 0, []) else TN) else (bif Nat.beq pc 4 then (.ldc_w 265, 7, (0, 0, 0), 1431655765, 0, []) else TN)))) else (bif Nat.blt pc 9 then (bif Nat.blt pc 8 then (bif Nat.beq pc 7 then (.iand, 8, (0, 0, 0), 0, 0, []) else TN) else (bif Nat.beq pc 8 then (.isub, 9, (0, 0, 0), 0, 0, []) else TN)) else (bif Nat.blt pc 10 then (bif Nat.beq pc 9 then (.istore_n 0, 10, (0, 0, 0), 0, 0, []) else TN) else (bif Nat.blt pc 11 then (bif Nat.beq pc 10 then (.iload_n 0, 11, (0, 0, 0), 0, 0, []) else TN) else (bif Nat.beq pc 11 then (.ldc_w 266, 14, (0, 0, 0), 858993459, 0, []) else TN))))) else (bif Nat.blt pc 21 then (bif Nat.blt pc 16 then (bif Nat.blt pc 15 then (bif Nat.beq pc 14 then (.iand, 15, (0, 0, 0), 0, 0, []) else TN) else (bif Nat.beq pc 15 then (.iload_n 0, 16, (0, 0, 0), 0, 0, []) else TN)) else (bif Nat.blt pc 17 then (bif Nat.beq pc 16 then (.iconst 2, 17, (0, 0, 0), 2, 0, []) else TN) else (bif Nat.blt pc 18 then (bif Nat.beq pc 17 then (.iushr, 18, (0, 0, 0), 0, 0, []) else TN) else (bif Nat.beq pc 18 then (.ldc_w 266, 21, (0, 0, 0), 858993459, 0, []) else TN)))) else (bif Nat.blt pc 24 then (bif Nat.blt pc 22 then (bif Nat.beq pc 21 then (.iand, 22, (0, 0, 0), 0, 0, []) else TN) else (bif Nat.blt pc 23 then (bif Nat.beq pc 22 then (.iadd, 23, (0, 0, 0), 0, 0, []) else TN) else (bif Nat.beq pc 23 then (.istore_n 0, 24, (0, 0, 0), 0, 0, []) else TN))) else (bif Nat.blt pc 25 then (bif Nat.beq pc 24 then (.iload_n 0, 25, (0, 0, 0), 0, 0, []) else TN) else (bif Nat.blt pc 26 then (bif Nat.beq pc 25 then (.iload_n 0, 26, (0, 0, 0), 0, 0, []) else TN) else (bif Nat.beq pc 26 then (.iconst 4, 27, (0, 0, 0), 4, 0, []) else TN)))))) else (bif Nat.blt pc 40 then (bif Nat.blt pc 34 then (bif Nat.blt pc 29 then (bif Nat.blt pc 28 then (bif Nat.beq pc 27 then (.iushr, 28, (0, 0, 0), 0, 0, []) else TN) else (bif Nat.beq pc 28 then (.iadd, 29, (0, 0, 0), 0, 0, []) else TN)) else (bif Nat.blt pc 32 then (bif Nat.beq pc 29 then (.ldc_w 267, 32, (0, 0, 0), 252645135, 0, []) else TN) else (bif Nat.blt pc 33 then (bif Nat.beq pc 32 then (.iand, 33, (0, 0, 0), 0, 0, []) else TN) else (bif Nat.beq pc 33 then (.istore_n 0, 34, (0, 0, 0), 0, 0, []) else TN)))) else (bif Nat.blt pc 36 then (bif Nat.blt pc 35 then (bif Nat.beq pc 34 then (.iload_n 0, 35, (0, 0, 0), 0, 0, []) else TN) else (bif Nat.beq pc 35 then (.iload_n 0, 36, (0, 0, 0), 0, 0, []) else TN)) else (bif Nat.blt pc 38 then (bif Nat.beq pc 36 then (.bipush 8, 38, (0, 0, 0), 8, 0, []) else TN) else (bif Nat.blt pc 39 then (bif Nat.beq pc 38 then (.iushr, 39, (0, 0, 0), 0, 0, []) else TN) else (bif Nat.beq pc 39 then (.iadd, 40, (0, 0, 0), 0, 0, []) else TN))))) else (bif Nat.blt pc 46 then (bif Nat.blt pc 42 then (bif Nat.blt pc 41 then (bif Nat.beq pc 40 then (.istore_n 0, 41, (0, 0, 0), 0, 0, []) else TN) else (bif Nat.beq pc 41 then (.iload_n 0, 42, (0, 0, 0), 0, 0, []) else TN)) else (bif Nat.blt pc 43 then (bif Nat.beq pc 42 then (.iload_n 0, 43, (0, 0, 0), 0, 0, []) else TN) else (bif Nat.blt pc 45 then (bif Nat.beq pc 43 then (.bipush 16, 45, (0, 0, 0), 16, 0, []) else TN) else (bif Nat.beq pc 45 then (.iushr, 46, (0, 0, 0), 0, 0, []) else TN)))) else (bif Nat.blt pc 49 then (bif Nat.blt pc 47 then (bif Nat.beq pc 46 then (.iadd, 47, (0, 0, 0), 0, 0, []) else TN) else (bif Nat.blt pc 48 then (bif Nat.beq pc 47 then (.istore_n 0, 48, (0, 0, 0), 0, 0, []) else TN) else (bif Nat.beq pc 48 then (.iload_n 0, 49, (0, 0, 0), 0, 0, []) else TN))) else (bif Nat.blt pc 51 then (bif Nat.beq pc 49 then (.bipush 63, 51, (0, 0, 0), 63, 0, []) else TN) else (bif Nat.blt pc 52 then (bif Nat.beq pc 51 then (.iand, 52, (0, 0, 0), 0, 0, []) else TN) else (bif Nat.beq pc 52 then (.ireturn, 53, (0, 0, 0), 0, 0, []) else TN))))))
def tb_J6_bitCount_0f7a4 (pc : Nat) : TI := bif Nat.ble 53 pc then TN else tt_J6_bitCount_0f7a4 pc
theorem ok_J6_bitCount_0f7a4 : tOK 18 (decide ("bitCount" = "<init>")) cJ6_bitCount_0f7a4 tb_J6_bitCount_0f7a4 := tOK_of 53 tn_of (by decide +kernel)
def f_J6_bitCount_0f7a4_48 (L : Lay) (σ : Sto) (a0 : Int32) : Option Int32 := some (a0 &&& 63)
def A_J6_bitCount_0f7a4_48 (c : Lay → Sto → Int32 → Option Int32) (lc : List (Option AV)) (st : List AV) (L : Lay) (σ : Sto) : Option Int32 := match lc, st with
  | [some (.inl a0)], [] => c L σ a0
  | _, _ => none
def f_J6_bitCount_0f7a4_41 (L : Lay) (σ : Sto) (a0 : Int32) : Option Int32 := (f_J6_bitCount_0f7a4_48) L σ (a0 + ((a0.toUInt32 >>> ((16 : Int32).toUInt32 &&& Int32.toUInt32 31)).toInt32))
def A_J6_bitCount_0f7a4_41 (c : Lay → Sto → Int32 → Option Int32) (lc : List (Option AV)) (st : List AV) (L : Lay) (σ : Sto) : Option Int32 := match lc, st with
  | [some (.inl a0)], [] => c L σ a0
  | _, _ => none
def f_J6_bitCount_0f7a4_34 (L : Lay) (σ : Sto) (a0 : Int32) : Option Int32 := (f_J6_bitCount_0f7a4_41) L σ (a0 + ((a0.toUInt32 >>> ((8 : Int32).toUInt32 &&& Int32.toUInt32 31)).toInt32))
def A_J6_bitCount_0f7a4_34 (c : Lay → Sto → Int32 → Option Int32) (lc : List (Option AV)) (st : List AV) (L : Lay) (σ : Sto) : Option Int32 := match lc, st with
  | [some (.inl a0)], [] => c L σ a0
  | _, _ => none
def f_J6_bitCount_0f7a4_24 (L : Lay) (σ : Sto) (a0 : Int32) : Option Int32 := (f_J6_bitCount_0f7a4_34) L σ ((a0 + ((a0.toUInt32 >>> ((4 : Int32).toUInt32 &&& Int32.toUInt32 31)).toInt32)) &&& 252645135)
def A_J6_bitCount_0f7a4_24 (c : Lay → Sto → Int32 → Option Int32) (lc : List (Option AV)) (st : List AV) (L : Lay) (σ : Sto) : Option Int32 := match lc, st with
  | [some (.inl a0)], [] => c L σ a0
  | _, _ => none
def f_J6_bitCount_0f7a4_10 (L : Lay) (σ : Sto) (a0 : Int32) : Option Int32 := (f_J6_bitCount_0f7a4_24) L σ ((a0 &&& 858993459) + (((a0.toUInt32 >>> ((2 : Int32).toUInt32 &&& Int32.toUInt32 31)).toInt32) &&& 858993459))
def A_J6_bitCount_0f7a4_10 (c : Lay → Sto → Int32 → Option Int32) (lc : List (Option AV)) (st : List AV) (L : Lay) (σ : Sto) : Option Int32 := match lc, st with
  | [some (.inl a0)], [] => c L σ a0
  | _, _ => none
def f_J6_bitCount_0f7a4 (L : Lay) (σ : Sto) (a0 : Int32) : Option Int32 := (f_J6_bitCount_0f7a4_10) L σ (a0 - (((a0.toUInt32 >>> ((1 : Int32).toUInt32 &&& Int32.toUInt32 31)).toInt32) &&& 1431655765))
def ad_J6_bitCount_0f7a4 : ADT := fun O L σ as k => match as with
  | [.inl a0] => (f_J6_bitCount_0f7a4 L σ a0).bind fun r => k (some (vI r)) L σ
  | _ => none
abbrev cl_J6_bitCount_0f7a4 {O : Type} : CLT O := cl0
theorem hc_J6_bitCount_0f7a4 (G : GT) (l : Launch) {d : Nat} (hd : 1 ≤ d) {O : Type} : HCL G l (true, true) d (cl_J6_bitCount_0f7a4 (O := O)) := hcl0
theorem rt_J6_bitCount_0f7a4 : retOK (0, 0) (some .int) := ⟨fun _ => rfl, fun h => absurd h (by decide), fun h => absurd h (by decide)⟩
set_option maxRecDepth 20000 in
theorem b_J6_bitCount_0f7a4_48 {G : GT} {l : Launch} {d : Nat} {L0 : Lay} {σ0 : Sto} (hd : 1 ≤ d) : HF G l 18 "bitCount" cJ6_bitCount_0f7a4 1 (some .int) d L0 σ0 (true, true) (dcPI L0 σ0) 48 (A_J6_bitCount_0f7a4_48 f_J6_bitCount_0f7a4_48) := by
  intro lc st L σ o h hI
  unfold A_J6_bitCount_0f7a4_48 at h
  split at h
  · have hA0 := h
    exact exs (sp := []) (K := k0) ok_J6_bitCount_0f7a4 rt_J6_bitCount_0f7a4 (by omega) (hc_J6_bitCount_0f7a4 G l hd) (hrPI rfl rfl) hk0 45 hA0 hI
  · cases h
set_option maxRecDepth 20000 in
theorem b_J6_bitCount_0f7a4_41 {G : GT} {l : Launch} {d : Nat} {L0 : Lay} {σ0 : Sto} (hd : 1 ≤ d) : HF G l 18 "bitCount" cJ6_bitCount_0f7a4 1 (some .int) d L0 σ0 (true, true) (dcPI L0 σ0) 41 (A_J6_bitCount_0f7a4_41 f_J6_bitCount_0f7a4_41) := by
  intro lc st L σ o h hI
  unfold A_J6_bitCount_0f7a4_41 at h
  split at h
  · have hA0 := h
    exact exs (sp := [48]) (K := (kc 48 (A_J6_bitCount_0f7a4_48 (f_J6_bitCount_0f7a4_48)) k0)) ok_J6_bitCount_0f7a4 rt_J6_bitCount_0f7a4 (by omega) (hc_J6_bitCount_0f7a4 G l hd) (hrPI rfl rfl) (hkc (b_J6_bitCount_0f7a4_48 hd) hk0) 45 hA0 hI
  · cases h
set_option maxRecDepth 20000 in
theorem b_J6_bitCount_0f7a4_34 {G : GT} {l : Launch} {d : Nat} {L0 : Lay} {σ0 : Sto} (hd : 1 ≤ d) : HF G l 18 "bitCount" cJ6_bitCount_0f7a4 1 (some .int) d L0 σ0 (true, true) (dcPI L0 σ0) 34 (A_J6_bitCount_0f7a4_34 f_J6_bitCount_0f7a4_34) := by
  intro lc st L σ o h hI
  unfold A_J6_bitCount_0f7a4_34 at h
  split at h
  · have hA0 := h
    exact exs (sp := [41]) (K := (kc 41 (A_J6_bitCount_0f7a4_41 (f_J6_bitCount_0f7a4_41)) k0)) ok_J6_bitCount_0f7a4 rt_J6_bitCount_0f7a4 (by omega) (hc_J6_bitCount_0f7a4 G l hd) (hrPI rfl rfl) (hkc (b_J6_bitCount_0f7a4_41 hd) hk0) 45 hA0 hI
  · cases h
set_option maxRecDepth 20000 in
theorem b_J6_bitCount_0f7a4_24 {G : GT} {l : Launch} {d : Nat} {L0 : Lay} {σ0 : Sto} (hd : 1 ≤ d) : HF G l 18 "bitCount" cJ6_bitCount_0f7a4 1 (some .int) d L0 σ0 (true, true) (dcPI L0 σ0) 24 (A_J6_bitCount_0f7a4_24 f_J6_bitCount_0f7a4_24) := by
  intro lc st L σ o h hI
  unfold A_J6_bitCount_0f7a4_24 at h
  split at h
  · have hA0 := h
    exact exs (sp := [34]) (K := (kc 34 (A_J6_bitCount_0f7a4_34 (f_J6_bitCount_0f7a4_34)) k0)) ok_J6_bitCount_0f7a4 rt_J6_bitCount_0f7a4 (by omega) (hc_J6_bitCount_0f7a4 G l hd) (hrPI rfl rfl) (hkc (b_J6_bitCount_0f7a4_34 hd) hk0) 45 hA0 hI
  · cases h
set_option maxRecDepth 20000 in
theorem b_J6_bitCount_0f7a4_10 {G : GT} {l : Launch} {d : Nat} {L0 : Lay} {σ0 : Sto} (hd : 1 ≤ d) : HF G l 18 "bitCount" cJ6_bitCount_0f7a4 1 (some .int) d L0 σ0 (true, true) (dcPI L0 σ0) 10 (A_J6_bitCount_0f7a4_10 f_J6_bitCount_0f7a4_10) := by
  intro lc st L σ o h hI
  unfold A_J6_bitCount_0f7a4_10 at h
  split at h
  · have hA0 := h
    exact exs (sp := [24]) (K := (kc 24 (A_J6_bitCount_0f7a4_24 (f_J6_bitCount_0f7a4_24)) k0)) ok_J6_bitCount_0f7a4 rt_J6_bitCount_0f7a4 (by omega) (hc_J6_bitCount_0f7a4 G l hd) (hrPI rfl rfl) (hkc (b_J6_bitCount_0f7a4_24 hd) hk0) 45 hA0 hI
  · cases h
set_option maxRecDepth 20000 in
theorem ca_J6_bitCount_0f7a4 (G : GT) (l : Launch) {d : Nat} (hd : 1 ≤ d) : CA G l 29 (true, true) d ad_J6_bitCount_0f7a4 := by
  intro O L σ as k o h hW hok
  unfold ad_J6_bitCount_0f7a4 at h
  split at h
  · have hA0 := h
    obtain ⟨r, hr, hk⟩ := Option.bind_eq_some_iff.mp hA0
    exact ca_of (q := (dcPI L σ) r) (by decide) rfl (Nat.le_of_ble_eq_true rfl) hk (fun _ => rfl) (fun _ => rfl) (exs (sp := [10]) (K := (kc 10 (A_J6_bitCount_0f7a4_10 (f_J6_bitCount_0f7a4_10)) k0)) (L0 := L) (σ0 := σ) ok_J6_bitCount_0f7a4 rt_J6_bitCount_0f7a4 (by omega) (hc_J6_bitCount_0f7a4 G l hd) (hrPI rfl rfl) (hkc (b_J6_bitCount_0f7a4_10 hd) hk0) 45 hr (inv0 hW hok))
  · cases h
def tt_X6_keepBetter (pc : Nat) : TI := bif Nat.blt pc 34 then (bif Nat.blt pc 17 then (bif Nat.blt pc 8 then (bif Nat.blt pc 4 then (bif Nat.blt pc 1 then (bif Nat.beq pc 0 then (.aload_n 0, 1, (0, 0, 0), 0, 0, []) else TN) else (bif Nat.beq pc 1 then (.getfield 53, 4, (6, 8, 0), 0, 0, []) else TN)) else (bif Nat.blt pc 7 then (bif Nat.beq pc 4 then (.invokestatic 67, 7, (29, 1, 0), 0, 0, []) else TN) else (bif Nat.beq pc 7 then (.iload_n 1, 8, (1, 0, 0), 0, 0, []) else TN))) else (bif Nat.blt pc 12 then (bif Nat.blt pc 11 then (bif Nat.beq pc 8 then (.invokestatic 67, 11, (29, 1, 0), 0, 0, []) else TN) else (bif Nat.beq pc 11 then (.isub, 12, (0, 0, 0), 0, 0, []) else TN)) else (bif Nat.blt pc 13 then (bif Nat.beq pc 12 then (.istore_n 3, 13, (3, 0, 0), 0, 0, []) else TN) else (bif Nat.blt pc 14 then (bif Nat.beq pc 13 then (.iload_n 3, 14, (3, 0, 0), 0, 0, []) else TN) else (bif Nat.beq pc 14 then (.ifCond .gt 15, 17, (29, 0, 0), 0, 0, []) else TN))))) else (bif Nat.blt pc 23 then (bif Nat.blt pc 21 then (bif Nat.blt pc 18 then (bif Nat.beq pc 17 then (.iload_n 3, 18, (3, 0, 0), 0, 0, []) else TN) else (bif Nat.beq pc 18 then (.ifCond .ne 15, 21, (33, 0, 0), 0, 0, []) else TN)) else (bif Nat.blt pc 22 then (bif Nat.beq pc 21 then (.iload_n 1, 22, (1, 0, 0), 0, 0, []) else TN) else (bif Nat.beq pc 22 then (.aload_n 0, 23, (0, 0, 0), 0, 0, []) else TN))) else (bif Nat.blt pc 29 then (bif Nat.blt pc 26 then (bif Nat.beq pc 23 then (.getfield 53, 26, (6, 8, 0), 0, 0, []) else TN) else (bif Nat.beq pc 26 then (.if_icmp .ge 7, 29, (33, 0, 0), 0, 0, []) else TN)) else (bif Nat.blt pc 30 then (bif Nat.beq pc 29 then (.iconst 1, 30, (0, 0, 0), 1, 0, []) else TN) else (bif Nat.blt pc 33 then (bif Nat.beq pc 30 then (.goto 4, 33, (34, 0, 0), 0, 0, []) else TN) else (bif Nat.beq pc 33 then (.iconst 0, 34, (0, 0, 0), 0, 0, []) else TN)))))) else (bif Nat.blt pc 52 then (bif Nat.blt pc 41 then (bif Nat.blt pc 37 then (bif Nat.blt pc 36 then (bif Nat.beq pc 34 then (.istore 4, 36, (4, 0, 0), 0, 0, []) else TN) else (bif Nat.beq pc 36 then (.iload_n 2, 37, (2, 0, 0), 0, 0, []) else TN)) else (bif Nat.blt pc 38 then (bif Nat.beq pc 37 then (.aload_n 0, 38, (0, 0, 0), 0, 0, []) else TN) else (bif Nat.beq pc 38 then (.getfield 56, 41, (6, 9, 0), 0, 0, []) else TN))) else (bif Nat.blt pc 45 then (bif Nat.blt pc 44 then (bif Nat.beq pc 41 then (.if_icmp .gt 16, 44, (57, 0, 0), 0, 0, []) else TN) else (bif Nat.beq pc 44 then (.iload_n 2, 45, (2, 0, 0), 0, 0, []) else TN)) else (bif Nat.blt pc 46 then (bif Nat.beq pc 45 then (.aload_n 0, 46, (0, 0, 0), 0, 0, []) else TN) else (bif Nat.blt pc 49 then (bif Nat.beq pc 46 then (.getfield 56, 49, (6, 9, 0), 0, 0, []) else TN) else (bif Nat.beq pc 49 then (.if_icmp .ne 18, 52, (67, 0, 0), 0, 0, []) else TN))))) else (bif Nat.blt pc 59 then (bif Nat.blt pc 57 then (bif Nat.blt pc 54 then (bif Nat.beq pc 52 then (.iload 4, 54, (4, 0, 0), 0, 0, []) else TN) else (bif Nat.beq pc 54 then (.ifCond .eq 13, 57, (67, 0, 0), 0, 0, []) else TN)) else (bif Nat.blt pc 58 then (bif Nat.beq pc 57 then (.aload_n 0, 58, (0, 0, 0), 0, 0, []) else TN) else (bif Nat.beq pc 58 then (.iload_n 1, 59, (1, 0, 0), 0, 0, []) else TN))) else (bif Nat.blt pc 63 then (bif Nat.blt pc 62 then (bif Nat.beq pc 59 then (.putfield 53, 62, (6, 8, 0), 0, 0, []) else TN) else (bif Nat.beq pc 62 then (.aload_n 0, 63, (0, 0, 0), 0, 0, []) else TN)) else (bif Nat.blt pc 64 then (bif Nat.beq pc 63 then (.iload_n 2, 64, (2, 0, 0), 0, 0, []) else TN) else (bif Nat.blt pc 67 then (bif Nat.beq pc 64 then (.putfield 56, 67, (6, 9, 0), 0, 0, []) else TN) else (bif Nat.beq pc 67 then (.return_, 68, (0, 0, 0), 0, 0, []) else TN))))))
def tb_X6_keepBetter (pc : Nat) : TI := bif Nat.ble 68 pc then TN else tt_X6_keepBetter pc
theorem ok_X6_keepBetter : tOK 6 (decide ("keepBetter" = "<init>")) cX6_keepBetter tb_X6_keepBetter := tOK_of 68 tn_of (by decide +kernel)
def f_X6_keepBetter_57 (L : Lay) (σ : Sto) (a0 : Nat) (a1 : Int32) (a2 : Int32) : Option Sto := (putI σ a0 8 a1).bind fun σ1 => (putI σ1 a0 9 a2).bind fun σ2 => some σ2
def A_X6_keepBetter_57 (c : Lay → Sto → Nat → Int32 → Int32 → Option Sto) (lc : List (Option AV)) (st : List AV) (L : Lay) (σ : Sto) : Option Sto := match lc, st with
  | [some (.inr (.inr (.inl (ta0, some a0)))), some (.inl a1), some (.inl a2), _, _], [] => bif Nat.beq ta0 6 && true then c L σ a0 a1 a2 else none
  | _, _ => none
def f_X6_keepBetter_34 (L : Lay) (σ : Sto) (a0 : Nat) (a1 : Int32) (a2 : Int32) (a3 : Int32) (s0 : Int32) : Option Sto := (if (σ.1 a0 9) < a2 then (f_X6_keepBetter_57) L σ a0 a1 a2 else (if a2 = (σ.1 a0 9) then (if s0 = 0 then some σ else (f_X6_keepBetter_57) L σ a0 a1 a2) else some σ))
def A_X6_keepBetter_34 (c : Lay → Sto → Nat → Int32 → Int32 → Int32 → Int32 → Option Sto) (lc : List (Option AV)) (st : List AV) (L : Lay) (σ : Sto) : Option Sto := match lc, st with
  | [some (.inr (.inr (.inl (ta0, some a0)))), some (.inl a1), some (.inl a2), some (.inl a3), _], [.inl s0] => bif Nat.beq ta0 6 && true then c L σ a0 a1 a2 a3 s0 else none
  | _, _ => none
def f_X6_keepBetter_29 (L : Lay) (σ : Sto) (a0 : Nat) (a1 : Int32) (a2 : Int32) (a3 : Int32) : Option Sto := (f_X6_keepBetter_34) L σ a0 a1 a2 a3 1
def A_X6_keepBetter_29 (c : Lay → Sto → Nat → Int32 → Int32 → Int32 → Option Sto) (lc : List (Option AV)) (st : List AV) (L : Lay) (σ : Sto) : Option Sto := match lc, st with
  | [some (.inr (.inr (.inl (ta0, some a0)))), some (.inl a1), some (.inl a2), some (.inl a3), _], [] => bif Nat.beq ta0 6 && true then c L σ a0 a1 a2 a3 else none
  | _, _ => none
def f_X6_keepBetter_33 (L : Lay) (σ : Sto) (a0 : Nat) (a1 : Int32) (a2 : Int32) (a3 : Int32) : Option Sto := (f_X6_keepBetter_34) L σ a0 a1 a2 a3 0
def A_X6_keepBetter_33 (c : Lay → Sto → Nat → Int32 → Int32 → Int32 → Option Sto) (lc : List (Option AV)) (st : List AV) (L : Lay) (σ : Sto) : Option Sto := match lc, st with
  | [some (.inr (.inr (.inl (ta0, some a0)))), some (.inl a1), some (.inl a2), some (.inl a3), _], [] => bif Nat.beq ta0 6 && true then c L σ a0 a1 a2 a3 else none
  | _, _ => none
def f_X6_keepBetter (L : Lay) (σ : Sto) (a0 : Nat) (a1 : Int32) (a2 : Int32) : Option Sto := (f_J6_bitCount_0f7a4 L σ (σ.1 a0 8)).bind fun r3 => (f_J6_bitCount_0f7a4 L σ a1).bind fun r4 => (if 0 < (r3 - r4) then (f_X6_keepBetter_29) L σ a0 a1 a2 (r3 - r4) else (if (r3 - r4) = 0 then (if (σ.1 a0 8) ≤ a1 then (f_X6_keepBetter_33) L σ a0 a1 a2 (r3 - r4) else (f_X6_keepBetter_29) L σ a0 a1 a2 (r3 - r4)) else (f_X6_keepBetter_33) L σ a0 a1 a2 (r3 - r4)))
def ad_X6_keepBetter : ADT := fun O L σ as k => match as with
  | [.inr (.inr (.inl (ta0, some a0))), .inl a1, .inl a2] => bif Nat.beq ta0 6 && true then (f_X6_keepBetter L σ a0 a1 a2).bind fun σ2 => k none L σ2 else none
  | _ => none
abbrev cl_X6_keepBetter {O : Type} : CLT O := (clc 29 ad_J6_bitCount_0f7a4 cl0)
theorem hc_X6_keepBetter (G : GT) (l : Launch) {d : Nat} (hd : 2 ≤ d) {O : Type} : HCL G l (true, false) d (cl_X6_keepBetter (O := O)) := (hclc (ca_J6_bitCount_0f7a4 G l (d := 1) (Nat.le_refl _)) (fun _ => rfl) (fun e => by cases e) (by omega) hcl0)
theorem rt_X6_keepBetter : retOK (6, 0) none := ⟨fun h => absurd h (by decide), fun h => absurd h (by decide), fun _ => rfl⟩
set_option maxRecDepth 20000 in
theorem b_X6_keepBetter_57 {G : GT} {l : Launch} {d : Nat} {L0 : Lay} {σ0 : Sto} (hd : 2 ≤ d) : HF G l 6 "keepBetter" cX6_keepBetter 5 none d L0 σ0 (true, false) (dcV L0) 57 (A_X6_keepBetter_57 f_X6_keepBetter_57) := by
  intro lc st L σ o h hI
  unfold A_X6_keepBetter_57 at h
  split at h
  · obtain ⟨hq0, hA1⟩ := bif_s h
    obtain ⟨e0, hq1⟩ := beq_and hq0
    subst e0
    exact exs (sp := []) (K := k0) ok_X6_keepBetter rt_X6_keepBetter (by omega) (hc_X6_keepBetter G l hd) (hrV rfl) hk0 39 hA1 hI
  · cases h
set_option maxRecDepth 20000 in
theorem b_X6_keepBetter_34 {G : GT} {l : Launch} {d : Nat} {L0 : Lay} {σ0 : Sto} (hd : 2 ≤ d) : HF G l 6 "keepBetter" cX6_keepBetter 5 none d L0 σ0 (true, false) (dcV L0) 34 (A_X6_keepBetter_34 f_X6_keepBetter_34) := by
  intro lc st L σ o h hI
  unfold A_X6_keepBetter_34 at h
  split at h
  · obtain ⟨hq0, hA1⟩ := bif_s h
    obtain ⟨e0, hq1⟩ := beq_and hq0
    subst e0
    exact exs (sp := [57]) (K := (kc 57 (A_X6_keepBetter_57 (f_X6_keepBetter_57)) k0)) ok_X6_keepBetter rt_X6_keepBetter (by omega) (hc_X6_keepBetter G l hd) (hrV rfl) (hkc (b_X6_keepBetter_57 hd) hk0) 39 hA1 hI
  · cases h
set_option maxRecDepth 20000 in
theorem b_X6_keepBetter_29 {G : GT} {l : Launch} {d : Nat} {L0 : Lay} {σ0 : Sto} (hd : 2 ≤ d) : HF G l 6 "keepBetter" cX6_keepBetter 5 none d L0 σ0 (true, false) (dcV L0) 29 (A_X6_keepBetter_29 f_X6_keepBetter_29) := by
  intro lc st L σ o h hI
  unfold A_X6_keepBetter_29 at h
  split at h
  · obtain ⟨hq0, hA1⟩ := bif_s h
    obtain ⟨e0, hq1⟩ := beq_and hq0
    subst e0
    exact exs (sp := [34]) (K := (kc 34 (A_X6_keepBetter_34 (f_X6_keepBetter_34)) k0)) ok_X6_keepBetter rt_X6_keepBetter (by omega) (hc_X6_keepBetter G l hd) (hrV rfl) (hkc (b_X6_keepBetter_34 hd) hk0) 39 hA1 hI
  · cases h
set_option maxRecDepth 20000 in
theorem b_X6_keepBetter_33 {G : GT} {l : Launch} {d : Nat} {L0 : Lay} {σ0 : Sto} (hd : 2 ≤ d) : HF G l 6 "keepBetter" cX6_keepBetter 5 none d L0 σ0 (true, false) (dcV L0) 33 (A_X6_keepBetter_33 f_X6_keepBetter_33) := by
  intro lc st L σ o h hI
  unfold A_X6_keepBetter_33 at h
  split at h
  · obtain ⟨hq0, hA1⟩ := bif_s h
    obtain ⟨e0, hq1⟩ := beq_and hq0
    subst e0
    exact exs (sp := [34]) (K := (kc 34 (A_X6_keepBetter_34 (f_X6_keepBetter_34)) k0)) ok_X6_keepBetter rt_X6_keepBetter (by omega) (hc_X6_keepBetter G l hd) (hrV rfl) (hkc (b_X6_keepBetter_34 hd) hk0) 39 hA1 hI
  · cases h
set_option maxRecDepth 20000 in
theorem ca_X6_keepBetter (G : GT) (l : Launch) {d : Nat} (hd : 2 ≤ d) : CA G l 252 (true, false) d ad_X6_keepBetter := by
  intro O L σ as k o h hW hok
  unfold ad_X6_keepBetter at h
  split at h
  · obtain ⟨hq0, hA0⟩ := bif_s h
    obtain ⟨e0, hq1⟩ := beq_and hq0
    subst e0
    obtain ⟨r, hr, hk⟩ := Option.bind_eq_some_iff.mp hA0
    exact ca_of (q := (dcV L) r) (by decide) rfl (Nat.le_of_ble_eq_true rfl) hk (fun _ => rfl) (fun e => by cases e) (exs (sp := [29, 33]) (K := (kc 29 (A_X6_keepBetter_29 (f_X6_keepBetter_29)) (kc 33 (A_X6_keepBetter_33 (f_X6_keepBetter_33)) k0))) (L0 := L) (σ0 := σ) ok_X6_keepBetter rt_X6_keepBetter (by omega) (hc_X6_keepBetter G l hd) (hrV rfl) (hkc (b_X6_keepBetter_29 hd) (hkc (b_X6_keepBetter_33 hd) hk0)) 39 hr (inv0 hW hok))
  · cases h
def adp_X6_choose (g : Lay → Sto → Nat → Int32 → Int32 → Int32 → Int32 → Int32 → Option Sto) : ADT := fun O L σ as k => match as with
  | [.inr (.inr (.inl (ta0, some a0))), .inl a1, .inl a2, .inl a3, .inl a4, .inl a5] => bif Nat.beq ta0 6 && true then (g L σ a0 a1 a2 a3 a4 a5).bind fun σ2 => k none L σ2 else none
  | _ => none
def tt_X6_choose (pc : Nat) : TI := bif Nat.blt pc 63 then (bif Nat.blt pc 29 then (bif Nat.blt pc 16 then (bif Nat.blt pc 8 then (bif Nat.blt pc 2 then (bif Nat.blt pc 1 then (bif Nat.beq pc 0 then (.iload_n 1, 1, (1, 0, 0), 0, 0, []) else TN) else (bif Nat.beq pc 1 then (.aload_n 0, 2, (0, 0, 0), 0, 0, []) else TN)) else (bif Nat.blt pc 5 then (bif Nat.beq pc 2 then (.getfield 44, 5, (6, 5, 0), 0, 0, []) else TN) else (bif Nat.beq pc 5 then (.if_icmp .ge 9, 8, (14, 0, 0), 0, 0, []) else TN))) else (bif Nat.blt pc 11 then (bif Nat.blt pc 9 then (bif Nat.beq pc 8 then (.iload_n 1, 9, (1, 0, 0), 0, 0, []) else TN) else (bif Nat.beq pc 9 then (.bipush 12, 11, (0, 0, 0), 12, 0, []) else TN)) else (bif Nat.blt pc 14 then (bif Nat.beq pc 11 then (.if_icmp .lt 10, 14, (21, 0, 0), 0, 0, []) else TN) else (bif Nat.blt pc 15 then (bif Nat.beq pc 14 then (.aload_n 0, 15, (0, 0, 0), 0, 0, []) else TN) else (bif Nat.beq pc 15 then (.iload_n 2, 16, (2, 0, 0), 0, 0, []) else TN))))) else (bif Nat.blt pc 22 then (bif Nat.blt pc 20 then (bif Nat.blt pc 17 then (bif Nat.beq pc 16 then (.iload_n 3, 17, (3, 0, 0), 0, 0, []) else TN) else (bif Nat.beq pc 17 then (.invokevirtual 63, 20, (252, 2, 6), 0, 0, []) else TN)) else (bif Nat.blt pc 21 then (bif Nat.beq pc 20 then (.return_, 21, (0, 0, 0), 0, 0, []) else TN) else (bif Nat.beq pc 21 then (.iload_n 3, 22, (3, 0, 0), 0, 0, []) else TN))) else (bif Nat.blt pc 26 then (bif Nat.blt pc 23 then (bif Nat.beq pc 22 then (.aload_n 0, 23, (0, 0, 0), 0, 0, []) else TN) else (bif Nat.beq pc 23 then (.getfield 19, 26, (6, 4, 0), 0, 0, []) else TN)) else (bif Nat.blt pc 27 then (bif Nat.beq pc 26 then (.iload_n 1, 27, (1, 0, 0), 0, 0, []) else TN) else (bif Nat.blt pc 28 then (bif Nat.beq pc 27 then (.iaload, 28, (0, 0, 0), 0, 0, []) else TN) else (bif Nat.beq pc 28 then (.iadd, 29, (0, 0, 0), 0, 0, []) else TN)))))) else (bif Nat.blt pc 45 then (bif Nat.blt pc 37 then (bif Nat.blt pc 33 then (bif Nat.blt pc 30 then (bif Nat.beq pc 29 then (.aload_n 0, 30, (0, 0, 0), 0, 0, []) else TN) else (bif Nat.beq pc 30 then (.getfield 56, 33, (6, 9, 0), 0, 0, []) else TN)) else (bif Nat.blt pc 36 then (bif Nat.beq pc 33 then (.if_icmp .ge 4, 36, (37, 0, 0), 0, 0, []) else TN) else (bif Nat.beq pc 36 then (.return_, 37, (0, 0, 0), 0, 0, []) else TN))) else (bif Nat.blt pc 40 then (bif Nat.blt pc 39 then (bif Nat.beq pc 37 then (.iload 4, 39, (4, 0, 0), 0, 0, []) else TN) else (bif Nat.beq pc 39 then (.aload_n 0, 40, (0, 0, 0), 0, 0, []) else TN)) else (bif Nat.blt pc 43 then (bif Nat.beq pc 40 then (.getfield 13, 43, (6, 1, 0), 0, 0, []) else TN) else (bif Nat.blt pc 44 then (bif Nat.beq pc 43 then (.iconst 2, 44, (0, 0, 0), 2, 0, []) else TN) else (bif Nat.beq pc 44 then (.iaload, 45, (0, 0, 0), 0, 0, []) else TN))))) else (bif Nat.blt pc 53 then (bif Nat.blt pc 48 then (bif Nat.blt pc 46 then (bif Nat.beq pc 45 then (.iadd, 46, (0, 0, 0), 0, 0, []) else TN) else (bif Nat.beq pc 46 then (.istore 6, 48, (6, 0, 0), 0, 0, []) else TN)) else (bif Nat.blt pc 49 then (bif Nat.beq pc 48 then (.aload_n 0, 49, (0, 0, 0), 0, 0, []) else TN) else (bif Nat.blt pc 52 then (bif Nat.beq pc 49 then (.getfield 9, 52, (6, 0, 0), 0, 0, []) else TN) else (bif Nat.beq pc 52 then (.iload_n 1, 53, (1, 0, 0), 0, 0, []) else TN)))) else (bif Nat.blt pc 57 then (bif Nat.blt pc 54 then (bif Nat.beq pc 53 then (.iaload, 54, (0, 0, 0), 0, 0, []) else TN) else (bif Nat.beq pc 54 then (.ifCond .le 52, 57, (106, 0, 0), 0, 0, []) else TN)) else (bif Nat.blt pc 59 then (bif Nat.beq pc 57 then (.iload 5, 59, (5, 0, 0), 0, 0, []) else TN) else (bif Nat.blt pc 60 then (bif Nat.beq pc 59 then (.aload_n 0, 60, (0, 0, 0), 0, 0, []) else TN) else (bif Nat.beq pc 60 then (.getfield 50, 63, (6, 7, 0), 0, 0, []) else TN))))))) else (bif Nat.blt pc 91 then (bif Nat.blt pc 79 then (bif Nat.blt pc 72 then (bif Nat.blt pc 68 then (bif Nat.blt pc 66 then (bif Nat.beq pc 63 then (.if_icmp .ge 43, 66, (106, 0, 0), 0, 0, []) else TN) else (bif Nat.beq pc 66 then (.iload 4, 68, (4, 0, 0), 0, 0, []) else TN)) else (bif Nat.blt pc 69 then (bif Nat.beq pc 68 then (.aload_n 0, 69, (0, 0, 0), 0, 0, []) else TN) else (bif Nat.beq pc 69 then (.getfield 47, 72, (6, 6, 0), 0, 0, []) else TN))) else (bif Nat.blt pc 76 then (bif Nat.blt pc 75 then (bif Nat.beq pc 72 then (.if_icmp .lt 34, 75, (106, 0, 0), 0, 0, []) else TN) else (bif Nat.beq pc 75 then (.aload_n 0, 76, (0, 0, 0), 0, 0, []) else TN)) else (bif Nat.blt pc 77 then (bif Nat.beq pc 76 then (.iload_n 1, 77, (1, 0, 0), 0, 0, []) else TN) else (bif Nat.blt pc 78 then (bif Nat.beq pc 77 then (.iconst 1, 78, (0, 0, 0), 1, 0, []) else TN) else (bif Nat.beq pc 78 then (.iadd, 79, (0, 0, 0), 0, 0, []) else TN))))) else (bif Nat.blt pc 84 then (bif Nat.blt pc 81 then (bif Nat.blt pc 80 then (bif Nat.beq pc 79 then (.iload_n 2, 80, (2, 0, 0), 0, 0, []) else TN) else (bif Nat.beq pc 80 then (.iconst 1, 81, (0, 0, 0), 1, 0, []) else TN)) else (bif Nat.blt pc 82 then (bif Nat.beq pc 81 then (.iload_n 1, 82, (1, 0, 0), 0, 0, []) else TN) else (bif Nat.blt pc 83 then (bif Nat.beq pc 82 then (.ishl, 83, (0, 0, 0), 0, 0, []) else TN) else (bif Nat.beq pc 83 then (.ior, 84, (0, 0, 0), 0, 0, []) else TN)))) else (bif Nat.blt pc 86 then (bif Nat.blt pc 85 then (bif Nat.beq pc 84 then (.iload_n 3, 85, (3, 0, 0), 0, 0, []) else TN) else (bif Nat.beq pc 85 then (.aload_n 0, 86, (0, 0, 0), 0, 0, []) else TN)) else (bif Nat.blt pc 89 then (bif Nat.beq pc 86 then (.getfield 9, 89, (6, 0, 0), 0, 0, []) else TN) else (bif Nat.blt pc 90 then (bif Nat.beq pc 89 then (.iload_n 1, 90, (1, 0, 0), 0, 0, []) else TN) else (bif Nat.beq pc 90 then (.iaload, 91, (0, 0, 0), 0, 0, []) else TN)))))) else (bif Nat.blt pc 106 then (bif Nat.blt pc 98 then (bif Nat.blt pc 94 then (bif Nat.blt pc 92 then (bif Nat.beq pc 91 then (.iadd, 92, (0, 0, 0), 0, 0, []) else TN) else (bif Nat.beq pc 92 then (.iload 6, 94, (6, 0, 0), 0, 0, []) else TN)) else (bif Nat.blt pc 95 then (bif Nat.beq pc 94 then (.aload_n 0, 95, (0, 0, 0), 0, 0, []) else TN) else (bif Nat.beq pc 95 then (.getfield 47, 98, (6, 6, 0), 0, 0, []) else TN))) else (bif Nat.blt pc 101 then (bif Nat.blt pc 99 then (bif Nat.beq pc 98 then (.isub, 99, (0, 0, 0), 0, 0, []) else TN) else (bif Nat.beq pc 99 then (.iload 5, 101, (5, 0, 0), 0, 0, []) else TN)) else (bif Nat.blt pc 102 then (bif Nat.beq pc 101 then (.iconst 1, 102, (0, 0, 0), 1, 0, []) else TN) else (bif Nat.blt pc 103 then (bif Nat.beq pc 102 then (.iadd, 103, (0, 0, 0), 0, 0, []) else TN) else (bif Nat.beq pc 103 then (.invokevirtual 59, 106, (248, 5, 6), 0, 0, []) else TN))))) else (bif Nat.blt pc 111 then (bif Nat.blt pc 108 then (bif Nat.blt pc 107 then (bif Nat.beq pc 106 then (.aload_n 0, 107, (0, 0, 0), 0, 0, []) else TN) else (bif Nat.beq pc 107 then (.iload_n 1, 108, (1, 0, 0), 0, 0, []) else TN)) else (bif Nat.blt pc 109 then (bif Nat.beq pc 108 then (.iconst 1, 109, (0, 0, 0), 1, 0, []) else TN) else (bif Nat.blt pc 110 then (bif Nat.beq pc 109 then (.iadd, 110, (0, 0, 0), 0, 0, []) else TN) else (bif Nat.beq pc 110 then (.iload_n 2, 111, (2, 0, 0), 0, 0, []) else TN)))) else (bif Nat.blt pc 114 then (bif Nat.blt pc 112 then (bif Nat.beq pc 111 then (.iload_n 3, 112, (3, 0, 0), 0, 0, []) else TN) else (bif Nat.beq pc 112 then (.iload 6, 114, (6, 0, 0), 0, 0, []) else TN)) else (bif Nat.blt pc 115 then (bif Nat.beq pc 114 then (.iconst 0, 115, (0, 0, 0), 0, 0, []) else TN) else (bif Nat.blt pc 118 then (bif Nat.beq pc 115 then (.invokevirtual 59, 118, (248, 5, 6), 0, 0, []) else TN) else (bif Nat.beq pc 118 then (.return_, 119, (0, 0, 0), 0, 0, []) else TN)))))))
def tb_X6_choose (pc : Nat) : TI := bif Nat.ble 119 pc then TN else tt_X6_choose pc
theorem ok_X6_choose : tOK 6 (decide ("choose" = "<init>")) cX6_choose tb_X6_choose := tOK_of 119 tn_of (by decide +kernel)
def f_X6_choose_14 (g_X6_choose : Lay → Sto → Nat → Int32 → Int32 → Int32 → Int32 → Int32 → Option Sto) (L : Lay) (σ : Sto) (a0 : Nat) (a2 : Int32) (a3 : Int32) : Option Sto := (f_X6_keepBetter L σ a0 a2 a3).bind fun σ1 => some σ1
def A_X6_choose_14 (c : Lay → Sto → Nat → Int32 → Int32 → Option Sto) (lc : List (Option AV)) (st : List AV) (L : Lay) (σ : Sto) : Option Sto := match lc, st with
  | [some (.inr (.inr (.inl (ta0, some a0)))), _, some (.inl a2), some (.inl a3), _, _, _], [] => bif Nat.beq ta0 6 && true then c L σ a0 a2 a3 else none
  | _, _ => none
def f_X6_choose_106 (g_X6_choose : Lay → Sto → Nat → Int32 → Int32 → Int32 → Int32 → Int32 → Option Sto) (L : Lay) (σ : Sto) (a0 : Nat) (a1 : Int32) (a2 : Int32) (a3 : Int32) (a6 : Int32) : Option Sto := (g_X6_choose L σ a0 (a1 + 1) a2 a3 a6 0).bind fun σ2 => some σ2
def A_X6_choose_106 (c : Lay → Sto → Nat → Int32 → Int32 → Int32 → Int32 → Option Sto) (lc : List (Option AV)) (st : List AV) (L : Lay) (σ : Sto) : Option Sto := match lc, st with
  | [some (.inr (.inr (.inl (ta0, some a0)))), some (.inl a1), some (.inl a2), some (.inl a3), _, _, some (.inl a6)], [] => bif Nat.beq ta0 6 && true then c L σ a0 a1 a2 a3 a6 else none
  | _, _ => none
def fb_X6_choose (g_X6_choose : Lay → Sto → Nat → Int32 → Int32 → Int32 → Int32 → Int32 → Option Sto) (L : Lay) (σ : Sto) (a0 : Nat) (a1 : Int32) (a2 : Int32) (a3 : Int32) (a4 : Int32) (a5 : Int32) : Option Sto := (if (σ.1 a0 5) ≤ a1 then (f_X6_choose_14 g_X6_choose) L σ a0 a2 a3 else (if a1 < 12 then (σ.2.1 a0 4).bind fun x3 => (rI L σ x3 a1).bind fun v4 => (if (σ.1 a0 9) ≤ (a3 + v4) then (σ.2.1 a0 1).bind fun x5 => (rI L σ x5 2).bind fun v6 => (σ.2.1 a0 0).bind fun x7 => (rI L σ x7 a1).bind fun v8 => (if v8 ≤ 0 then (f_X6_choose_106 g_X6_choose) L σ a0 a1 a2 a3 (a4 + v6) else (if (σ.1 a0 7) ≤ a5 then (f_X6_choose_106 g_X6_choose) L σ a0 a1 a2 a3 (a4 + v6) else (if a4 < (σ.1 a0 6) then (f_X6_choose_106 g_X6_choose) L σ a0 a1 a2 a3 (a4 + v6) else (σ.2.1 a0 0).bind fun x9 => (rI L σ x9 a1).bind fun v10 => (g_X6_choose L σ a0 (a1 + 1) (a2 ||| (1 <<< (a1 &&& 31))) (a3 + v10) ((a4 + v6) - (σ.1 a0 6)) (a5 + 1)).bind fun σ11 => (f_X6_choose_106 g_X6_choose) L σ11 a0 a1 a2 a3 (a4 + v6)))) else some σ) else (f_X6_choose_14 g_X6_choose) L σ a0 a2 a3))
abbrev cl_X6_choose (g_X6_choose : Lay → Sto → Nat → Int32 → Int32 → Int32 → Int32 → Int32 → Option Sto) {O : Type} : CLT O := (clc 252 ad_X6_keepBetter (clc 248 (adp_X6_choose g_X6_choose) cl0))
theorem hc_X6_choose (G : GT) (l : Launch) {d : Nat} (hd : 3 ≤ d) {dr : Nat} (hdr : dr + 1 ≤ d) {g_X6_choose : Lay → Sto → Nat → Int32 → Int32 → Int32 → Int32 → Int32 → Option Sto} (hg_X6_choose : CA G l 248 (true, false) dr (adp_X6_choose g_X6_choose)) {O : Type} : HCL G l (true, false) d (cl_X6_choose g_X6_choose (O := O)) := (hclc (ca_X6_keepBetter G l (d := 2) (Nat.le_refl _)) (fun _ => rfl) (fun e => by cases e) (by omega) (hclc hg_X6_choose (fun _ => rfl) (fun e => by cases e) hdr hcl0))
theorem rt_X6_choose : retOK (6, 0) none := ⟨fun h => absurd h (by decide), fun h => absurd h (by decide), fun _ => rfl⟩
set_option maxRecDepth 20000 in
theorem b_X6_choose_14 {G : GT} {l : Launch} {d : Nat} {L0 : Lay} {σ0 : Sto} (hd : 3 ≤ d) {dr : Nat} (hdr : dr + 1 ≤ d) {g_X6_choose : Lay → Sto → Nat → Int32 → Int32 → Int32 → Int32 → Int32 → Option Sto} (hg_X6_choose : CA G l 248 (true, false) dr (adp_X6_choose g_X6_choose)) : HF G l 6 "choose" cX6_choose 7 none d L0 σ0 (true, false) (dcV L0) 14 (A_X6_choose_14 (f_X6_choose_14 g_X6_choose)) := by
  intro lc st L σ o h hI
  unfold A_X6_choose_14 at h
  split at h
  · obtain ⟨hq0, hA1⟩ := bif_s h
    obtain ⟨e0, hq1⟩ := beq_and hq0
    subst e0
    exact exs (sp := []) (K := k0) ok_X6_choose rt_X6_choose (by omega) (hc_X6_choose G l hd hdr hg_X6_choose) (hrV rfl) hk0 78 hA1 hI
  · cases h
set_option maxRecDepth 20000 in
theorem b_X6_choose_106 {G : GT} {l : Launch} {d : Nat} {L0 : Lay} {σ0 : Sto} (hd : 3 ≤ d) {dr : Nat} (hdr : dr + 1 ≤ d) {g_X6_choose : Lay → Sto → Nat → Int32 → Int32 → Int32 → Int32 → Int32 → Option Sto} (hg_X6_choose : CA G l 248 (true, false) dr (adp_X6_choose g_X6_choose)) : HF G l 6 "choose" cX6_choose 7 none d L0 σ0 (true, false) (dcV L0) 106 (A_X6_choose_106 (f_X6_choose_106 g_X6_choose)) := by
  intro lc st L σ o h hI
  unfold A_X6_choose_106 at h
  split at h
  · obtain ⟨hq0, hA1⟩ := bif_s h
    obtain ⟨e0, hq1⟩ := beq_and hq0
    subst e0
    exact exs (sp := []) (K := k0) ok_X6_choose rt_X6_choose (by omega) (hc_X6_choose G l hd hdr hg_X6_choose) (hrV rfl) hk0 78 hA1 hI
  · cases h
set_option maxRecDepth 20000 in
theorem cb_X6_choose (G : GT) (l : Launch) {d : Nat} (hd : 3 ≤ d) {dr : Nat} (hdr : dr + 1 ≤ d) {g_X6_choose : Lay → Sto → Nat → Int32 → Int32 → Int32 → Int32 → Int32 → Option Sto} (hg_X6_choose : CA G l 248 (true, false) dr (adp_X6_choose g_X6_choose)) : CA G l 248 (true, false) d (adp_X6_choose (fb_X6_choose g_X6_choose)) := by
  intro O L σ as k o h hW hok
  unfold adp_X6_choose at h
  split at h
  · obtain ⟨hq0, hA0⟩ := bif_s h
    obtain ⟨e0, hq1⟩ := beq_and hq0
    subst e0
    obtain ⟨r, hr, hk⟩ := Option.bind_eq_some_iff.mp hA0
    exact ca_of (q := (dcV L) r) (by decide) rfl (Nat.le_of_ble_eq_true rfl) hk (fun _ => rfl) (fun e => by cases e) (exs (sp := [14, 106]) (K := (kc 14 (A_X6_choose_14 (f_X6_choose_14 g_X6_choose)) (kc 106 (A_X6_choose_106 (f_X6_choose_106 g_X6_choose)) k0))) (L0 := L) (σ0 := σ) ok_X6_choose rt_X6_choose (by omega) (hc_X6_choose G l hd hdr hg_X6_choose) (hrV rfl) (hkc (b_X6_choose_14 hd hdr hg_X6_choose) (hkc (b_X6_choose_106 hd hdr hg_X6_choose) hk0)) 78 hr (inv0 hW hok))
  · cases h
def fg_ch : Nat → (Lay → Sto → Nat → Int32 → Int32 → Int32 → Int32 → Int32 → Option Sto)
  | 0 => (fun _ _ _ _ _ _ _ _ => none)
  | k + 1 => (fb_X6_choose (fg_ch k))
set_option maxRecDepth 20000 in
theorem tie_ch (G : GT) (l : Launch) : ∀ (k : Nat) {d : Nat}, 3 + k ≤ d → CA G l 248 (true, false) d (adp_X6_choose (fg_ch k))
  | 0, d, hd => by
    refine ?_
    · exact fun O L σ as k o h _ _ => by
        unfold adp_X6_choose at h
        split at h
        · obtain ⟨_, hA⟩ := bif_s h
          cases hA
        · cases h
  | k + 1, d, hd => by
    have ih := tie_ch G l k (d := d - 1) (by omega)
    exact cb_X6_choose G l (by omega) (dr := d - 1) (by omega) ih
def f_X6_choose : Lay → Sto → Nat → Int32 → Int32 → Int32 → Int32 → Int32 → Option Sto := (fg_ch 100)
abbrev ad_X6_choose : ADT := adp_X6_choose f_X6_choose
theorem ca_X6_choose (G : GT) (l : Launch) {d : Nat} (hd : 103 ≤ d) : CA G l 248 (true, false) d ad_X6_choose := (tie_ch G l 100 (by omega))
def tt_X6_make (pc : Nat) : TI := bif Nat.blt pc 55 then (bif Nat.blt pc 26 then (bif Nat.blt pc 12 then (bif Nat.blt pc 4 then (bif Nat.blt pc 1 then (bif Nat.beq pc 0 then (.aload_n 0, 1, (0, 0, 0), 0, 0, []) else TN) else (bif Nat.blt pc 2 then (bif Nat.beq pc 1 then (.iload_n 1, 2, (1, 0, 0), 0, 0, []) else TN) else (bif Nat.beq pc 2 then (.bipush 12, 4, (0, 0, 0), 12, 0, []) else TN))) else (bif Nat.blt pc 10 then (bif Nat.blt pc 7 then (bif Nat.beq pc 4 then (.invokestatic 28, 7, (1001, 0, 0), 0, 0, []) else TN) else (bif Nat.beq pc 7 then (.putfield 44, 10, (6, 5, 0), 0, 0, []) else TN)) else (bif Nat.blt pc 11 then (bif Nat.beq pc 10 then (.aload_n 0, 11, (0, 0, 0), 0, 0, []) else TN) else (bif Nat.beq pc 11 then (.iload_n 2, 12, (2, 0, 0), 0, 0, []) else TN)))) else (bif Nat.blt pc 20 then (bif Nat.blt pc 16 then (bif Nat.blt pc 15 then (bif Nat.beq pc 12 then (.putfield 47, 15, (6, 6, 0), 0, 0, []) else TN) else (bif Nat.beq pc 15 then (.aload_n 0, 16, (0, 0, 0), 0, 0, []) else TN)) else (bif Nat.blt pc 17 then (bif Nat.beq pc 16 then (.iload_n 3, 17, (3, 0, 0), 0, 0, []) else TN) else (bif Nat.beq pc 17 then (.putfield 50, 20, (6, 7, 0), 0, 0, []) else TN))) else (bif Nat.blt pc 22 then (bif Nat.blt pc 21 then (bif Nat.beq pc 20 then (.aload_n 0, 21, (0, 0, 0), 0, 0, []) else TN) else (bif Nat.beq pc 21 then (.iconst 0, 22, (0, 0, 0), 0, 0, []) else TN)) else (bif Nat.blt pc 25 then (bif Nat.beq pc 22 then (.putfield 53, 25, (6, 8, 0), 0, 0, []) else TN) else (bif Nat.beq pc 25 then (.aload_n 0, 26, (0, 0, 0), 0, 0, []) else TN))))) else (bif Nat.blt pc 38 then (bif Nat.blt pc 31 then (bif Nat.blt pc 27 then (bif Nat.beq pc 26 then (.iconst 0, 27, (0, 0, 0), 0, 0, []) else TN) else (bif Nat.blt pc 30 then (bif Nat.beq pc 27 then (.putfield 56, 30, (6, 9, 0), 0, 0, []) else TN) else (bif Nat.beq pc 30 then (.aload_n 0, 31, (0, 0, 0), 0, 0, []) else TN))) else (bif Nat.blt pc 36 then (bif Nat.blt pc 34 then (bif Nat.beq pc 31 then (.getfield 19, 34, (6, 4, 0), 0, 0, []) else TN) else (bif Nat.beq pc 34 then (.bipush 12, 36, (0, 0, 0), 12, 0, []) else TN)) else (bif Nat.blt pc 37 then (bif Nat.beq pc 36 then (.iconst 0, 37, (0, 0, 0), 0, 0, []) else TN) else (bif Nat.beq pc 37 then (.iastore, 38, (0, 0, 0), 0, 0, []) else TN)))) else (bif Nat.blt pc 47 then (bif Nat.blt pc 42 then (bif Nat.blt pc 40 then (bif Nat.beq pc 38 then (.bipush 11, 40, (0, 0, 0), 11, 0, []) else TN) else (bif Nat.beq pc 40 then (.istore 4, 42, (4, 0, 0), 0, 0, []) else TN)) else (bif Nat.blt pc 44 then (bif Nat.beq pc 42 then (.iload 4, 44, (4, 0, 0), 0, 0, []) else TN) else (bif Nat.beq pc 44 then (.ifCond .lt 46, 47, (90, 0, 0), 0, 0, []) else TN))) else (bif Nat.blt pc 51 then (bif Nat.blt pc 48 then (bif Nat.beq pc 47 then (.aload_n 0, 48, (0, 0, 0), 0, 0, []) else TN) else (bif Nat.beq pc 48 then (.getfield 19, 51, (6, 4, 0), 0, 0, []) else TN)) else (bif Nat.blt pc 53 then (bif Nat.beq pc 51 then (.iload 4, 53, (4, 0, 0), 0, 0, []) else TN) else (bif Nat.beq pc 53 then (.iload 4, 55, (4, 0, 0), 0, 0, []) else TN)))))) else (bif Nat.blt pc 82 then (bif Nat.blt pc 69 then (bif Nat.blt pc 62 then (bif Nat.blt pc 56 then (bif Nat.beq pc 55 then (.aload_n 0, 56, (0, 0, 0), 0, 0, []) else TN) else (bif Nat.blt pc 59 then (bif Nat.beq pc 56 then (.getfield 44, 59, (6, 5, 0), 0, 0, []) else TN) else (bif Nat.beq pc 59 then (.if_icmp .ge 23, 62, (82, 0, 0), 0, 0, []) else TN))) else (bif Nat.blt pc 66 then (bif Nat.blt pc 63 then (bif Nat.beq pc 62 then (.aload_n 0, 63, (0, 0, 0), 0, 0, []) else TN) else (bif Nat.beq pc 63 then (.getfield 19, 66, (6, 4, 0), 0, 0, []) else TN)) else (bif Nat.blt pc 68 then (bif Nat.beq pc 66 then (.iload 4, 68, (4, 0, 0), 0, 0, []) else TN) else (bif Nat.beq pc 68 then (.iconst 1, 69, (0, 0, 0), 1, 0, []) else TN)))) else (bif Nat.blt pc 75 then (bif Nat.blt pc 71 then (bif Nat.blt pc 70 then (bif Nat.beq pc 69 then (.iadd, 70, (0, 0, 0), 0, 0, []) else TN) else (bif Nat.beq pc 70 then (.iaload, 71, (0, 0, 0), 0, 0, []) else TN)) else (bif Nat.blt pc 72 then (bif Nat.beq pc 71 then (.aload_n 0, 72, (0, 0, 0), 0, 0, []) else TN) else (bif Nat.beq pc 72 then (.getfield 9, 75, (6, 0, 0), 0, 0, []) else TN))) else (bif Nat.blt pc 78 then (bif Nat.blt pc 77 then (bif Nat.beq pc 75 then (.iload 4, 77, (4, 0, 0), 0, 0, []) else TN) else (bif Nat.beq pc 77 then (.iaload, 78, (0, 0, 0), 0, 0, []) else TN)) else (bif Nat.blt pc 79 then (bif Nat.beq pc 78 then (.iadd, 79, (0, 0, 0), 0, 0, []) else TN) else (bif Nat.beq pc 79 then (.goto 4, 82, (83, 0, 0), 0, 0, []) else TN))))) else (bif Nat.blt pc 93 then (bif Nat.blt pc 87 then (bif Nat.blt pc 83 then (bif Nat.beq pc 82 then (.iconst 0, 83, (0, 0, 0), 0, 0, []) else TN) else (bif Nat.blt pc 84 then (bif Nat.beq pc 83 then (.iastore, 84, (0, 0, 0), 0, 0, []) else TN) else (bif Nat.beq pc 84 then (.iinc 4 (-1), 87, (4, 0, 0), -1, 0, []) else TN))) else (bif Nat.blt pc 91 then (bif Nat.blt pc 90 then (bif Nat.beq pc 87 then (.goto (-45), 90, (42, 0, 0), 0, 0, []) else TN) else (bif Nat.beq pc 90 then (.aload_n 0, 91, (0, 0, 0), 0, 0, []) else TN)) else (bif Nat.blt pc 92 then (bif Nat.beq pc 91 then (.iconst 0, 92, (0, 0, 0), 0, 0, []) else TN) else (bif Nat.beq pc 92 then (.iconst 0, 93, (0, 0, 0), 0, 0, []) else TN)))) else (bif Nat.blt pc 99 then (bif Nat.blt pc 95 then (bif Nat.blt pc 94 then (bif Nat.beq pc 93 then (.iconst 0, 94, (0, 0, 0), 0, 0, []) else TN) else (bif Nat.beq pc 94 then (.aload_n 0, 95, (0, 0, 0), 0, 0, []) else TN)) else (bif Nat.blt pc 98 then (bif Nat.beq pc 95 then (.getfield 13, 98, (6, 1, 0), 0, 0, []) else TN) else (bif Nat.beq pc 98 then (.iconst 0, 99, (0, 0, 0), 0, 0, []) else TN))) else (bif Nat.blt pc 101 then (bif Nat.blt pc 100 then (bif Nat.beq pc 99 then (.iaload, 100, (0, 0, 0), 0, 0, []) else TN) else (bif Nat.beq pc 100 then (.iconst 0, 101, (0, 0, 0), 0, 0, []) else TN)) else (bif Nat.blt pc 104 then (bif Nat.beq pc 101 then (.invokevirtual 59, 104, (248, 5, 6), 0, 0, []) else TN) else (bif Nat.beq pc 104 then (.return_, 105, (0, 0, 0), 0, 0, []) else TN))))))
def tb_X6_make (pc : Nat) : TI := bif Nat.ble 105 pc then TN else tt_X6_make pc
theorem ok_X6_make : tOK 6 (decide ("make" = "<init>")) cX6_make tb_X6_make := tOK_of 105 tn_of (by decide +kernel)
def f_X6_make_83 (c42 : Lay → Sto → Nat → Int32 → Int32 → Option Sto) (L : Lay) (σ : Sto) (a0 : Nat) (a3 : Int32) (a4 : Int32) (s0 : Int32) (s1 : Int32) (s2 : Option Nat) : Option Sto := s2.bind fun x1 => (wI L σ x1 s1 s0).bind fun σ2 => c42 L σ2 a0 a3 (a4 + (-1))
def A_X6_make_83 (c : Lay → Sto → Nat → Int32 → Int32 → Int32 → Int32 → Option Nat → Option Sto) (lc : List (Option AV)) (st : List AV) (L : Lay) (σ : Sto) : Option Sto := match lc, st with
  | [some (.inr (.inr (.inl (ta0, some a0)))), _, _, some (.inl a3), some (.inl a4)], [.inl s0, .inl s1, .inr (.inr (.inl (ts2, s2)))] => bif Nat.beq ta0 6 && (Nat.beq ts2 20 && true) then c L σ a0 a3 a4 s0 s1 s2 else none
  | _, _ => none
def f_X6_make_42 : Nat → Lay → Sto → Nat → Int32 → Int32 → Option Sto
  | 0 => fun _ _ _ _ _ => none
  | k + 1 => fun L σ a0 a3 a4 => (if a4 < 0 then (σ.2.1 a0 1).bind fun x3 => (rI L σ x3 0).bind fun v4 => (f_X6_choose L σ a0 0 0 0 v4 0).bind fun σ5 => some σ5 else (if (σ.1 a0 5) ≤ a4 then (f_X6_make_83 (f_X6_make_42 k)) L σ a0 a3 a4 0 a4 (σ.2.1 a0 4) else (σ.2.1 a0 4).bind fun x6 => (rI L σ x6 (a4 + 1)).bind fun v7 => (σ.2.1 a0 0).bind fun x8 => (rI L σ x8 a4).bind fun v9 => (f_X6_make_83 (f_X6_make_42 k)) L σ a0 a3 a4 (v7 + v9) a4 (σ.2.1 a0 4)))
def A_X6_make_42 (c : Lay → Sto → Nat → Int32 → Int32 → Option Sto) (lc : List (Option AV)) (st : List AV) (L : Lay) (σ : Sto) : Option Sto := match lc, st with
  | [some (.inr (.inr (.inl (ta0, some a0)))), _, _, some (.inl a3), some (.inl a4)], [] => bif Nat.beq ta0 6 && true then c L σ a0 a3 a4 else none
  | _, _ => none
def f_X6_make (L : Lay) (σ : Sto) (a0 : Nat) (a1 : Int32) (a2 : Int32) (a3 : Int32) : Option Sto := (putI σ a0 5 (if 12 < a1 then 12 else a1)).bind fun σ10 => (putI σ10 a0 6 a2).bind fun σ11 => (putI σ11 a0 7 a3).bind fun σ12 => (putI σ12 a0 8 0).bind fun σ13 => (putI σ13 a0 9 0).bind fun σ14 => (σ14.2.1 a0 4).bind fun x15 => (wI L σ14 x15 12 0).bind fun σ16 => (f_X6_make_42 FU) L σ16 a0 a3 11
def ad_X6_make : ADT := fun O L σ as k => match as with
  | [.inr (.inr (.inl (ta0, some a0))), .inl a1, .inl a2, .inl a3] => bif Nat.beq ta0 6 && true then (f_X6_make L σ a0 a1 a2 a3).bind fun σ2 => k none L σ2 else none
  | _ => none
abbrev cl_X6_make {O : Type} : CLT O := (clc 248 ad_X6_choose cl0)
theorem hc_X6_make (G : GT) (l : Launch) {d : Nat} (hd : 104 ≤ d) {O : Type} : HCL G l (true, false) d (cl_X6_make (O := O)) := (hclc (ca_X6_choose G l (d := 103) (Nat.le_refl _)) (fun _ => rfl) (fun e => by cases e) (by omega) hcl0)
theorem rt_X6_make : retOK (6, 0) none := ⟨fun h => absurd h (by decide), fun h => absurd h (by decide), fun _ => rfl⟩
set_option maxRecDepth 20000 in
theorem b_X6_make_83 {G : GT} {l : Launch} {d : Nat} {L0 : Lay} {σ0 : Sto} (hd : 104 ≤ d) {c42 : Lay → Sto → Nat → Int32 → Int32 → Option Sto} (h42 : HF G l 6 "make" cX6_make 5 none d L0 σ0 (true, false) (dcV L0) 42 (A_X6_make_42 c42)) : HF G l 6 "make" cX6_make 5 none d L0 σ0 (true, false) (dcV L0) 83 (A_X6_make_83 (f_X6_make_83 c42)) := by
  intro lc st L σ o h hI
  unfold A_X6_make_83 at h
  split at h
  · obtain ⟨hq0, hA1⟩ := bif_s h
    obtain ⟨e0, hq1⟩ := beq_and hq0
    obtain ⟨e1, hq2⟩ := beq_and hq1
    subst e0
    subst e1
    exact exs (sp := [42]) (K := (kc 42 (A_X6_make_42 c42) k0)) ok_X6_make rt_X6_make (by omega) (hc_X6_make G l hd) (hrV rfl) (hkc h42 hk0) 63 hA1 hI
  · cases h
set_option maxRecDepth 20000 in
theorem b_X6_make_42 {G : GT} {l : Launch} {d : Nat} {L0 : Lay} {σ0 : Sto} (hd : 104 ≤ d) : ∀ k : Nat, HF G l 6 "make" cX6_make 5 none d L0 σ0 (true, false) (dcV L0) 42 (A_X6_make_42 (f_X6_make_42 k))
  | 0 => by
    intro lc st L σ o h hI
    unfold A_X6_make_42 at h
    split at h
    · obtain ⟨_, hA1⟩ := bif_s h
      cases hA1
    · cases h
  | k + 1 => by
    have ih := b_X6_make_42 (G := G) (l := l) (d := d) (L0 := L0) (σ0 := σ0) hd k
    intro lc st L σ o h hI
    unfold A_X6_make_42 at h
    split at h
    · obtain ⟨hq0, hA1⟩ := bif_s h
      obtain ⟨e0, hq1⟩ := beq_and hq0
      subst e0
      exact exs (sp := [83]) (K := (kc 83 (A_X6_make_83 (f_X6_make_83 (f_X6_make_42 k))) k0)) ok_X6_make rt_X6_make (by omega) (hc_X6_make G l hd) (hrV rfl) (hkc (b_X6_make_83 hd ih) hk0) 63 hA1 hI
    · cases h
set_option maxRecDepth 20000 in
theorem ca_X6_make (G : GT) (l : Launch) {d : Nat} (hd : 104 ≤ d) : CA G l 253 (true, false) d ad_X6_make := by
  intro O L σ as k o h hW hok
  unfold ad_X6_make at h
  split at h
  · obtain ⟨hq0, hA0⟩ := bif_s h
    obtain ⟨e0, hq1⟩ := beq_and hq0
    subst e0
    obtain ⟨r, hr, hk⟩ := Option.bind_eq_some_iff.mp hA0
    exact ca_of (q := (dcV L) r) (by decide) rfl (Nat.le_of_ble_eq_true rfl) hk (fun _ => rfl) (fun e => by cases e) (exs (sp := [42]) (K := (kc 42 (A_X6_make_42 (f_X6_make_42 FU)) k0)) (L0 := L) (σ0 := σ) ok_X6_make rt_X6_make (by omega) (hc_X6_make G l hd) (hrV rfl) (hkc (b_X6_make_42 hd FU) hk0) 63 hr (inv0 hW hok))
  · cases h
def tt_X11_makePlan (pc : Nat) : TI := bif Nat.blt pc 42 then (bif Nat.blt pc 20 then (bif Nat.blt pc 7 then (bif Nat.blt pc 2 then (bif Nat.blt pc 1 then (bif Nat.beq pc 0 then (.aload_n 0, 1, (0, 0, 0), 0, 0, []) else TN) else (bif Nat.beq pc 1 then (.iload_n 1, 2, (1, 0, 0), 0, 0, []) else TN)) else (bif Nat.blt pc 5 then (bif Nat.beq pc 2 then (.invokevirtual 218, 5, (61, 1, 11), 0, 0, []) else TN) else (bif Nat.blt pc 6 then (bif Nat.beq pc 5 then (.astore_n 3, 6, (3, 0, 0), 0, 0, []) else TN) else (bif Nat.beq pc 6 then (.aload_n 3, 7, (3, 0, 0), 0, 0, []) else TN)))) else (bif Nat.blt pc 12 then (bif Nat.blt pc 10 then (bif Nat.beq pc 7 then (.ifnull 13, 10, (20, 0, 0), 0, 0, []) else TN) else (bif Nat.blt pc 11 then (bif Nat.beq pc 10 then (.iload_n 2, 11, (2, 0, 0), 0, 0, []) else TN) else (bif Nat.beq pc 11 then (.iconst 1, 12, (0, 0, 0), 1, 0, []) else TN))) else (bif Nat.blt pc 14 then (bif Nat.beq pc 12 then (.bipush 12, 14, (0, 0, 0), 12, 0, []) else TN) else (bif Nat.blt pc 17 then (bif Nat.beq pc 14 then (.invokestatic 115, 17, (83, 3, 0), 0, 0, []) else TN) else (bif Nat.beq pc 17 then (.ifCond .ne 5, 20, (22, 0, 0), 0, 0, []) else TN))))) else (bif Nat.blt pc 30 then (bif Nat.blt pc 23 then (bif Nat.blt pc 21 then (bif Nat.beq pc 20 then (.iconst 0, 21, (0, 0, 0), 0, 0, []) else TN) else (bif Nat.blt pc 22 then (bif Nat.beq pc 21 then (.ireturn, 22, (0, 0, 0), 0, 0, []) else TN) else (bif Nat.beq pc 22 then (.aload_n 0, 23, (0, 0, 0), 0, 0, []) else TN))) else (bif Nat.blt pc 26 then (bif Nat.beq pc 23 then (.getfield 12, 26, (11, 0, 0), 0, 0, []) else TN) else (bif Nat.blt pc 27 then (bif Nat.beq pc 26 then (.aload_n 3, 27, (3, 0, 0), 0, 0, []) else TN) else (bif Nat.beq pc 27 then (.getfield 267, 30, (0, 1, 1), 0, 0, []) else TN)))) else (bif Nat.blt pc 37 then (bif Nat.blt pc 31 then (bif Nat.beq pc 30 then (.aload_n 0, 31, (0, 0, 0), 0, 0, []) else TN) else (bif Nat.blt pc 34 then (bif Nat.beq pc 31 then (.getfield 73, 34, (11, 12, 0), 0, 0, []) else TN) else (bif Nat.beq pc 34 then (.getfield 273, 37, (6, 1, 1), 0, 0, []) else TN))) else (bif Nat.blt pc 38 then (bif Nat.beq pc 37 then (.iconst 1, 38, (0, 0, 0), 1, 0, []) else TN) else (bif Nat.blt pc 39 then (bif Nat.beq pc 38 then (.iaload, 39, (0, 0, 0), 0, 0, []) else TN) else (bif Nat.beq pc 39 then (.invokevirtual 392, 42, (56, 2, 10), 0, 0, []) else TN)))))) else (bif Nat.blt pc 66 then (bif Nat.blt pc 52 then (bif Nat.blt pc 45 then (bif Nat.blt pc 44 then (bif Nat.beq pc 42 then (.istore 4, 44, (4, 0, 0), 0, 0, []) else TN) else (bif Nat.beq pc 44 then (.aload_n 0, 45, (0, 0, 0), 0, 0, []) else TN)) else (bif Nat.blt pc 48 then (bif Nat.beq pc 45 then (.getfield 12, 48, (11, 0, 0), 0, 0, []) else TN) else (bif Nat.blt pc 49 then (bif Nat.beq pc 48 then (.aload_n 3, 49, (3, 0, 0), 0, 0, []) else TN) else (bif Nat.beq pc 49 then (.getfield 267, 52, (0, 1, 1), 0, 0, []) else TN)))) else (bif Nat.blt pc 59 then (bif Nat.blt pc 55 then (bif Nat.beq pc 52 then (.invokevirtual 434, 55, (57, 1, 10), 0, 0, []) else TN) else (bif Nat.blt pc 58 then (bif Nat.beq pc 55 then (.ifCond .eq 7, 58, (62, 0, 0), 0, 0, []) else TN) else (bif Nat.beq pc 58 then (.iconst 1, 59, (0, 0, 0), 1, 0, []) else TN))) else (bif Nat.blt pc 62 then (bif Nat.beq pc 59 then (.goto 12, 62, (71, 0, 0), 0, 0, []) else TN) else (bif Nat.blt pc 63 then (bif Nat.beq pc 62 then (.aload_n 0, 63, (0, 0, 0), 0, 0, []) else TN) else (bif Nat.beq pc 63 then (.getfield 73, 66, (11, 12, 0), 0, 0, []) else TN))))) else (bif Nat.blt pc 77 then (bif Nat.blt pc 71 then (bif Nat.blt pc 69 then (bif Nat.beq pc 66 then (.getfield 273, 69, (6, 1, 1), 0, 0, []) else TN) else (bif Nat.blt pc 70 then (bif Nat.beq pc 69 then (.iconst 3, 70, (0, 0, 0), 3, 0, []) else TN) else (bif Nat.beq pc 70 then (.iaload, 71, (0, 0, 0), 0, 0, []) else TN))) else (bif Nat.blt pc 73 then (bif Nat.beq pc 71 then (.istore 5, 73, (5, 0, 0), 0, 0, []) else TN) else (bif Nat.blt pc 74 then (bif Nat.beq pc 73 then (.aload_n 0, 74, (0, 0, 0), 0, 0, []) else TN) else (bif Nat.beq pc 74 then (.getfield 73, 77, (11, 12, 0), 0, 0, []) else TN)))) else (bif Nat.blt pc 82 then (bif Nat.blt pc 78 then (bif Nat.beq pc 77 then (.iload_n 2, 78, (2, 0, 0), 0, 0, []) else TN) else (bif Nat.blt pc 80 then (bif Nat.beq pc 78 then (.iload 4, 80, (4, 0, 0), 0, 0, []) else TN) else (bif Nat.beq pc 80 then (.iload 5, 82, (5, 0, 0), 0, 0, []) else TN))) else (bif Nat.blt pc 85 then (bif Nat.beq pc 82 then (.invokevirtual 437, 85, (253, 3, 6), 0, 0, []) else TN) else (bif Nat.blt pc 86 then (bif Nat.beq pc 85 then (.iconst 1, 86, (0, 0, 0), 1, 0, []) else TN) else (bif Nat.beq pc 86 then (.ireturn, 87, (0, 0, 0), 0, 0, []) else TN))))))
def tb_X11_makePlan (pc : Nat) : TI := bif Nat.ble 87 pc then TN else tt_X11_makePlan pc
theorem ok_X11_makePlan : tOK 11 (decide ("makePlan" = "<init>")) cX11_makePlan tb_X11_makePlan := tOK_of 87 tn_of (by decide +kernel)
def f_X11_makePlan_71 (L : Lay) (σ : Sto) (a0 : Nat) (a2 : Int32) (a4 : Int32) (s0 : Int32) : Option (Int32 × Sto) := (σ.2.1 a0 12).bind fun x1 => (f_X6_make L σ x1 a2 a4 s0).bind fun σ2 => (ckN 1 1).bind fun _ => some (1, σ2)
def A_X11_makePlan_71 (c : Lay → Sto → Nat → Int32 → Int32 → Int32 → Option (Int32 × Sto)) (lc : List (Option AV)) (st : List AV) (L : Lay) (σ : Sto) : Option (Int32 × Sto) := match lc, st with
  | [some (.inr (.inr (.inl (ta0, some a0)))), _, some (.inl a2), _, some (.inl a4), _], [.inl s0] => bif Nat.beq ta0 11 && true then c L σ a0 a2 a4 s0 else none
  | _, _ => none
def f_X11_makePlan (L : Lay) (σ : Sto) (a0 : Nat) (a1 : Int32) (a2 : Int32) : Option (Int32 × Sto) := (f_X11_ballotAt L σ a0 a1).bind fun o3 => (Option.elim o3 ((ckN 1 0).bind fun _ => some (0, σ)) (fun _ => (f_X11_isWithin L σ a2 1 12).bind fun r4 => (if r4 = 0 then (ckN 1 0).bind fun _ => some (0, σ) else o3.bind fun x5 => (σ.2.1 a0 12).bind fun x6 => (σ.2.1 x6 1).bind fun x7 => (rI L σ x7 1).bind fun v8 => (σ.2.1 a0 0).bind fun x9 => (f_X10_strikePay L σ x9 (σ.1 x5 1) v8).bind fun r10 => o3.bind fun x11 => (σ.2.1 a0 0).bind fun x12 => (f_X10_strikesVital L σ x12 (σ.1 x11 1)).bind fun r13 => (if r13 = 0 then (σ.2.1 a0 12).bind fun x14 => (σ.2.1 x14 1).bind fun x15 => (rI L σ x15 3).bind fun v16 => (f_X11_makePlan_71) L σ a0 a2 r10 v16 else (f_X11_makePlan_71) L σ a0 a2 r10 1))))
def ad_X11_makePlan : ADT := fun O L σ as k => match as with
  | [.inr (.inr (.inl (ta0, some a0))), .inl a1, .inl a2] => bif Nat.beq ta0 11 && true then (f_X11_makePlan L σ a0 a1 a2).bind fun r => k (some (vI r.1)) L r.2 else none
  | _ => none
abbrev cl_X11_makePlan {O : Type} : CLT O := (clc 253 ad_X6_make (clc 61 ad_X11_ballotAt (clc 83 ad_X11_isWithin (clc 56 ad_X10_strikePay (clc 57 ad_X10_strikesVital cl0)))))
theorem hc_X11_makePlan (G : GT) (l : Launch) {d : Nat} (hd : 105 ≤ d) {O : Type} : HCL G l (true, false) d (cl_X11_makePlan (O := O)) := (hclc (ca_X6_make G l (d := 104) (Nat.le_refl _)) (fun _ => rfl) (fun e => by cases e) (by omega) (hclc (ca_X11_ballotAt G l (d := 2) (Nat.le_refl _)) (fun _ => rfl) (fun e => by cases e) (by omega) (hclc (ca_X11_isWithin G l (d := 1) (Nat.le_refl _)) (fun _ => rfl) (fun e => by cases e) (by omega) (hclc (ca_X10_strikePay G l (d := 5) (Nat.le_refl _)) (fun _ => rfl) (fun e => by cases e) (by omega) (hclc (ca_X10_strikesVital G l (d := 5) (Nat.le_refl _)) (fun _ => rfl) (fun e => by cases e) (by omega) hcl0)))))
theorem rt_X11_makePlan : retOK (1, 0) (some .boolean) := ⟨fun _ => rfl, fun h => absurd h (by decide), fun h => absurd h (by decide)⟩
set_option maxRecDepth 20000 in
theorem b_X11_makePlan_71 {G : GT} {l : Launch} {d : Nat} {L0 : Lay} {σ0 : Sto} (hd : 105 ≤ d) : HF G l 11 "makePlan" cX11_makePlan 6 (some .boolean) d L0 σ0 (true, false) (dcI L0) 71 (A_X11_makePlan_71 f_X11_makePlan_71) := by
  intro lc st L σ o h hI
  unfold A_X11_makePlan_71 at h
  split at h
  · obtain ⟨hq0, hA1⟩ := bif_s h
    obtain ⟨e0, hq1⟩ := beq_and hq0
    subst e0
    exact exs (sp := []) (K := k0) ok_X11_makePlan rt_X11_makePlan (by omega) (hc_X11_makePlan G l hd) (hrI rfl) hk0 49 hA1 hI
  · cases h
set_option maxRecDepth 20000 in
theorem ca_X11_makePlan (G : GT) (l : Launch) {d : Nat} (hd : 105 ≤ d) : CA G l 91 (true, false) d ad_X11_makePlan := by
  intro O L σ as k o h hW hok
  unfold ad_X11_makePlan at h
  split at h
  · obtain ⟨hq0, hA0⟩ := bif_s h
    obtain ⟨e0, hq1⟩ := beq_and hq0
    subst e0
    obtain ⟨r, hr, hk⟩ := Option.bind_eq_some_iff.mp hA0
    exact ca_of (q := (dcI L) r) (by decide) rfl (Nat.le_of_ble_eq_true rfl) hk (fun _ => rfl) (fun e => by cases e) (exs (sp := [71]) (K := (kc 71 (A_X11_makePlan_71 (f_X11_makePlan_71)) k0)) (L0 := L) (σ0 := σ) ok_X11_makePlan rt_X11_makePlan (by omega) (hc_X11_makePlan G l hd) (hrI rfl) (hkc (b_X11_makePlan_71 hd) hk0) 49 hr (inv0 hW hok))
  · cases h
def tt_X6_isTold (pc : Nat) : TI := bif Nat.blt pc 15 then (bif Nat.blt pc 6 then (bif Nat.blt pc 2 then (bif Nat.blt pc 1 then (bif Nat.beq pc 0 then (.iload_n 1, 1, (1, 0, 0), 0, 0, []) else TN) else (bif Nat.beq pc 1 then (.iload_n 3, 2, (3, 0, 0), 0, 0, []) else TN)) else (bif Nat.blt pc 5 then (bif Nat.beq pc 2 then (.if_icmp .ge 23, 5, (25, 0, 0), 0, 0, []) else TN) else (bif Nat.beq pc 5 then (.iload_n 1, 6, (1, 0, 0), 0, 0, []) else TN))) else (bif Nat.blt pc 11 then (bif Nat.blt pc 8 then (bif Nat.beq pc 6 then (.bipush 30, 8, (0, 0, 0), 30, 0, []) else TN) else (bif Nat.beq pc 8 then (.if_icmp .ge 17, 11, (25, 0, 0), 0, 0, []) else TN)) else (bif Nat.blt pc 12 then (bif Nat.beq pc 11 then (.aload_n 0, 12, (0, 0, 0), 0, 0, []) else TN) else (bif Nat.beq pc 12 then (.getfield 16, 15, (6, 2, 0), 0, 0, []) else TN)))) else (bif Nat.blt pc 21 then (bif Nat.blt pc 17 then (bif Nat.blt pc 16 then (bif Nat.beq pc 15 then (.iload_n 1, 16, (1, 0, 0), 0, 0, []) else TN) else (bif Nat.beq pc 16 then (.iaload, 17, (0, 0, 0), 0, 0, []) else TN)) else (bif Nat.blt pc 18 then (bif Nat.beq pc 17 then (.iload_n 2, 18, (2, 0, 0), 0, 0, []) else TN) else (bif Nat.beq pc 18 then (.if_icmp .ne 7, 21, (25, 0, 0), 0, 0, []) else TN))) else (bif Nat.blt pc 25 then (bif Nat.blt pc 22 then (bif Nat.beq pc 21 then (.iconst 1, 22, (0, 0, 0), 1, 0, []) else TN) else (bif Nat.beq pc 22 then (.goto 4, 25, (26, 0, 0), 0, 0, []) else TN)) else (bif Nat.blt pc 26 then (bif Nat.beq pc 25 then (.iconst 0, 26, (0, 0, 0), 0, 0, []) else TN) else (bif Nat.beq pc 26 then (.ireturn, 27, (0, 0, 0), 0, 0, []) else TN))))
def tb_X6_isTold (pc : Nat) : TI := bif Nat.ble 27 pc then TN else tt_X6_isTold pc
theorem ok_X6_isTold : tOK 6 (decide ("isTold" = "<init>")) cX6_isTold tb_X6_isTold := tOK_of 27 tn_of (by decide +kernel)
def f_X6_isTold (L : Lay) (σ : Sto) (a0 : Nat) (a1 : Int32) (a2 : Int32) (a3 : Int32) : Option Int32 := (if a3 ≤ a1 then (ckN 1 0).bind fun _ => some 0 else (if 30 ≤ a1 then (ckN 1 0).bind fun _ => some 0 else (σ.2.1 a0 2).bind fun x1 => (rI L σ x1 a1).bind fun v2 => (if v2 = a2 then (ckN 1 1).bind fun _ => some 1 else (ckN 1 0).bind fun _ => some 0)))
def ad_X6_isTold : ADT := fun O L σ as k => match as with
  | [.inr (.inr (.inl (ta0, some a0))), .inl a1, .inl a2, .inl a3] => bif Nat.beq ta0 6 && true then (f_X6_isTold L σ a0 a1 a2 a3).bind fun r => k (some (vI r)) L σ else none
  | _ => none
abbrev cl_X6_isTold {O : Type} : CLT O := cl0
theorem hc_X6_isTold (G : GT) (l : Launch) {d : Nat} (hd : 1 ≤ d) {O : Type} : HCL G l (true, true) d (cl_X6_isTold (O := O)) := hcl0
theorem rt_X6_isTold : retOK (1, 0) (some .boolean) := ⟨fun _ => rfl, fun h => absurd h (by decide), fun h => absurd h (by decide)⟩
set_option maxRecDepth 20000 in
theorem ca_X6_isTold (G : GT) (l : Launch) {d : Nat} (hd : 1 ≤ d) : CA G l 251 (true, true) d ad_X6_isTold := by
  intro O L σ as k o h hW hok
  unfold ad_X6_isTold at h
  split at h
  · obtain ⟨hq0, hA0⟩ := bif_s h
    obtain ⟨e0, hq1⟩ := beq_and hq0
    subst e0
    obtain ⟨r, hr, hk⟩ := Option.bind_eq_some_iff.mp hA0
    exact ca_of (q := (dcPI L σ) r) (by decide) rfl (Nat.le_of_ble_eq_true rfl) hk (fun _ => rfl) (fun _ => rfl) (exs (sp := []) (K := k0) (L0 := L) (σ0 := σ) ok_X6_isTold rt_X6_isTold (by omega) (hc_X6_isTold G l hd) (hrPI rfl rfl) hk0 19 hr (inv0 hW hok))
  · cases h
