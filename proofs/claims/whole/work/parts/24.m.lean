def tt_X11_lawFor (pc : Nat) : TI := bif Nat.blt pc 10 then (bif Nat.blt pc 5 then (bif Nat.blt pc 1 then (bif Nat.beq pc 0 then (.aload_n 1, 1, (1, 0, 0), 0, 0, []) else TN) else (bif Nat.blt pc 2 then (bif Nat.beq pc 1 then (.aload_n 0, 2, (0, 0, 0), 0, 0, []) else TN) else (bif Nat.beq pc 2 then (.getfield 60, 5, (11, 9, 0), 0, 0, []) else TN))) else (bif Nat.blt pc 6 then (bif Nat.beq pc 5 then (.iload_n 3, 6, (3, 0, 0), 0, 0, []) else TN) else (bif Nat.blt pc 9 then (bif Nat.beq pc 6 then (.invokevirtual 259, 9, (43, 2, 0), 0, 0, []) else TN) else (bif Nat.beq pc 9 then (.aload_n 0, 10, (0, 0, 0), 0, 0, []) else TN)))) else (bif Nat.blt pc 15 then (bif Nat.blt pc 13 then (bif Nat.beq pc 10 then (.getfield 50, 13, (11, 6, 0), 0, 0, []) else TN) else (bif Nat.blt pc 14 then (bif Nat.beq pc 13 then (.iload_n 2, 14, (2, 0, 0), 0, 0, []) else TN) else (bif Nat.beq pc 14 then (.aload_n 0, 15, (0, 0, 0), 0, 0, []) else TN))) else (bif Nat.blt pc 18 then (bif Nat.beq pc 15 then (.getfield 60, 18, (11, 9, 0), 0, 0, []) else TN) else (bif Nat.blt pc 21 then (bif Nat.beq pc 18 then (.invokevirtual 329, 21, (228, 2, 1), 0, 0, []) else TN) else (bif Nat.beq pc 21 then (.ireturn, 22, (0, 0, 0), 0, 0, []) else TN))))
def tb_X11_lawFor (pc : Nat) : TI := bif Nat.ble 22 pc then TN else tt_X11_lawFor pc
theorem ok_X11_lawFor : tOK 11 (decide ("lawFor" = "<init>")) cX11_lawFor tb_X11_lawFor := tOK_of 22 tn_of (by decide +kernel)
def f_X11_lawFor (L : Lay) (σ : Sto) (a0 : Nat) (a1 : Option Nat) (a2 : Int32) (a3 : Int32) : Option (Int32 × Sto) := a1.bind fun x1 => (f_X0_tellNames L σ x1 (σ.2.1 a0 9) a3).bind fun σ2 => (σ2.2.1 a0 6).bind fun x3 => (f_X1_valueOf L σ2 x3 a2 (σ2.2.1 a0 9)).bind fun r4 => some (r4.1, r4.2)
def ad_X11_lawFor : ADT := fun O L σ as k => match as with
  | [.inr (.inr (.inl (ta0, some a0))), .inr (.inr (.inl (ta1, a1))), .inl a2, .inl a3] => bif Nat.beq ta0 11 && (Nat.beq ta1 0 && true) then (f_X11_lawFor L σ a0 a1 a2 a3).bind fun r => k (some (vI r.1)) L r.2 else none
  | _ => none
abbrev cl_X11_lawFor {O : Type} : CLT O := (clc 43 ad_X0_tellNames (clc 228 ad_X1_valueOf cl0))
theorem hc_X11_lawFor (G : GT) (l : Launch) {d : Nat} (hd : 6 ≤ d) {O : Type} : HCL G l (true, false) d (cl_X11_lawFor (O := O)) := (hclc (ca_X0_tellNames G l (d := 5) (Nat.le_refl _)) (fun _ => rfl) (fun e => by cases e) (by omega) (hclc (ca_X1_valueOf G l (d := 4) (Nat.le_refl _)) (fun _ => rfl) (fun e => by cases e) (by omega) hcl0))
theorem rt_X11_lawFor : retOK (0, 0) (some .int) := ⟨fun _ => rfl, fun h => absurd h (by decide), fun h => absurd h (by decide)⟩
set_option maxRecDepth 20000 in
theorem ca_X11_lawFor (G : GT) (l : Launch) {d : Nat} (hd : 6 ≤ d) : CA G l 86 (true, false) d ad_X11_lawFor := by
  intro O L σ as k o h hW hok
  unfold ad_X11_lawFor at h
  split at h
  · obtain ⟨hq0, hA0⟩ := bif_s h
    obtain ⟨e0, hq1⟩ := beq_and hq0
    obtain ⟨e1, hq2⟩ := beq_and hq1
    subst e0
    subst e1
    obtain ⟨r, hr, hk⟩ := Option.bind_eq_some_iff.mp hA0
    exact ca_of (q := (dcI L) r) (by decide) rfl (Nat.le_of_ble_eq_true rfl) hk (fun _ => rfl) (fun e => by cases e) (exs (sp := []) (K := k0) (L0 := L) (σ0 := σ) ok_X11_lawFor rt_X11_lawFor (by omega) (hc_X11_lawFor G l hd) (hrI rfl) hk0 15 hr (inv0 hW hok))
  · cases h
def tt_X11_cure (pc : Nat) : TI := bif Nat.blt pc 60 then (bif Nat.blt pc 24 then (bif Nat.blt pc 12 then (bif Nat.blt pc 5 then (bif Nat.blt pc 1 then (bif Nat.beq pc 0 then (.aload_n 0, 1, (0, 0, 0), 0, 0, []) else TN) else (bif Nat.blt pc 2 then (bif Nat.beq pc 1 then (.iload_n 1, 2, (1, 0, 0), 0, 0, []) else TN) else (bif Nat.beq pc 2 then (.invokevirtual 218, 5, (61, 1, 11), 0, 0, []) else TN))) else (bif Nat.blt pc 7 then (bif Nat.blt pc 6 then (bif Nat.beq pc 5 then (.astore_n 2, 6, (2, 0, 0), 0, 0, []) else TN) else (bif Nat.beq pc 6 then (.aload_n 2, 7, (2, 0, 0), 0, 0, []) else TN)) else (bif Nat.blt pc 10 then (bif Nat.beq pc 7 then (.ifnonnull 6, 10, (13, 0, 0), 0, 0, []) else TN) else (bif Nat.beq pc 10 then (.ldc 91, 12, (0, 0, 0), -1000000001, 0, []) else TN)))) else (bif Nat.blt pc 20 then (bif Nat.blt pc 14 then (bif Nat.blt pc 13 then (bif Nat.beq pc 12 then (.ireturn, 13, (0, 0, 0), 0, 0, []) else TN) else (bif Nat.beq pc 13 then (.aload_n 0, 14, (0, 0, 0), 0, 0, []) else TN)) else (bif Nat.blt pc 17 then (bif Nat.beq pc 14 then (.getfield 308, 17, (11, 8, 0), 0, 0, []) else TN) else (bif Nat.beq pc 17 then (.ifCond .eq 19, 20, (36, 0, 0), 0, 0, []) else TN))) else (bif Nat.blt pc 22 then (bif Nat.blt pc 21 then (bif Nat.beq pc 20 then (.aload_n 0, 21, (0, 0, 0), 0, 0, []) else TN) else (bif Nat.beq pc 21 then (.aload_n 2, 22, (2, 0, 0), 0, 0, []) else TN)) else (bif Nat.blt pc 23 then (bif Nat.beq pc 22 then (.iconst 0, 23, (0, 0, 0), 0, 0, []) else TN) else (bif Nat.beq pc 23 then (.aload_n 0, 24, (0, 0, 0), 0, 0, []) else TN))))) else (bif Nat.blt pc 43 then (bif Nat.blt pc 36 then (bif Nat.blt pc 30 then (bif Nat.blt pc 27 then (bif Nat.beq pc 24 then (.getfield 12, 27, (11, 0, 0), 0, 0, []) else TN) else (bif Nat.beq pc 27 then (.getfield 124, 30, (10, 4, 1), 0, 0, []) else TN)) else (bif Nat.blt pc 33 then (bif Nat.beq pc 30 then (.invokevirtual 315, 33, (86, 3, 11), 0, 0, []) else TN) else (bif Nat.beq pc 33 then (.ifCond .eq 6, 36, (39, 0, 0), 0, 0, []) else TN))) else (bif Nat.blt pc 39 then (bif Nat.blt pc 38 then (bif Nat.beq pc 36 then (.ldc 146, 38, (0, 0, 0), -1000000002, 0, []) else TN) else (bif Nat.beq pc 38 then (.ireturn, 39, (0, 0, 0), 0, 0, []) else TN)) else (bif Nat.blt pc 40 then (bif Nat.beq pc 39 then (.aload_n 0, 40, (0, 0, 0), 0, 0, []) else TN) else (bif Nat.beq pc 40 then (.getfield 60, 43, (11, 9, 0), 0, 0, []) else TN)))) else (bif Nat.blt pc 50 then (bif Nat.blt pc 48 then (bif Nat.blt pc 45 then (bif Nat.beq pc 43 then (.bipush 112, 45, (0, 0, 0), 112, 0, []) else TN) else (bif Nat.beq pc 45 then (.invokevirtual 263, 48, (241, 1, 3), 0, 0, []) else TN)) else (bif Nat.blt pc 49 then (bif Nat.beq pc 48 then (.istore_n 3, 49, (3, 0, 0), 0, 0, []) else TN) else (bif Nat.beq pc 49 then (.aload_n 0, 50, (0, 0, 0), 0, 0, []) else TN))) else (bif Nat.blt pc 55 then (bif Nat.blt pc 53 then (bif Nat.beq pc 50 then (.getfield 60, 53, (11, 9, 0), 0, 0, []) else TN) else (bif Nat.beq pc 53 then (.bipush 109, 55, (0, 0, 0), 109, 0, []) else TN)) else (bif Nat.blt pc 58 then (bif Nat.beq pc 55 then (.invokevirtual 263, 58, (241, 1, 3), 0, 0, []) else TN) else (bif Nat.beq pc 58 then (.istore 4, 60, (4, 0, 0), 0, 0, []) else TN)))))) else (bif Nat.blt pc 91 then (bif Nat.blt pc 76 then (bif Nat.blt pc 67 then (bif Nat.blt pc 63 then (bif Nat.blt pc 61 then (bif Nat.beq pc 60 then (.iconst 0, 61, (0, 0, 0), 0, 0, []) else TN) else (bif Nat.beq pc 61 then (.istore 5, 63, (5, 0, 0), 0, 0, []) else TN)) else (bif Nat.blt pc 65 then (bif Nat.beq pc 63 then (.iload 5, 65, (5, 0, 0), 0, 0, []) else TN) else (bif Nat.beq pc 65 then (.iload 4, 67, (4, 0, 0), 0, 0, []) else TN))) else (bif Nat.blt pc 71 then (bif Nat.blt pc 70 then (bif Nat.beq pc 67 then (.if_icmp .gt 54, 70, (121, 0, 0), 0, 0, []) else TN) else (bif Nat.beq pc 70 then (.aload_n 0, 71, (0, 0, 0), 0, 0, []) else TN)) else (bif Nat.blt pc 74 then (bif Nat.beq pc 71 then (.getfield 60, 74, (11, 9, 0), 0, 0, []) else TN) else (bif Nat.beq pc 74 then (.bipush 112, 76, (0, 0, 0), 112, 0, []) else TN)))) else (bif Nat.blt pc 83 then (bif Nat.blt pc 79 then (bif Nat.blt pc 77 then (bif Nat.beq pc 76 then (.iload_n 3, 77, (3, 0, 0), 0, 0, []) else TN) else (bif Nat.beq pc 77 then (.iload 5, 79, (5, 0, 0), 0, 0, []) else TN)) else (bif Nat.blt pc 80 then (bif Nat.beq pc 79 then (.iadd, 80, (0, 0, 0), 0, 0, []) else TN) else (bif Nat.beq pc 80 then (.invokevirtual 325, 83, (240, 2, 3), 0, 0, []) else TN))) else (bif Nat.blt pc 87 then (bif Nat.blt pc 84 then (bif Nat.beq pc 83 then (.aload_n 0, 84, (0, 0, 0), 0, 0, []) else TN) else (bif Nat.beq pc 84 then (.getfield 60, 87, (11, 9, 0), 0, 0, []) else TN)) else (bif Nat.blt pc 89 then (bif Nat.beq pc 87 then (.bipush 109, 89, (0, 0, 0), 109, 0, []) else TN) else (bif Nat.beq pc 89 then (.iload 4, 91, (4, 0, 0), 0, 0, []) else TN))))) else (bif Nat.blt pc 106 then (bif Nat.blt pc 98 then (bif Nat.blt pc 94 then (bif Nat.blt pc 93 then (bif Nat.beq pc 91 then (.iload 5, 93, (5, 0, 0), 0, 0, []) else TN) else (bif Nat.beq pc 93 then (.isub, 94, (0, 0, 0), 0, 0, []) else TN)) else (bif Nat.blt pc 97 then (bif Nat.beq pc 94 then (.invokevirtual 325, 97, (240, 2, 3), 0, 0, []) else TN) else (bif Nat.beq pc 97 then (.aload_n 0, 98, (0, 0, 0), 0, 0, []) else TN))) else (bif Nat.blt pc 102 then (bif Nat.blt pc 101 then (bif Nat.beq pc 98 then (.getfield 50, 101, (11, 6, 0), 0, 0, []) else TN) else (bif Nat.beq pc 101 then (.iconst 0, 102, (0, 0, 0), 0, 0, []) else TN)) else (bif Nat.blt pc 103 then (bif Nat.beq pc 102 then (.aload_n 0, 103, (0, 0, 0), 0, 0, []) else TN) else (bif Nat.beq pc 103 then (.getfield 60, 106, (11, 9, 0), 0, 0, []) else TN)))) else (bif Nat.blt pc 115 then (bif Nat.blt pc 112 then (bif Nat.blt pc 109 then (bif Nat.beq pc 106 then (.invokevirtual 329, 109, (228, 2, 1), 0, 0, []) else TN) else (bif Nat.beq pc 109 then (.ifCond .eq 6, 112, (115, 0, 0), 0, 0, []) else TN)) else (bif Nat.blt pc 114 then (bif Nat.beq pc 112 then (.iload 5, 114, (5, 0, 0), 0, 0, []) else TN) else (bif Nat.beq pc 114 then (.ireturn, 115, (0, 0, 0), 0, 0, []) else TN))) else (bif Nat.blt pc 121 then (bif Nat.blt pc 118 then (bif Nat.beq pc 115 then (.iinc 5 1, 118, (5, 0, 0), 1, 0, []) else TN) else (bif Nat.beq pc 118 then (.goto (-55), 121, (63, 0, 0), 0, 0, []) else TN)) else (bif Nat.blt pc 124 then (bif Nat.beq pc 121 then (.ldc_w 283, 124, (0, 0, 0), -1000000005, 0, []) else TN) else (bif Nat.beq pc 124 then (.ireturn, 125, (0, 0, 0), 0, 0, []) else TN))))))
def tb_X11_cure (pc : Nat) : TI := bif Nat.ble 125 pc then TN else tt_X11_cure pc
theorem ok_X11_cure : tOK 11 (decide ("cure" = "<init>")) cX11_cure tb_X11_cure := tOK_of 125 tn_of (by decide +kernel)
def f_X11_cure_63 : Nat → Lay → Sto → Nat → Int32 → Int32 → Int32 → Option (Int32 × Sto)
  | 0 => fun _ _ _ _ _ _ => none
  | k + 1 => fun L σ a0 a3 a4 a5 => (if a4 < a5 then some ((-1000000005), σ) else (σ.2.1 a0 9).bind fun x1 => (f_X3_put L σ x1 112 (a3 + a5)).bind fun σ2 => (σ2.2.1 a0 9).bind fun x3 => (f_X3_put L σ2 x3 109 (a4 - a5)).bind fun σ4 => (σ4.2.1 a0 6).bind fun x5 => (f_X1_valueOf L σ4 x5 0 (σ4.2.1 a0 9)).bind fun r6 => (if r6.1 = 0 then (f_X11_cure_63 k) L r6.2 a0 a3 a4 (a5 + 1) else some (a5, r6.2)))
def A_X11_cure_63 (c : Lay → Sto → Nat → Int32 → Int32 → Int32 → Option (Int32 × Sto)) (lc : List (Option AV)) (st : List AV) (L : Lay) (σ : Sto) : Option (Int32 × Sto) := match lc, st with
  | [some (.inr (.inr (.inl (ta0, some a0)))), _, _, some (.inl a3), some (.inl a4), some (.inl a5)], [] => bif Nat.beq ta0 11 && true then c L σ a0 a3 a4 a5 else none
  | _, _ => none
def f_X11_cure (L : Lay) (σ : Sto) (a0 : Nat) (a1 : Int32) : Option (Int32 × Sto) := (f_X11_ballotAt L σ a0 a1).bind fun o7 => (Option.elim o7 (some ((-1000000001), σ)) (fun _ => (if (σ.1 a0 8) = 0 then some ((-1000000002), σ) else (σ.2.1 a0 0).bind fun x8 => (f_X11_lawFor L σ a0 o7 0 (σ.1 x8 4)).bind fun r9 => (if r9.1 = 0 then (r9.2.2.1 a0 9).bind fun x10 => (f_X3_valueOf L r9.2 x10 112).bind fun r11 => (r9.2.2.1 a0 9).bind fun x12 => (f_X3_valueOf L r9.2 x12 109).bind fun r13 => (f_X11_cure_63 FU) L r9.2 a0 r11 r13 0 else some ((-1000000002), r9.2)))))
def ad_X11_cure : ADT := fun O L σ as k => match as with
  | [.inr (.inr (.inl (ta0, some a0))), .inl a1] => bif Nat.beq ta0 11 && true then (f_X11_cure L σ a0 a1).bind fun r => k (some (vI r.1)) L r.2 else none
  | _ => none
abbrev cl_X11_cure {O : Type} : CLT O := (clc 240 ad_X3_put (clc 228 ad_X1_valueOf (clc 61 ad_X11_ballotAt (clc 86 ad_X11_lawFor (clc 241 ad_X3_valueOf cl0)))))
theorem hc_X11_cure (G : GT) (l : Launch) {d : Nat} (hd : 7 ≤ d) {O : Type} : HCL G l (true, false) d (cl_X11_cure (O := O)) := (hclc (ca_X3_put G l (d := 2) (Nat.le_refl _)) (fun _ => rfl) (fun e => by cases e) (by omega) (hclc (ca_X1_valueOf G l (d := 4) (Nat.le_refl _)) (fun _ => rfl) (fun e => by cases e) (by omega) (hclc (ca_X11_ballotAt G l (d := 2) (Nat.le_refl _)) (fun _ => rfl) (fun e => by cases e) (by omega) (hclc (ca_X11_lawFor G l (d := 6) (Nat.le_refl _)) (fun _ => rfl) (fun e => by cases e) (by omega) (hclc (ca_X3_valueOf G l (d := 2) (Nat.le_refl _)) (fun _ => rfl) (fun e => by cases e) (by omega) hcl0)))))
theorem rt_X11_cure : retOK (0, 0) (some .int) := ⟨fun _ => rfl, fun h => absurd h (by decide), fun h => absurd h (by decide)⟩
set_option maxRecDepth 20000 in
theorem b_X11_cure_63 {G : GT} {l : Launch} {d : Nat} {L0 : Lay} {σ0 : Sto} (hd : 7 ≤ d) : ∀ k : Nat, HF G l 11 "cure" cX11_cure 6 (some .int) d L0 σ0 (true, false) (dcI L0) 63 (A_X11_cure_63 (f_X11_cure_63 k))
  | 0 => by
    intro lc st L σ o h hI
    unfold A_X11_cure_63 at h
    split at h
    · obtain ⟨_, hA1⟩ := bif_s h
      cases hA1
    · cases h
  | k + 1 => by
    have ih := b_X11_cure_63 (G := G) (l := l) (d := d) (L0 := L0) (σ0 := σ0) hd k
    intro lc st L σ o h hI
    unfold A_X11_cure_63 at h
    split at h
    · obtain ⟨hq0, hA1⟩ := bif_s h
      obtain ⟨e0, hq1⟩ := beq_and hq0
      subst e0
      exact exs (sp := [63]) (K := (kc 63 (A_X11_cure_63 (f_X11_cure_63 k)) k0)) ok_X11_cure rt_X11_cure (by omega) (hc_X11_cure G l hd) (hrI rfl) (hkc ih hk0) 66 hA1 hI
    · cases h
set_option maxRecDepth 20000 in
theorem ca_X11_cure (G : GT) (l : Launch) {d : Nat} (hd : 7 ≤ d) : CA G l 68 (true, false) d ad_X11_cure := by
  intro O L σ as k o h hW hok
  unfold ad_X11_cure at h
  split at h
  · obtain ⟨hq0, hA0⟩ := bif_s h
    obtain ⟨e0, hq1⟩ := beq_and hq0
    subst e0
    obtain ⟨r, hr, hk⟩ := Option.bind_eq_some_iff.mp hA0
    exact ca_of (q := (dcI L) r) (by decide) rfl (Nat.le_of_ble_eq_true rfl) hk (fun _ => rfl) (fun e => by cases e) (exs (sp := [63]) (K := (kc 63 (A_X11_cure_63 (f_X11_cure_63 FU)) k0)) (L0 := L) (σ0 := σ) ok_X11_cure rt_X11_cure (by omega) (hc_X11_cure G l hd) (hrI rfl) (hkc (b_X11_cure_63 hd FU) hk0) 66 hr (inv0 hW hok))
  · cases h
def tt_X11_days (pc : Nat) : TI := bif Nat.blt pc 25 then (bif Nat.blt pc 11 then (bif Nat.blt pc 4 then (bif Nat.blt pc 1 then (bif Nat.beq pc 0 then (.iload_n 1, 1, (1, 0, 0), 0, 0, []) else TN) else (bif Nat.blt pc 2 then (bif Nat.beq pc 1 then (.iconst 1, 2, (0, 0, 0), 1, 0, []) else TN) else (bif Nat.beq pc 2 then (.bipush 60, 4, (0, 0, 0), 60, 0, []) else TN))) else (bif Nat.blt pc 7 then (bif Nat.beq pc 4 then (.invokestatic 115, 7, (83, 3, 0), 0, 0, []) else TN) else (bif Nat.blt pc 10 then (bif Nat.beq pc 7 then (.ifCond .eq 18, 10, (25, 0, 0), 0, 0, []) else TN) else (bif Nat.beq pc 10 then (.aload_n 0, 11, (0, 0, 0), 0, 0, []) else TN)))) else (bif Nat.blt pc 18 then (bif Nat.blt pc 14 then (bif Nat.beq pc 11 then (.getfield 12, 14, (11, 0, 0), 0, 0, []) else TN) else (bif Nat.blt pc 17 then (bif Nat.beq pc 14 then (.getfield 124, 17, (10, 4, 1), 0, 0, []) else TN) else (bif Nat.beq pc 17 then (.iload_n 1, 18, (1, 0, 0), 0, 0, []) else TN))) else (bif Nat.blt pc 19 then (bif Nat.beq pc 18 then (.iadd, 19, (0, 0, 0), 0, 0, []) else TN) else (bif Nat.blt pc 22 then (bif Nat.beq pc 19 then (.sipush 400, 22, (0, 0, 0), 400, 0, []) else TN) else (bif Nat.beq pc 22 then (.if_icmp .le 6, 25, (28, 0, 0), 0, 0, []) else TN))))) else (bif Nat.blt pc 36 then (bif Nat.blt pc 29 then (bif Nat.blt pc 27 then (bif Nat.beq pc 25 then (.ldc 91, 27, (0, 0, 0), -1000000001, 0, []) else TN) else (bif Nat.blt pc 28 then (bif Nat.beq pc 27 then (.ireturn, 28, (0, 0, 0), 0, 0, []) else TN) else (bif Nat.beq pc 28 then (.aload_n 0, 29, (0, 0, 0), 0, 0, []) else TN))) else (bif Nat.blt pc 32 then (bif Nat.beq pc 29 then (.getfield 12, 32, (11, 0, 0), 0, 0, []) else TN) else (bif Nat.blt pc 33 then (bif Nat.beq pc 32 then (.dup, 33, (0, 0, 0), 0, 0, []) else TN) else (bif Nat.beq pc 33 then (.getfield 124, 36, (10, 4, 1), 0, 0, []) else TN)))) else (bif Nat.blt pc 41 then (bif Nat.blt pc 37 then (bif Nat.beq pc 36 then (.iload_n 1, 37, (1, 0, 0), 0, 0, []) else TN) else (bif Nat.blt pc 38 then (bif Nat.beq pc 37 then (.iadd, 38, (0, 0, 0), 0, 0, []) else TN) else (bif Nat.beq pc 38 then (.putfield 124, 41, (10, 4, 1), 0, 0, []) else TN))) else (bif Nat.blt pc 45 then (bif Nat.blt pc 42 then (bif Nat.beq pc 41 then (.aload_n 0, 42, (0, 0, 0), 0, 0, []) else TN) else (bif Nat.beq pc 42 then (.getfield 12, 45, (11, 0, 0), 0, 0, []) else TN)) else (bif Nat.blt pc 48 then (bif Nat.beq pc 45 then (.getfield 124, 48, (10, 4, 1), 0, 0, []) else TN) else (bif Nat.beq pc 48 then (.ireturn, 49, (0, 0, 0), 0, 0, []) else TN)))))
def tb_X11_days (pc : Nat) : TI := bif Nat.ble 49 pc then TN else tt_X11_days pc
theorem ok_X11_days : tOK 11 (decide ("days" = "<init>")) cX11_days tb_X11_days := tOK_of 49 tn_of (by decide +kernel)
def f_X11_days (L : Lay) (σ : Sto) (a0 : Nat) (a1 : Int32) : Option (Int32 × Sto) := (f_X11_isWithin L σ a1 1 60).bind fun r1 => (if r1 = 0 then some ((-1000000001), σ) else (σ.2.1 a0 0).bind fun x2 => (if ((σ.1 x2 4) + a1) ≤ 400 then (σ.2.1 a0 0).bind fun x3 => (σ.2.1 a0 0).bind fun x4 => (putI σ x4 4 ((σ.1 x3 4) + a1)).bind fun σ5 => (σ5.2.1 a0 0).bind fun x6 => some ((σ5.1 x6 4), σ5) else some ((-1000000001), σ)))
def ad_X11_days : ADT := fun O L σ as k => match as with
  | [.inr (.inr (.inl (ta0, some a0))), .inl a1] => bif Nat.beq ta0 11 && true then (f_X11_days L σ a0 a1).bind fun r => k (some (vI r.1)) L r.2 else none
  | _ => none
abbrev cl_X11_days {O : Type} : CLT O := (clc 83 ad_X11_isWithin cl0)
theorem hc_X11_days (G : GT) (l : Launch) {d : Nat} (hd : 2 ≤ d) {O : Type} : HCL G l (true, false) d (cl_X11_days (O := O)) := (hclc (ca_X11_isWithin G l (d := 1) (Nat.le_refl _)) (fun _ => rfl) (fun e => by cases e) (by omega) hcl0)
theorem rt_X11_days : retOK (0, 0) (some .int) := ⟨fun _ => rfl, fun h => absurd h (by decide), fun h => absurd h (by decide)⟩
set_option maxRecDepth 20000 in
theorem ca_X11_days (G : GT) (l : Launch) {d : Nat} (hd : 2 ≤ d) : CA G l 70 (true, false) d ad_X11_days := by
  intro O L σ as k o h hW hok
  unfold ad_X11_days at h
  split at h
  · obtain ⟨hq0, hA0⟩ := bif_s h
    obtain ⟨e0, hq1⟩ := beq_and hq0
    subst e0
    obtain ⟨r, hr, hk⟩ := Option.bind_eq_some_iff.mp hA0
    exact ca_of (q := (dcI L) r) (by decide) rfl (Nat.le_of_ble_eq_true rfl) hk (fun _ => rfl) (fun e => by cases e) (exs (sp := []) (K := k0) (L0 := L) (σ0 := σ) ok_X11_days rt_X11_days (by omega) (hc_X11_days G l hd) (hrI rfl) hk0 28 hr (inv0 hW hok))
  · cases h
def tt_X11_docked (pc : Nat) : TI := bif Nat.blt pc 26 then (bif Nat.blt pc 10 then (bif Nat.blt pc 5 then (bif Nat.blt pc 1 then (bif Nat.beq pc 0 then (.aload_n 0, 1, (0, 0, 0), 0, 0, []) else TN) else (bif Nat.blt pc 4 then (bif Nat.beq pc 1 then (.getfield 12, 4, (11, 0, 0), 0, 0, []) else TN) else (bif Nat.beq pc 4 then (.iload_n 1, 5, (1, 0, 0), 0, 0, []) else TN))) else (bif Nat.blt pc 8 then (bif Nat.beq pc 5 then (.invokevirtual 134, 8, (53, 1, 10), 0, 0, []) else TN) else (bif Nat.blt pc 9 then (bif Nat.beq pc 8 then (.astore_n 3, 9, (3, 0, 0), 0, 0, []) else TN) else (bif Nat.beq pc 9 then (.aload_n 3, 10, (3, 0, 0), 0, 0, []) else TN)))) else (bif Nat.blt pc 15 then (bif Nat.blt pc 13 then (bif Nat.beq pc 10 then (.ifnull 14, 13, (24, 0, 0), 0, 0, []) else TN) else (bif Nat.blt pc 14 then (bif Nat.beq pc 13 then (.iload_n 2, 14, (2, 0, 0), 0, 0, []) else TN) else (bif Nat.beq pc 14 then (.iconst 0, 15, (0, 0, 0), 0, 0, []) else TN))) else (bif Nat.blt pc 21 then (bif Nat.blt pc 18 then (bif Nat.beq pc 15 then (.sipush 600, 18, (0, 0, 0), 600, 0, []) else TN) else (bif Nat.beq pc 18 then (.invokestatic 115, 21, (83, 3, 0), 0, 0, []) else TN)) else (bif Nat.blt pc 24 then (bif Nat.beq pc 21 then (.ifCond .ne 6, 24, (27, 0, 0), 0, 0, []) else TN) else (bif Nat.beq pc 24 then (.ldc 91, 26, (0, 0, 0), -1000000001, 0, []) else TN))))) else (bif Nat.blt pc 36 then (bif Nat.blt pc 29 then (bif Nat.blt pc 27 then (bif Nat.beq pc 26 then (.ireturn, 27, (0, 0, 0), 0, 0, []) else TN) else (bif Nat.blt pc 28 then (bif Nat.beq pc 27 then (.iconst 0, 28, (0, 0, 0), 0, 0, []) else TN) else (bif Nat.beq pc 28 then (.aload_n 3, 29, (3, 0, 0), 0, 0, []) else TN))) else (bif Nat.blt pc 32 then (bif Nat.beq pc 29 then (.invokevirtual 404, 32, (232, 0, 2), 0, 0, []) else TN) else (bif Nat.blt pc 33 then (bif Nat.beq pc 32 then (.aload_n 3, 33, (3, 0, 0), 0, 0, []) else TN) else (bif Nat.beq pc 33 then (.getfield 162, 36, (2, 2, 1), 0, 0, []) else TN)))) else (bif Nat.blt pc 40 then (bif Nat.blt pc 37 then (bif Nat.beq pc 36 then (.iload_n 2, 37, (2, 0, 0), 0, 0, []) else TN) else (bif Nat.blt pc 38 then (bif Nat.beq pc 37 then (.imul, 38, (0, 0, 0), 0, 0, []) else TN) else (bif Nat.beq pc 38 then (.bipush 60, 40, (0, 0, 0), 60, 0, []) else TN))) else (bif Nat.blt pc 42 then (bif Nat.blt pc 41 then (bif Nat.beq pc 40 then (.idiv, 41, (0, 0, 0), 0, 0, []) else TN) else (bif Nat.beq pc 41 then (.isub, 42, (0, 0, 0), 0, 0, []) else TN)) else (bif Nat.blt pc 45 then (bif Nat.beq pc 42 then (.invokestatic 407, 45, (1000, 0, 0), 0, 0, []) else TN) else (bif Nat.beq pc 45 then (.ireturn, 46, (0, 0, 0), 0, 0, []) else TN)))))
def tb_X11_docked (pc : Nat) : TI := bif Nat.ble 46 pc then TN else tt_X11_docked pc
theorem ok_X11_docked : tOK 11 (decide ("docked" = "<init>")) cX11_docked tb_X11_docked := tOK_of 46 tn_of (by decide +kernel)
def f_X11_docked (L : Lay) (σ : Sto) (a0 : Nat) (a1 : Int32) (a2 : Int32) : Option Int32 := (σ.2.1 a0 0).bind fun x1 => (f_X10_memberAt L σ x1 a1).bind fun o2 => (Option.elim o2 (some (-1000000001)) (fun _ => (f_X11_isWithin L σ a2 0 600).bind fun r3 => (if r3 = 0 then some (-1000000001) else o2.bind fun x4 => (f_X2_dayWage L σ x4).bind fun r5 => o2.bind fun x6 => (dv ((σ.1 x6 2) * a2) 60).bind fun q7 => some (if 0 < (r5 - q7) then (r5 - q7) else 0))))
def ad_X11_docked : ADT := fun O L σ as k => match as with
  | [.inr (.inr (.inl (ta0, some a0))), .inl a1, .inl a2] => bif Nat.beq ta0 11 && true then (f_X11_docked L σ a0 a1 a2).bind fun r => k (some (vI r)) L σ else none
  | _ => none
abbrev cl_X11_docked {O : Type} : CLT O := (clc 53 ad_X10_memberAt (clc 83 ad_X11_isWithin (clc 232 ad_X2_dayWage cl0)))
theorem hc_X11_docked (G : GT) (l : Launch) {d : Nat} (hd : 3 ≤ d) {O : Type} : HCL G l (true, true) d (cl_X11_docked (O := O)) := (hclc (ca_X10_memberAt G l (d := 2) (Nat.le_refl _)) (fun _ => rfl) (fun _ => rfl) (by omega) (hclc (ca_X11_isWithin G l (d := 1) (Nat.le_refl _)) (fun _ => rfl) (fun _ => rfl) (by omega) (hclc (ca_X2_dayWage G l (d := 1) (Nat.le_refl _)) (fun _ => rfl) (fun _ => rfl) (by omega) hcl0)))
theorem rt_X11_docked : retOK (0, 0) (some .int) := ⟨fun _ => rfl, fun h => absurd h (by decide), fun h => absurd h (by decide)⟩
set_option maxRecDepth 20000 in
theorem ca_X11_docked (G : GT) (l : Launch) {d : Nat} (hd : 3 ≤ d) : CA G l 71 (true, true) d ad_X11_docked := by
  intro O L σ as k o h hW hok
  unfold ad_X11_docked at h
  split at h
  · obtain ⟨hq0, hA0⟩ := bif_s h
    obtain ⟨e0, hq1⟩ := beq_and hq0
    subst e0
    obtain ⟨r, hr, hk⟩ := Option.bind_eq_some_iff.mp hA0
    exact ca_of (q := (dcPI L σ) r) (by decide) rfl (Nat.le_of_ble_eq_true rfl) hk (fun _ => rfl) (fun _ => rfl) (exs (sp := []) (K := k0) (L0 := L) (σ0 := σ) ok_X11_docked rt_X11_docked (by omega) (hc_X11_docked G l hd) (hrPI rfl rfl) hk0 29 hr (inv0 hW hok))
  · cases h
def tt_X9_addFour (pc : Nat) : TI := bif Nat.blt pc 25 then (bif Nat.blt pc 11 then (bif Nat.blt pc 4 then (bif Nat.blt pc 2 then (bif Nat.beq pc 0 then (.bipush 24, 2, (0, 0, 0), 24, 0, []) else TN) else (bif Nat.blt pc 3 then (bif Nat.beq pc 2 then (.istore_n 2, 3, (2, 0, 0), 0, 0, []) else TN) else (bif Nat.beq pc 3 then (.iload_n 2, 4, (2, 0, 0), 0, 0, []) else TN))) else (bif Nat.blt pc 7 then (bif Nat.beq pc 4 then (.ifCond .lt 44, 7, (48, 0, 0), 0, 0, []) else TN) else (bif Nat.blt pc 8 then (bif Nat.beq pc 7 then (.aload_n 0, 8, (0, 0, 0), 0, 0, []) else TN) else (bif Nat.beq pc 8 then (.getfield 13, 11, (9, 1, 0), 0, 0, []) else TN)))) else (bif Nat.blt pc 17 then (bif Nat.blt pc 13 then (bif Nat.beq pc 11 then (.bipush 108, 13, (0, 0, 0), 108, 0, []) else TN) else (bif Nat.blt pc 16 then (bif Nat.beq pc 13 then (.if_icmp .ge 35, 16, (48, 0, 0), 0, 0, []) else TN) else (bif Nat.beq pc 16 then (.aload_n 0, 17, (0, 0, 0), 0, 0, []) else TN))) else (bif Nat.blt pc 21 then (bif Nat.blt pc 20 then (bif Nat.beq pc 17 then (.getfield 9, 20, (9, 0, 0), 0, 0, []) else TN) else (bif Nat.beq pc 20 then (.aload_n 0, 21, (0, 0, 0), 0, 0, []) else TN)) else (bif Nat.blt pc 24 then (bif Nat.beq pc 21 then (.getfield 13, 24, (9, 1, 0), 0, 0, []) else TN) else (bif Nat.beq pc 24 then (.iload_n 1, 25, (1, 0, 0), 0, 0, []) else TN))))) else (bif Nat.blt pc 34 then (bif Nat.blt pc 30 then (bif Nat.blt pc 26 then (bif Nat.beq pc 25 then (.iload_n 2, 26, (2, 0, 0), 0, 0, []) else TN) else (bif Nat.blt pc 27 then (bif Nat.beq pc 26 then (.iushr, 27, (0, 0, 0), 0, 0, []) else TN) else (bif Nat.beq pc 27 then (.sipush 255, 30, (0, 0, 0), 255, 0, []) else TN))) else (bif Nat.blt pc 32 then (bif Nat.blt pc 31 then (bif Nat.beq pc 30 then (.iand, 31, (0, 0, 0), 0, 0, []) else TN) else (bif Nat.beq pc 31 then (.iastore, 32, (0, 0, 0), 0, 0, []) else TN)) else (bif Nat.blt pc 33 then (bif Nat.beq pc 32 then (.aload_n 0, 33, (0, 0, 0), 0, 0, []) else TN) else (bif Nat.beq pc 33 then (.dup, 34, (0, 0, 0), 0, 0, []) else TN)))) else (bif Nat.blt pc 39 then (bif Nat.blt pc 37 then (bif Nat.beq pc 34 then (.getfield 13, 37, (9, 1, 0), 0, 0, []) else TN) else (bif Nat.blt pc 38 then (bif Nat.beq pc 37 then (.iconst 1, 38, (0, 0, 0), 1, 0, []) else TN) else (bif Nat.beq pc 38 then (.iadd, 39, (0, 0, 0), 0, 0, []) else TN))) else (bif Nat.blt pc 45 then (bif Nat.blt pc 42 then (bif Nat.beq pc 39 then (.putfield 13, 42, (9, 1, 0), 0, 0, []) else TN) else (bif Nat.beq pc 42 then (.iinc 2 (-8), 45, (2, 0, 0), -8, 0, []) else TN)) else (bif Nat.blt pc 48 then (bif Nat.beq pc 45 then (.goto (-42), 48, (3, 0, 0), 0, 0, []) else TN) else (bif Nat.beq pc 48 then (.return_, 49, (0, 0, 0), 0, 0, []) else TN)))))
def tb_X9_addFour (pc : Nat) : TI := bif Nat.ble 49 pc then TN else tt_X9_addFour pc
theorem ok_X9_addFour : tOK 9 (decide ("addFour" = "<init>")) cX9_addFour tb_X9_addFour := tOK_of 49 tn_of (by decide +kernel)
def f_X9_addFour_3 : Nat → Lay → Sto → Nat → Int32 → Int32 → Option Sto
  | 0 => fun _ _ _ _ _ => none
  | k + 1 => fun L σ a0 a1 a2 => (if a2 < 0 then some σ else (if 108 ≤ (σ.1 a0 1) then some σ else (σ.2.1 a0 0).bind fun x1 => (wI L σ x1 (σ.1 a0 1) (((a1.toUInt32 >>> (a2.toUInt32 &&& Int32.toUInt32 31)).toInt32) &&& 255)).bind fun σ2 => (putI σ2 a0 1 ((σ2.1 a0 1) + 1)).bind fun σ3 => (f_X9_addFour_3 k) L σ3 a0 a1 (a2 + (-8))))
def A_X9_addFour_3 (c : Lay → Sto → Nat → Int32 → Int32 → Option Sto) (lc : List (Option AV)) (st : List AV) (L : Lay) (σ : Sto) : Option Sto := match lc, st with
  | [some (.inr (.inr (.inl (ta0, some a0)))), some (.inl a1), some (.inl a2)], [] => bif Nat.beq ta0 9 && true then c L σ a0 a1 a2 else none
  | _, _ => none
def f_X9_addFour (L : Lay) (σ : Sto) (a0 : Nat) (a1 : Int32) : Option Sto := (f_X9_addFour_3 FU) L σ a0 a1 24
def ad_X9_addFour : ADT := fun O L σ as k => match as with
  | [.inr (.inr (.inl (ta0, some a0))), .inl a1] => bif Nat.beq ta0 9 && true then (f_X9_addFour L σ a0 a1).bind fun σ2 => k none L σ2 else none
  | _ => none
abbrev cl_X9_addFour {O : Type} : CLT O := cl0
theorem hc_X9_addFour (G : GT) (l : Launch) {d : Nat} (hd : 1 ≤ d) {O : Type} : HCL G l (true, false) d (cl_X9_addFour (O := O)) := hcl0
theorem rt_X9_addFour : retOK (6, 0) none := ⟨fun h => absurd h (by decide), fun h => absurd h (by decide), fun _ => rfl⟩
set_option maxRecDepth 20000 in
theorem b_X9_addFour_3 {G : GT} {l : Launch} {d : Nat} {L0 : Lay} {σ0 : Sto} (hd : 1 ≤ d) : ∀ k : Nat, HF G l 9 "addFour" cX9_addFour 3 none d L0 σ0 (true, false) (dcV L0) 3 (A_X9_addFour_3 (f_X9_addFour_3 k))
  | 0 => by
    intro lc st L σ o h hI
    unfold A_X9_addFour_3 at h
    split at h
    · obtain ⟨_, hA1⟩ := bif_s h
      cases hA1
    · cases h
  | k + 1 => by
    have ih := b_X9_addFour_3 (G := G) (l := l) (d := d) (L0 := L0) (σ0 := σ0) hd k
    intro lc st L σ o h hI
    unfold A_X9_addFour_3 at h
    split at h
    · obtain ⟨hq0, hA1⟩ := bif_s h
      obtain ⟨e0, hq1⟩ := beq_and hq0
      subst e0
      exact exs (sp := [3]) (K := (kc 3 (A_X9_addFour_3 (f_X9_addFour_3 k)) k0)) ok_X9_addFour rt_X9_addFour (by omega) (hc_X9_addFour G l hd) (hrV rfl) (hkc ih hk0) 30 hA1 hI
    · cases h
set_option maxRecDepth 20000 in
theorem ca_X9_addFour (G : GT) (l : Launch) {d : Nat} (hd : 1 ≤ d) : CA G l 270 (true, false) d ad_X9_addFour := by
  intro O L σ as k o h hW hok
  unfold ad_X9_addFour at h
  split at h
  · obtain ⟨hq0, hA0⟩ := bif_s h
    obtain ⟨e0, hq1⟩ := beq_and hq0
    subst e0
    obtain ⟨r, hr, hk⟩ := Option.bind_eq_some_iff.mp hA0
    exact ca_of (q := (dcV L) r) (by decide) rfl (Nat.le_of_ble_eq_true rfl) hk (fun _ => rfl) (fun e => by cases e) (exs (sp := [3]) (K := (kc 3 (A_X9_addFour_3 (f_X9_addFour_3 FU)) k0)) (L0 := L) (σ0 := σ) ok_X9_addFour rt_X9_addFour (by omega) (hc_X9_addFour G l hd) (hrV rfl) (hkc (b_X9_addFour_3 hd FU) hk0) 30 hr (inv0 hW hok))
  · cases h
def tt_X11_feed (pc : Nat) : TI := bif Nat.blt pc 23 then (bif Nat.blt pc 12 then (bif Nat.blt pc 7 then (bif Nat.blt pc 1 then (bif Nat.beq pc 0 then (.aload_n 0, 1, (0, 0, 0), 0, 0, []) else TN) else (bif Nat.blt pc 4 then (bif Nat.beq pc 1 then (.getfield 41, 4, (11, 5, 0), 0, 0, []) else TN) else (bif Nat.beq pc 4 then (.getfield 296, 7, (9, 1, 1), 0, 0, []) else TN))) else (bif Nat.blt pc 9 then (bif Nat.beq pc 7 then (.bipush 12, 9, (0, 0, 0), 12, 0, []) else TN) else (bif Nat.blt pc 10 then (bif Nat.beq pc 9 then (.iadd, 10, (0, 0, 0), 0, 0, []) else TN) else (bif Nat.beq pc 10 then (.bipush 108, 12, (0, 0, 0), 108, 0, []) else TN)))) else (bif Nat.blt pc 18 then (bif Nat.blt pc 15 then (bif Nat.beq pc 12 then (.if_icmp .le 6, 15, (18, 0, 0), 0, 0, []) else TN) else (bif Nat.blt pc 17 then (bif Nat.beq pc 15 then (.ldc 96, 17, (0, 0, 0), -1000000003, 0, []) else TN) else (bif Nat.beq pc 17 then (.ireturn, 18, (0, 0, 0), 0, 0, []) else TN))) else (bif Nat.blt pc 19 then (bif Nat.beq pc 18 then (.aload_n 0, 19, (0, 0, 0), 0, 0, []) else TN) else (bif Nat.blt pc 22 then (bif Nat.beq pc 19 then (.getfield 41, 22, (11, 5, 0), 0, 0, []) else TN) else (bif Nat.beq pc 22 then (.iload_n 1, 23, (1, 0, 0), 0, 0, []) else TN))))) else (bif Nat.blt pc 35 then (bif Nat.blt pc 30 then (bif Nat.blt pc 26 then (bif Nat.beq pc 23 then (.invokevirtual 299, 26, (270, 1, 9), 0, 0, []) else TN) else (bif Nat.blt pc 27 then (bif Nat.beq pc 26 then (.aload_n 0, 27, (0, 0, 0), 0, 0, []) else TN) else (bif Nat.beq pc 27 then (.getfield 41, 30, (11, 5, 0), 0, 0, []) else TN))) else (bif Nat.blt pc 31 then (bif Nat.beq pc 30 then (.iload_n 2, 31, (2, 0, 0), 0, 0, []) else TN) else (bif Nat.blt pc 34 then (bif Nat.beq pc 31 then (.invokevirtual 299, 34, (270, 1, 9), 0, 0, []) else TN) else (bif Nat.beq pc 34 then (.aload_n 0, 35, (0, 0, 0), 0, 0, []) else TN)))) else (bif Nat.blt pc 42 then (bif Nat.blt pc 38 then (bif Nat.beq pc 35 then (.getfield 41, 38, (11, 5, 0), 0, 0, []) else TN) else (bif Nat.blt pc 39 then (bif Nat.beq pc 38 then (.iload_n 3, 39, (3, 0, 0), 0, 0, []) else TN) else (bif Nat.beq pc 39 then (.invokevirtual 299, 42, (270, 1, 9), 0, 0, []) else TN))) else (bif Nat.blt pc 46 then (bif Nat.blt pc 43 then (bif Nat.beq pc 42 then (.aload_n 0, 43, (0, 0, 0), 0, 0, []) else TN) else (bif Nat.beq pc 43 then (.getfield 41, 46, (11, 5, 0), 0, 0, []) else TN)) else (bif Nat.blt pc 49 then (bif Nat.beq pc 46 then (.getfield 296, 49, (9, 1, 1), 0, 0, []) else TN) else (bif Nat.beq pc 49 then (.ireturn, 50, (0, 0, 0), 0, 0, []) else TN)))))
def tb_X11_feed (pc : Nat) : TI := bif Nat.ble 50 pc then TN else tt_X11_feed pc
theorem ok_X11_feed : tOK 11 (decide ("feed" = "<init>")) cX11_feed tb_X11_feed := tOK_of 50 tn_of (by decide +kernel)
def f_X11_feed (L : Lay) (σ : Sto) (a0 : Nat) (a1 : Int32) (a2 : Int32) (a3 : Int32) : Option (Int32 × Sto) := (σ.2.1 a0 5).bind fun x1 => (if ((σ.1 x1 1) + 12) ≤ 108 then (σ.2.1 a0 5).bind fun x2 => (f_X9_addFour L σ x2 a1).bind fun σ3 => (σ3.2.1 a0 5).bind fun x4 => (f_X9_addFour L σ3 x4 a2).bind fun σ5 => (σ5.2.1 a0 5).bind fun x6 => (f_X9_addFour L σ5 x6 a3).bind fun σ7 => (σ7.2.1 a0 5).bind fun x8 => some ((σ7.1 x8 1), σ7) else some ((-1000000003), σ))
def ad_X11_feed : ADT := fun O L σ as k => match as with
  | [.inr (.inr (.inl (ta0, some a0))), .inl a1, .inl a2, .inl a3] => bif Nat.beq ta0 11 && true then (f_X11_feed L σ a0 a1 a2 a3).bind fun r => k (some (vI r.1)) L r.2 else none
  | _ => none
abbrev cl_X11_feed {O : Type} : CLT O := (clc 270 ad_X9_addFour cl0)
theorem hc_X11_feed (G : GT) (l : Launch) {d : Nat} (hd : 2 ≤ d) {O : Type} : HCL G l (true, false) d (cl_X11_feed (O := O)) := (hclc (ca_X9_addFour G l (d := 1) (Nat.le_refl _)) (fun _ => rfl) (fun e => by cases e) (by omega) hcl0)
theorem rt_X11_feed : retOK (0, 0) (some .int) := ⟨fun _ => rfl, fun h => absurd h (by decide), fun h => absurd h (by decide)⟩
set_option maxRecDepth 20000 in
theorem ca_X11_feed (G : GT) (l : Launch) {d : Nat} (hd : 2 ≤ d) : CA G l 72 (true, false) d ad_X11_feed := by
  intro O L σ as k o h hW hok
  unfold ad_X11_feed at h
  split at h
  · obtain ⟨hq0, hA0⟩ := bif_s h
    obtain ⟨e0, hq1⟩ := beq_and hq0
    subst e0
    obtain ⟨r, hr, hk⟩ := Option.bind_eq_some_iff.mp hA0
    exact ca_of (q := (dcI L) r) (by decide) rfl (Nat.le_of_ble_eq_true rfl) hk (fun _ => rfl) (fun e => by cases e) (exs (sp := []) (K := k0) (L0 := L) (σ0 := σ) ok_X11_feed rt_X11_feed (by omega) (hc_X11_feed G l hd) (hrI rfl) hk0 28 hr (inv0 hW hok))
  · cases h
def tt_X11_harm (pc : Nat) : TI := bif Nat.blt pc 25 then (bif Nat.blt pc 11 then (bif Nat.blt pc 4 then (bif Nat.blt pc 1 then (bif Nat.beq pc 0 then (.iload_n 1, 1, (1, 0, 0), 0, 0, []) else TN) else (bif Nat.blt pc 2 then (bif Nat.beq pc 1 then (.iconst 0, 2, (0, 0, 0), 0, 0, []) else TN) else (bif Nat.beq pc 2 then (.bipush 11, 4, (0, 0, 0), 11, 0, []) else TN))) else (bif Nat.blt pc 7 then (bif Nat.beq pc 4 then (.invokestatic 115, 7, (83, 3, 0), 0, 0, []) else TN) else (bif Nat.blt pc 10 then (bif Nat.beq pc 7 then (.ifCond .eq 14, 10, (21, 0, 0), 0, 0, []) else TN) else (bif Nat.beq pc 10 then (.iload_n 2, 11, (2, 0, 0), 0, 0, []) else TN)))) else (bif Nat.blt pc 18 then (bif Nat.blt pc 12 then (bif Nat.beq pc 11 then (.iconst 0, 12, (0, 0, 0), 0, 0, []) else TN) else (bif Nat.blt pc 15 then (bif Nat.beq pc 12 then (.sipush 999, 15, (0, 0, 0), 999, 0, []) else TN) else (bif Nat.beq pc 15 then (.invokestatic 115, 18, (83, 3, 0), 0, 0, []) else TN))) else (bif Nat.blt pc 23 then (bif Nat.blt pc 21 then (bif Nat.beq pc 18 then (.ifCond .ne 6, 21, (24, 0, 0), 0, 0, []) else TN) else (bif Nat.beq pc 21 then (.ldc 91, 23, (0, 0, 0), -1000000001, 0, []) else TN)) else (bif Nat.blt pc 24 then (bif Nat.beq pc 23 then (.ireturn, 24, (0, 0, 0), 0, 0, []) else TN) else (bif Nat.beq pc 24 then (.aload_n 0, 25, (0, 0, 0), 0, 0, []) else TN))))) else (bif Nat.blt pc 35 then (bif Nat.blt pc 32 then (bif Nat.blt pc 28 then (bif Nat.beq pc 25 then (.getfield 73, 28, (11, 12, 0), 0, 0, []) else TN) else (bif Nat.blt pc 31 then (bif Nat.beq pc 28 then (.getfield 370, 31, (6, 0, 1), 0, 0, []) else TN) else (bif Nat.beq pc 31 then (.iload_n 1, 32, (1, 0, 0), 0, 0, []) else TN))) else (bif Nat.blt pc 33 then (bif Nat.beq pc 32 then (.iaload, 33, (0, 0, 0), 0, 0, []) else TN) else (bif Nat.blt pc 34 then (bif Nat.beq pc 33 then (.istore_n 3, 34, (3, 0, 0), 0, 0, []) else TN) else (bif Nat.beq pc 34 then (.aload_n 0, 35, (0, 0, 0), 0, 0, []) else TN)))) else (bif Nat.blt pc 42 then (bif Nat.blt pc 38 then (bif Nat.beq pc 35 then (.getfield 73, 38, (11, 12, 0), 0, 0, []) else TN) else (bif Nat.blt pc 41 then (bif Nat.beq pc 38 then (.getfield 370, 41, (6, 0, 1), 0, 0, []) else TN) else (bif Nat.beq pc 41 then (.iload_n 1, 42, (1, 0, 0), 0, 0, []) else TN))) else (bif Nat.blt pc 44 then (bif Nat.blt pc 43 then (bif Nat.beq pc 42 then (.iload_n 2, 43, (2, 0, 0), 0, 0, []) else TN) else (bif Nat.beq pc 43 then (.iastore, 44, (0, 0, 0), 0, 0, []) else TN)) else (bif Nat.blt pc 45 then (bif Nat.beq pc 44 then (.iload_n 3, 45, (3, 0, 0), 0, 0, []) else TN) else (bif Nat.beq pc 45 then (.ireturn, 46, (0, 0, 0), 0, 0, []) else TN)))))
def tb_X11_harm (pc : Nat) : TI := bif Nat.ble 46 pc then TN else tt_X11_harm pc
theorem ok_X11_harm : tOK 11 (decide ("harm" = "<init>")) cX11_harm tb_X11_harm := tOK_of 46 tn_of (by decide +kernel)
def f_X11_harm (L : Lay) (σ : Sto) (a0 : Nat) (a1 : Int32) (a2 : Int32) : Option (Int32 × Sto) := (f_X11_isWithin L σ a1 0 11).bind fun r1 => (if r1 = 0 then some ((-1000000001), σ) else (f_X11_isWithin L σ a2 0 999).bind fun r2 => (if r2 = 0 then some ((-1000000001), σ) else (σ.2.1 a0 12).bind fun x3 => (σ.2.1 x3 0).bind fun x4 => (rI L σ x4 a1).bind fun v5 => (σ.2.1 a0 12).bind fun x6 => (σ.2.1 x6 0).bind fun x7 => (wI L σ x7 a1 a2).bind fun σ8 => some (v5, σ8)))
def ad_X11_harm : ADT := fun O L σ as k => match as with
  | [.inr (.inr (.inl (ta0, some a0))), .inl a1, .inl a2] => bif Nat.beq ta0 11 && true then (f_X11_harm L σ a0 a1 a2).bind fun r => k (some (vI r.1)) L r.2 else none
  | _ => none
abbrev cl_X11_harm {O : Type} : CLT O := (clc 83 ad_X11_isWithin cl0)
theorem hc_X11_harm (G : GT) (l : Launch) {d : Nat} (hd : 2 ≤ d) {O : Type} : HCL G l (true, false) d (cl_X11_harm (O := O)) := (hclc (ca_X11_isWithin G l (d := 1) (Nat.le_refl _)) (fun _ => rfl) (fun e => by cases e) (by omega) hcl0)
theorem rt_X11_harm : retOK (0, 0) (some .int) := ⟨fun _ => rfl, fun h => absurd h (by decide), fun h => absurd h (by decide)⟩
set_option maxRecDepth 20000 in
theorem ca_X11_harm (G : GT) (l : Launch) {d : Nat} (hd : 2 ≤ d) : CA G l 73 (true, false) d ad_X11_harm := by
  intro O L σ as k o h hW hok
  unfold ad_X11_harm at h
  split at h
  · obtain ⟨hq0, hA0⟩ := bif_s h
    obtain ⟨e0, hq1⟩ := beq_and hq0
    subst e0
    obtain ⟨r, hr, hk⟩ := Option.bind_eq_some_iff.mp hA0
    exact ca_of (q := (dcI L) r) (by decide) rfl (Nat.le_of_ble_eq_true rfl) hk (fun _ => rfl) (fun e => by cases e) (exs (sp := []) (K := k0) (L0 := L) (σ0 := σ) ok_X11_harm rt_X11_harm (by omega) (hc_X11_harm G l hd) (hrI rfl) hk0 29 hr (inv0 hW hok))
  · cases h
def tt_X11_noticeAt (pc : Nat) : TI := bif Nat.blt pc 11 then (bif Nat.blt pc 3 then (bif Nat.blt pc 1 then (bif Nat.beq pc 0 then (.iload_n 1, 1, (1, 0, 0), 0, 0, []) else TN) else (bif Nat.blt pc 2 then (bif Nat.beq pc 1 then (.iconst 0, 2, (0, 0, 0), 0, 0, []) else TN) else (bif Nat.beq pc 2 then (.aload_n 0, 3, (0, 0, 0), 0, 0, []) else TN))) else (bif Nat.blt pc 7 then (bif Nat.blt pc 6 then (bif Nat.beq pc 3 then (.getfield 335, 6, (11, 11, 0), 0, 0, []) else TN) else (bif Nat.beq pc 6 then (.iconst 1, 7, (0, 0, 0), 1, 0, []) else TN)) else (bif Nat.blt pc 8 then (bif Nat.beq pc 7 then (.isub, 8, (0, 0, 0), 0, 0, []) else TN) else (bif Nat.beq pc 8 then (.invokestatic 115, 11, (83, 3, 0), 0, 0, []) else TN)))) else (bif Nat.blt pc 19 then (bif Nat.blt pc 15 then (bif Nat.blt pc 14 then (bif Nat.beq pc 11 then (.ifCond .eq 12, 14, (23, 0, 0), 0, 0, []) else TN) else (bif Nat.beq pc 14 then (.aload_n 0, 15, (0, 0, 0), 0, 0, []) else TN)) else (bif Nat.blt pc 18 then (bif Nat.beq pc 15 then (.getfield 66, 18, (11, 10, 0), 0, 0, []) else TN) else (bif Nat.beq pc 18 then (.iload_n 1, 19, (1, 0, 0), 0, 0, []) else TN))) else (bif Nat.blt pc 23 then (bif Nat.blt pc 20 then (bif Nat.beq pc 19 then (.aaload, 20, (0, 0, 0), 0, 0, []) else TN) else (bif Nat.beq pc 20 then (.goto 4, 23, (24, 0, 0), 0, 0, []) else TN)) else (bif Nat.blt pc 24 then (bif Nat.beq pc 23 then (.aconst_null, 24, (0, 0, 0), 0, 0, []) else TN) else (bif Nat.beq pc 24 then (.areturn, 25, (0, 0, 0), 0, 0, []) else TN))))
def tb_X11_noticeAt (pc : Nat) : TI := bif Nat.ble 25 pc then TN else tt_X11_noticeAt pc
theorem ok_X11_noticeAt : tOK 11 (decide ("noticeAt" = "<init>")) cX11_noticeAt tb_X11_noticeAt := tOK_of 25 tn_of (by decide +kernel)
def f_X11_noticeAt (L : Lay) (σ : Sto) (a0 : Nat) (a1 : Int32) : Option (Option Nat) := (f_X11_isWithin L σ a1 0 ((σ.1 a0 11) - 1)).bind fun r1 => (if r1 = 0 then some none else (σ.2.1 a0 10).bind fun x2 => (rR L σ x2 a1).bind fun o3 => some o3)
def ad_X11_noticeAt : ADT := fun O L σ as k => match as with
  | [.inr (.inr (.inl (ta0, some a0))), .inl a1] => bif Nat.beq ta0 11 && true then (f_X11_noticeAt L σ a0 a1).bind fun r => k (some (vR 4 r)) L σ else none
  | _ => none
abbrev cl_X11_noticeAt {O : Type} : CLT O := (clc 83 ad_X11_isWithin cl0)
theorem hc_X11_noticeAt (G : GT) (l : Launch) {d : Nat} (hd : 2 ≤ d) {O : Type} : HCL G l (true, true) d (cl_X11_noticeAt (O := O)) := (hclc (ca_X11_isWithin G l (d := 1) (Nat.le_refl _)) (fun _ => rfl) (fun _ => rfl) (by omega) hcl0)
theorem rt_X11_noticeAt : retOK (5, 4) (some (.object "StrikeBallots$Notice")) := ⟨fun h => absurd h (by decide), fun _ => ⟨_, rfl⟩, fun h => absurd h (by decide)⟩
set_option maxRecDepth 20000 in
theorem ca_X11_noticeAt (G : GT) (l : Launch) {d : Nat} (hd : 2 ≤ d) : CA G l 97 (true, true) d ad_X11_noticeAt := by
  intro O L σ as k o h hW hok
  unfold ad_X11_noticeAt at h
  split at h
  · obtain ⟨hq0, hA0⟩ := bif_s h
    obtain ⟨e0, hq1⟩ := beq_and hq0
    subst e0
    obtain ⟨r, hr, hk⟩ := Option.bind_eq_some_iff.mp hA0
    exact ca_of (q := (dcPR 4 L σ) r) (by decide) rfl (Nat.le_of_ble_eq_true rfl) hk (fun _ => rfl) (fun _ => rfl) (exs (sp := []) (K := k0) (L0 := L) (σ0 := σ) ok_X11_noticeAt rt_X11_noticeAt (by omega) (hc_X11_noticeAt G l hd) (hrPR rfl rfl) hk0 18 hr (inv0 hW hok))
  · cases h
def tt_X11_isLiving (pc : Nat) : TI := bif Nat.blt pc 24 then (bif Nat.blt pc 13 then (bif Nat.blt pc 5 then (bif Nat.blt pc 1 then (bif Nat.beq pc 0 then (.aload_n 1, 1, (1, 0, 0), 0, 0, []) else TN) else (bif Nat.blt pc 4 then (bif Nat.beq pc 1 then (.getfield 245, 4, (0, 3, 1), 0, 0, []) else TN) else (bif Nat.beq pc 4 then (.istore_n 3, 5, (3, 0, 0), 0, 0, []) else TN))) else (bif Nat.blt pc 9 then (bif Nat.blt pc 6 then (bif Nat.beq pc 5 then (.aload_n 0, 6, (0, 0, 0), 0, 0, []) else TN) else (bif Nat.beq pc 6 then (.getfield 308, 9, (11, 8, 0), 0, 0, []) else TN)) else (bif Nat.blt pc 12 then (bif Nat.beq pc 9 then (.ifCond .eq 35, 12, (44, 0, 0), 0, 0, []) else TN) else (bif Nat.beq pc 12 then (.iload_n 3, 13, (3, 0, 0), 0, 0, []) else TN)))) else (bif Nat.blt pc 18 then (bif Nat.blt pc 14 then (bif Nat.beq pc 13 then (.iload_n 2, 14, (2, 0, 0), 0, 0, []) else TN) else (bif Nat.blt pc 17 then (bif Nat.beq pc 14 then (.if_icmp .gt 30, 17, (44, 0, 0), 0, 0, []) else TN) else (bif Nat.beq pc 17 then (.aload_n 0, 18, (0, 0, 0), 0, 0, []) else TN))) else (bif Nat.blt pc 20 then (bif Nat.blt pc 19 then (bif Nat.beq pc 18 then (.aload_n 1, 19, (1, 0, 0), 0, 0, []) else TN) else (bif Nat.beq pc 19 then (.iconst 0, 20, (0, 0, 0), 0, 0, []) else TN)) else (bif Nat.blt pc 21 then (bif Nat.beq pc 20 then (.iload_n 3, 21, (3, 0, 0), 0, 0, []) else TN) else (bif Nat.beq pc 21 then (.invokevirtual 315, 24, (86, 3, 11), 0, 0, []) else TN))))) else (bif Nat.blt pc 33 then (bif Nat.blt pc 29 then (bif Nat.blt pc 27 then (bif Nat.beq pc 24 then (.ifCond .eq 20, 27, (44, 0, 0), 0, 0, []) else TN) else (bif Nat.blt pc 28 then (bif Nat.beq pc 27 then (.iload_n 2, 28, (2, 0, 0), 0, 0, []) else TN) else (bif Nat.beq pc 28 then (.iload_n 3, 29, (3, 0, 0), 0, 0, []) else TN))) else (bif Nat.blt pc 31 then (bif Nat.blt pc 30 then (bif Nat.beq pc 29 then (.isub, 30, (0, 0, 0), 0, 0, []) else TN) else (bif Nat.beq pc 30 then (.aload_n 0, 31, (0, 0, 0), 0, 0, []) else TN)) else (bif Nat.blt pc 32 then (bif Nat.beq pc 31 then (.aload_n 1, 32, (1, 0, 0), 0, 0, []) else TN) else (bif Nat.beq pc 32 then (.iconst 2, 33, (0, 0, 0), 2, 0, []) else TN)))) else (bif Nat.blt pc 40 then (bif Nat.blt pc 34 then (bif Nat.beq pc 33 then (.iload_n 3, 34, (3, 0, 0), 0, 0, []) else TN) else (bif Nat.blt pc 37 then (bif Nat.beq pc 34 then (.invokevirtual 315, 37, (86, 3, 11), 0, 0, []) else TN) else (bif Nat.beq pc 37 then (.if_icmp .gt 7, 40, (44, 0, 0), 0, 0, []) else TN))) else (bif Nat.blt pc 44 then (bif Nat.blt pc 41 then (bif Nat.beq pc 40 then (.iconst 1, 41, (0, 0, 0), 1, 0, []) else TN) else (bif Nat.beq pc 41 then (.goto 4, 44, (45, 0, 0), 0, 0, []) else TN)) else (bif Nat.blt pc 45 then (bif Nat.beq pc 44 then (.iconst 0, 45, (0, 0, 0), 0, 0, []) else TN) else (bif Nat.beq pc 45 then (.ireturn, 46, (0, 0, 0), 0, 0, []) else TN)))))
def tb_X11_isLiving (pc : Nat) : TI := bif Nat.ble 46 pc then TN else tt_X11_isLiving pc
theorem ok_X11_isLiving : tOK 11 (decide ("isLiving" = "<init>")) cX11_isLiving tb_X11_isLiving := tOK_of 46 tn_of (by decide +kernel)
def f_X11_isLiving (L : Lay) (σ : Sto) (a0 : Nat) (a1 : Option Nat) (a2 : Int32) : Option (Int32 × Sto) := a1.bind fun x1 => (if (σ.1 a0 8) = 0 then (ckN 1 0).bind fun _ => some (0, σ) else (if a2 < (σ.1 x1 3) then (ckN 1 0).bind fun _ => some (0, σ) else (f_X11_lawFor L σ a0 a1 0 (σ.1 x1 3)).bind fun r2 => (if r2.1 = 0 then (ckN 1 0).bind fun _ => some (0, r2.2) else (f_X11_lawFor L r2.2 a0 a1 2 (σ.1 x1 3)).bind fun r3 => (if r3.1 < (a2 - (σ.1 x1 3)) then (ckN 1 0).bind fun _ => some (0, r3.2) else (ckN 1 1).bind fun _ => some (1, r3.2)))))
def ad_X11_isLiving : ADT := fun O L σ as k => match as with
  | [.inr (.inr (.inl (ta0, some a0))), .inr (.inr (.inl (ta1, a1))), .inl a2] => bif Nat.beq ta0 11 && (Nat.beq ta1 0 && true) then (f_X11_isLiving L σ a0 a1 a2).bind fun r => k (some (vI r.1)) L r.2 else none
  | _ => none
abbrev cl_X11_isLiving {O : Type} : CLT O := (clc 86 ad_X11_lawFor cl0)
theorem hc_X11_isLiving (G : GT) (l : Launch) {d : Nat} (hd : 7 ≤ d) {O : Type} : HCL G l (true, false) d (cl_X11_isLiving (O := O)) := (hclc (ca_X11_lawFor G l (d := 6) (Nat.le_refl _)) (fun _ => rfl) (fun e => by cases e) (by omega) hcl0)
theorem rt_X11_isLiving : retOK (1, 0) (some .boolean) := ⟨fun _ => rfl, fun h => absurd h (by decide), fun h => absurd h (by decide)⟩
set_option maxRecDepth 20000 in
theorem ca_X11_isLiving (G : GT) (l : Launch) {d : Nat} (hd : 7 ≤ d) : CA G l 79 (true, false) d ad_X11_isLiving := by
  intro O L σ as k o h hW hok
  unfold ad_X11_isLiving at h
  split at h
  · obtain ⟨hq0, hA0⟩ := bif_s h
    obtain ⟨e0, hq1⟩ := beq_and hq0
    obtain ⟨e1, hq2⟩ := beq_and hq1
    subst e0
    subst e1
    obtain ⟨r, hr, hk⟩ := Option.bind_eq_some_iff.mp hA0
    exact ca_of (q := (dcI L) r) (by decide) rfl (Nat.le_of_ble_eq_true rfl) hk (fun _ => rfl) (fun e => by cases e) (exs (sp := []) (K := k0) (L0 := L) (σ0 := σ) ok_X11_isLiving rt_X11_isLiving (by omega) (hc_X11_isLiving G l hd) (hrI rfl) hk0 31 hr (inv0 hW hok))
  · cases h
def tt_X11_holds (pc : Nat) : TI := bif Nat.blt pc 56 then (bif Nat.blt pc 26 then (bif Nat.blt pc 12 then (bif Nat.blt pc 5 then (bif Nat.blt pc 1 then (bif Nat.beq pc 0 then (.aload_n 0, 1, (0, 0, 0), 0, 0, []) else TN) else (bif Nat.blt pc 2 then (bif Nat.beq pc 1 then (.iload_n 1, 2, (1, 0, 0), 0, 0, []) else TN) else (bif Nat.beq pc 2 then (.invokevirtual 357, 5, (97, 1, 11), 0, 0, []) else TN))) else (bif Nat.blt pc 7 then (bif Nat.blt pc 6 then (bif Nat.beq pc 5 then (.astore_n 2, 6, (2, 0, 0), 0, 0, []) else TN) else (bif Nat.beq pc 6 then (.aload_n 2, 7, (2, 0, 0), 0, 0, []) else TN)) else (bif Nat.blt pc 10 then (bif Nat.beq pc 7 then (.ifnonnull 6, 10, (13, 0, 0), 0, 0, []) else TN) else (bif Nat.beq pc 10 then (.ldc 91, 12, (0, 0, 0), -1000000001, 0, []) else TN)))) else (bif Nat.blt pc 18 then (bif Nat.blt pc 14 then (bif Nat.blt pc 13 then (bif Nat.beq pc 12 then (.ireturn, 13, (0, 0, 0), 0, 0, []) else TN) else (bif Nat.beq pc 13 then (.aload_n 0, 14, (0, 0, 0), 0, 0, []) else TN)) else (bif Nat.blt pc 15 then (bif Nat.beq pc 14 then (.aload_n 2, 15, (2, 0, 0), 0, 0, []) else TN) else (bif Nat.beq pc 15 then (.getfield 361, 18, (4, 0, 1), 0, 0, []) else TN))) else (bif Nat.blt pc 22 then (bif Nat.blt pc 21 then (bif Nat.beq pc 18 then (.invokevirtual 218, 21, (61, 1, 11), 0, 0, []) else TN) else (bif Nat.beq pc 21 then (.astore_n 3, 22, (3, 0, 0), 0, 0, []) else TN)) else (bif Nat.blt pc 23 then (bif Nat.beq pc 22 then (.aload_n 3, 23, (3, 0, 0), 0, 0, []) else TN) else (bif Nat.beq pc 23 then (.ifnull 15, 26, (38, 0, 0), 0, 0, []) else TN))))) else (bif Nat.blt pc 40 then (bif Nat.blt pc 32 then (bif Nat.blt pc 28 then (bif Nat.blt pc 27 then (bif Nat.beq pc 26 then (.aload_n 0, 27, (0, 0, 0), 0, 0, []) else TN) else (bif Nat.beq pc 27 then (.aload_n 3, 28, (3, 0, 0), 0, 0, []) else TN)) else (bif Nat.blt pc 29 then (bif Nat.beq pc 28 then (.aload_n 2, 29, (2, 0, 0), 0, 0, []) else TN) else (bif Nat.beq pc 29 then (.getfield 367, 32, (4, 2, 1), 0, 0, []) else TN))) else (bif Nat.blt pc 38 then (bif Nat.blt pc 35 then (bif Nat.beq pc 32 then (.invokevirtual 322, 35, (79, 2, 11), 0, 0, []) else TN) else (bif Nat.beq pc 35 then (.ifCond .ne 5, 38, (40, 0, 0), 0, 0, []) else TN)) else (bif Nat.blt pc 39 then (bif Nat.beq pc 38 then (.iconst 0, 39, (0, 0, 0), 0, 0, []) else TN) else (bif Nat.beq pc 39 then (.ireturn, 40, (0, 0, 0), 0, 0, []) else TN)))) else (bif Nat.blt pc 46 then (bif Nat.blt pc 42 then (bif Nat.blt pc 41 then (bif Nat.beq pc 40 then (.aload_n 3, 41, (3, 0, 0), 0, 0, []) else TN) else (bif Nat.beq pc 41 then (.aload_n 0, 42, (0, 0, 0), 0, 0, []) else TN)) else (bif Nat.blt pc 45 then (bif Nat.beq pc 42 then (.getfield 60, 45, (11, 9, 0), 0, 0, []) else TN) else (bif Nat.beq pc 45 then (.aload_n 2, 46, (2, 0, 0), 0, 0, []) else TN))) else (bif Nat.blt pc 52 then (bif Nat.blt pc 49 then (bif Nat.beq pc 46 then (.getfield 364, 49, (4, 1, 1), 0, 0, []) else TN) else (bif Nat.beq pc 49 then (.invokevirtual 259, 52, (43, 2, 0), 0, 0, []) else TN)) else (bif Nat.blt pc 53 then (bif Nat.beq pc 52 then (.aload_n 0, 53, (0, 0, 0), 0, 0, []) else TN) else (bif Nat.beq pc 53 then (.getfield 60, 56, (11, 9, 0), 0, 0, []) else TN)))))) else (bif Nat.blt pc 87 then (bif Nat.blt pc 70 then (bif Nat.blt pc 62 then (bif Nat.blt pc 58 then (bif Nat.beq pc 56 then (.bipush 97, 58, (0, 0, 0), 97, 0, []) else TN) else (bif Nat.blt pc 59 then (bif Nat.beq pc 58 then (.aload_n 2, 59, (2, 0, 0), 0, 0, []) else TN) else (bif Nat.beq pc 59 then (.getfield 367, 62, (4, 2, 1), 0, 0, []) else TN))) else (bif Nat.blt pc 66 then (bif Nat.blt pc 63 then (bif Nat.beq pc 62 then (.aload_n 2, 63, (2, 0, 0), 0, 0, []) else TN) else (bif Nat.beq pc 63 then (.getfield 364, 66, (4, 1, 1), 0, 0, []) else TN)) else (bif Nat.blt pc 67 then (bif Nat.beq pc 66 then (.isub, 67, (0, 0, 0), 0, 0, []) else TN) else (bif Nat.beq pc 67 then (.invokevirtual 325, 70, (240, 2, 3), 0, 0, []) else TN)))) else (bif Nat.blt pc 77 then (bif Nat.blt pc 74 then (bif Nat.blt pc 71 then (bif Nat.beq pc 70 then (.aload_n 0, 71, (0, 0, 0), 0, 0, []) else TN) else (bif Nat.beq pc 71 then (.getfield 60, 74, (11, 9, 0), 0, 0, []) else TN)) else (bif Nat.blt pc 76 then (bif Nat.beq pc 74 then (.bipush 108, 76, (0, 0, 0), 108, 0, []) else TN) else (bif Nat.beq pc 76 then (.aload_n 2, 77, (2, 0, 0), 0, 0, []) else TN))) else (bif Nat.blt pc 83 then (bif Nat.blt pc 80 then (bif Nat.beq pc 77 then (.getfield 345, 80, (4, 3, 1), 0, 0, []) else TN) else (bif Nat.beq pc 80 then (.invokevirtual 325, 83, (240, 2, 3), 0, 0, []) else TN)) else (bif Nat.blt pc 84 then (bif Nat.beq pc 83 then (.aload_n 0, 84, (0, 0, 0), 0, 0, []) else TN) else (bif Nat.beq pc 84 then (.getfield 60, 87, (11, 9, 0), 0, 0, []) else TN))))) else (bif Nat.blt pc 102 then (bif Nat.blt pc 96 then (bif Nat.blt pc 90 then (bif Nat.blt pc 89 then (bif Nat.beq pc 87 then (.bipush 99, 89, (0, 0, 0), 99, 0, []) else TN) else (bif Nat.beq pc 89 then (.aload_n 2, 90, (2, 0, 0), 0, 0, []) else TN)) else (bif Nat.blt pc 93 then (bif Nat.beq pc 90 then (.getfield 354, 93, (4, 4, 1), 0, 0, []) else TN) else (bif Nat.beq pc 93 then (.invokevirtual 325, 96, (240, 2, 3), 0, 0, []) else TN))) else (bif Nat.blt pc 100 then (bif Nat.blt pc 97 then (bif Nat.beq pc 96 then (.aload_n 0, 97, (0, 0, 0), 0, 0, []) else TN) else (bif Nat.beq pc 97 then (.getfield 50, 100, (11, 6, 0), 0, 0, []) else TN)) else (bif Nat.blt pc 101 then (bif Nat.beq pc 100 then (.iconst 1, 101, (0, 0, 0), 1, 0, []) else TN) else (bif Nat.beq pc 101 then (.aload_n 0, 102, (0, 0, 0), 0, 0, []) else TN)))) else (bif Nat.blt pc 112 then (bif Nat.blt pc 108 then (bif Nat.blt pc 105 then (bif Nat.beq pc 102 then (.getfield 60, 105, (11, 9, 0), 0, 0, []) else TN) else (bif Nat.beq pc 105 then (.invokevirtual 329, 108, (228, 2, 1), 0, 0, []) else TN)) else (bif Nat.blt pc 111 then (bif Nat.beq pc 108 then (.ifCond .eq 7, 111, (115, 0, 0), 0, 0, []) else TN) else (bif Nat.beq pc 111 then (.iconst 1, 112, (0, 0, 0), 1, 0, []) else TN))) else (bif Nat.blt pc 116 then (bif Nat.blt pc 115 then (bif Nat.beq pc 112 then (.goto 4, 115, (116, 0, 0), 0, 0, []) else TN) else (bif Nat.beq pc 115 then (.iconst 0, 116, (0, 0, 0), 0, 0, []) else TN)) else (bif Nat.blt pc 119 then (bif Nat.beq pc 116 then (.invokestatic 108, 119, (100, 1, 0), 0, 0, []) else TN) else (bif Nat.beq pc 119 then (.ireturn, 120, (0, 0, 0), 0, 0, []) else TN))))))
def tb_X11_holds (pc : Nat) : TI := bif Nat.ble 120 pc then TN else tt_X11_holds pc
theorem ok_X11_holds : tOK 11 (decide ("holds" = "<init>")) cX11_holds tb_X11_holds := tOK_of 120 tn_of (by decide +kernel)
def f_X11_holds_116 (L : Lay) (σ : Sto) (s0 : Int32) : Option (Int32 × Sto) := (f_X11_oneIf L σ s0).bind fun r1 => some (r1, σ)
def A_X11_holds_116 (c : Lay → Sto → Int32 → Option (Int32 × Sto)) (lc : List (Option AV)) (st : List AV) (L : Lay) (σ : Sto) : Option (Int32 × Sto) := match lc, st with
  | [_, _, _, _], [.inl s0] => c L σ s0
  | _, _ => none
def f_X11_holds (L : Lay) (σ : Sto) (a0 : Nat) (a1 : Int32) : Option (Int32 × Sto) := (f_X11_noticeAt L σ a0 a1).bind fun o2 => (Option.elim o2 (some ((-1000000001), σ)) (fun _ => o2.bind fun x3 => (f_X11_ballotAt L σ a0 (σ.1 x3 0)).bind fun o4 => (Option.elim o4 (some (0, σ)) (fun _ => o2.bind fun x5 => (f_X11_isLiving L σ a0 o4 (σ.1 x5 2)).bind fun r6 => (if r6.1 = 0 then some (0, r6.2) else o2.bind fun x7 => o4.bind fun x8 => (f_X0_tellNames L r6.2 x8 (r6.2.2.1 a0 9) (r6.2.1 x7 1)).bind fun σ9 => o2.bind fun x10 => o2.bind fun x11 => (σ9.2.1 a0 9).bind fun x12 => (f_X3_put L σ9 x12 97 ((σ9.1 x10 2) - (σ9.1 x11 1))).bind fun σ13 => o2.bind fun x14 => (σ13.2.1 a0 9).bind fun x15 => (f_X3_put L σ13 x15 108 (σ13.1 x14 3)).bind fun σ16 => o2.bind fun x17 => (σ16.2.1 a0 9).bind fun x18 => (f_X3_put L σ16 x18 99 (σ16.1 x17 4)).bind fun σ19 => (σ19.2.1 a0 6).bind fun x20 => (f_X1_valueOf L σ19 x20 1 (σ19.2.1 a0 9)).bind fun r21 => (if r21.1 = 0 then (f_X11_holds_116) L r21.2 0 else (f_X11_holds_116) L r21.2 1))))))
def ad_X11_holds : ADT := fun O L σ as k => match as with
  | [.inr (.inr (.inl (ta0, some a0))), .inl a1] => bif Nat.beq ta0 11 && true then (f_X11_holds L σ a0 a1).bind fun r => k (some (vI r.1)) L r.2 else none
  | _ => none
abbrev cl_X11_holds {O : Type} : CLT O := (clc 100 ad_X11_oneIf (clc 97 ad_X11_noticeAt (clc 61 ad_X11_ballotAt (clc 79 ad_X11_isLiving (clc 43 ad_X0_tellNames (clc 240 ad_X3_put (clc 228 ad_X1_valueOf cl0)))))))
theorem hc_X11_holds (G : GT) (l : Launch) {d : Nat} (hd : 8 ≤ d) {O : Type} : HCL G l (true, false) d (cl_X11_holds (O := O)) := (hclc (ca_X11_oneIf G l (d := 1) (Nat.le_refl _)) (fun _ => rfl) (fun e => by cases e) (by omega) (hclc (ca_X11_noticeAt G l (d := 2) (Nat.le_refl _)) (fun _ => rfl) (fun e => by cases e) (by omega) (hclc (ca_X11_ballotAt G l (d := 2) (Nat.le_refl _)) (fun _ => rfl) (fun e => by cases e) (by omega) (hclc (ca_X11_isLiving G l (d := 7) (Nat.le_refl _)) (fun _ => rfl) (fun e => by cases e) (by omega) (hclc (ca_X0_tellNames G l (d := 5) (Nat.le_refl _)) (fun _ => rfl) (fun e => by cases e) (by omega) (hclc (ca_X3_put G l (d := 2) (Nat.le_refl _)) (fun _ => rfl) (fun e => by cases e) (by omega) (hclc (ca_X1_valueOf G l (d := 4) (Nat.le_refl _)) (fun _ => rfl) (fun e => by cases e) (by omega) hcl0)))))))
theorem rt_X11_holds : retOK (0, 0) (some .int) := ⟨fun _ => rfl, fun h => absurd h (by decide), fun h => absurd h (by decide)⟩
set_option maxRecDepth 20000 in
theorem b_X11_holds_116 {G : GT} {l : Launch} {d : Nat} {L0 : Lay} {σ0 : Sto} (hd : 8 ≤ d) : HF G l 11 "holds" cX11_holds 4 (some .int) d L0 σ0 (true, false) (dcI L0) 116 (A_X11_holds_116 f_X11_holds_116) := by
  intro lc st L σ o h hI
  unfold A_X11_holds_116 at h
  split at h
  · have hA0 := h
    exact exs (sp := []) (K := k0) ok_X11_holds rt_X11_holds (by omega) (hc_X11_holds G l hd) (hrI rfl) hk0 65 hA0 hI
  · cases h
set_option maxRecDepth 20000 in
theorem ca_X11_holds (G : GT) (l : Launch) {d : Nat} (hd : 8 ≤ d) : CA G l 74 (true, false) d ad_X11_holds := by
  intro O L σ as k o h hW hok
  unfold ad_X11_holds at h
  split at h
  · obtain ⟨hq0, hA0⟩ := bif_s h
    obtain ⟨e0, hq1⟩ := beq_and hq0
    subst e0
    obtain ⟨r, hr, hk⟩ := Option.bind_eq_some_iff.mp hA0
    exact ca_of (q := (dcI L) r) (by decide) rfl (Nat.le_of_ble_eq_true rfl) hk (fun _ => rfl) (fun e => by cases e) (exs (sp := [116]) (K := (kc 116 (A_X11_holds_116 (f_X11_holds_116)) k0)) (L0 := L) (σ0 := σ) ok_X11_holds rt_X11_holds (by omega) (hc_X11_holds G l hd) (hrI rfl) (hkc (b_X11_holds_116 hd) hk0) 65 hr (inv0 hW hok))
  · cases h
def tt_X7_init (pc : Nat) : TI := bif Nat.blt pc 21 then (bif Nat.blt pc 9 then (bif Nat.blt pc 4 then (bif Nat.blt pc 1 then (bif Nat.beq pc 0 then (.aload_n 0, 1, (0, 0, 0), 0, 0, []) else TN) else (bif Nat.beq pc 1 then (.invokespecial 3, 4, (0, 0, 0), 0, 0, []) else TN)) else (bif Nat.blt pc 5 then (bif Nat.beq pc 4 then (.aload_n 0, 5, (0, 0, 0), 0, 0, []) else TN) else (bif Nat.blt pc 7 then (bif Nat.beq pc 5 then (.bipush 40, 7, (0, 0, 0), 40, 0, []) else TN) else (bif Nat.beq pc 7 then (.newarray .int, 9, (20, 40, 0), 0, 0, []) else TN)))) else (bif Nat.blt pc 15 then (bif Nat.blt pc 12 then (bif Nat.beq pc 9 then (.putfield 9, 12, (7, 1, 0), 0, 0, []) else TN) else (bif Nat.blt pc 13 then (bif Nat.beq pc 12 then (.aload_n 0, 13, (0, 0, 0), 0, 0, []) else TN) else (bif Nat.beq pc 13 then (.bipush 40, 15, (0, 0, 0), 40, 0, []) else TN))) else (bif Nat.blt pc 17 then (bif Nat.beq pc 15 then (.newarray .int, 17, (20, 40, 0), 0, 0, []) else TN) else (bif Nat.blt pc 20 then (bif Nat.beq pc 17 then (.putfield 15, 20, (7, 2, 0), 0, 0, []) else TN) else (bif Nat.beq pc 20 then (.aload_n 0, 21, (0, 0, 0), 0, 0, []) else TN))))) else (bif Nat.blt pc 31 then (bif Nat.blt pc 25 then (bif Nat.blt pc 23 then (bif Nat.beq pc 21 then (.bipush 40, 23, (0, 0, 0), 40, 0, []) else TN) else (bif Nat.beq pc 23 then (.newarray .int, 25, (20, 40, 0), 0, 0, []) else TN)) else (bif Nat.blt pc 28 then (bif Nat.beq pc 25 then (.putfield 18, 28, (7, 4, 0), 0, 0, []) else TN) else (bif Nat.blt pc 29 then (bif Nat.beq pc 28 then (.aload_n 0, 29, (0, 0, 0), 0, 0, []) else TN) else (bif Nat.beq pc 29 then (.bipush 40, 31, (0, 0, 0), 40, 0, []) else TN)))) else (bif Nat.blt pc 37 then (bif Nat.blt pc 33 then (bif Nat.beq pc 31 then (.newarray .int, 33, (20, 40, 0), 0, 0, []) else TN) else (bif Nat.blt pc 36 then (bif Nat.beq pc 33 then (.putfield 21, 36, (7, 5, 0), 0, 0, []) else TN) else (bif Nat.beq pc 36 then (.aload_n 0, 37, (0, 0, 0), 0, 0, []) else TN))) else (bif Nat.blt pc 38 then (bif Nat.beq pc 37 then (.aload_n 1, 38, (1, 0, 0), 0, 0, []) else TN) else (bif Nat.blt pc 41 then (bif Nat.beq pc 38 then (.putfield 24, 41, (7, 0, 0), 0, 0, []) else TN) else (bif Nat.beq pc 41 then (.return_, 42, (0, 0, 0), 0, 0, []) else TN)))))
def tb_X7_init (pc : Nat) : TI := bif Nat.ble 42 pc then TN else tt_X7_init pc
theorem ok_X7_init : tOK 7 (decide ("<init>" = "<init>")) cX7_init tb_X7_init := tOK_of 42 tn_of (by decide +kernel)
def f_X7_init (L : Lay) (σ : Sto) (a0 : Nat) (a1 : Option Nat) : Option (Lay × Sto) := (if (40 : Int32) = nI 40 then (al L σ 20 40 40).bind fun q1 => (putR q1.2.2 a0 1 (some q1.1)).bind fun σ2 => (if (40 : Int32) = nI 40 then (al q1.2.1 σ2 20 40 40).bind fun q3 => (putR q3.2.2 a0 2 (some q3.1)).bind fun σ4 => (if (40 : Int32) = nI 40 then (al q3.2.1 σ4 20 40 40).bind fun q5 => (putR q5.2.2 a0 4 (some q5.1)).bind fun σ6 => (if (40 : Int32) = nI 40 then (al q5.2.1 σ6 20 40 40).bind fun q7 => (putR q7.2.2 a0 5 (some q7.1)).bind fun σ8 => (putR σ8 a0 0 a1).bind fun σ9 => some (q7.2.1, σ9) else none) else none) else none) else none)
def ad_X7_init : ADT := fun O L σ as k => match as with
  | [.inr (.inr (.inl (ta0, some a0))), .inr (.inr (.inl (ta1, a1)))] => bif Nat.beq ta0 7 && (Nat.beq ta1 10 && true) then (f_X7_init L σ a0 a1).bind fun r => k none r.1 r.2 else none
  | _ => none
abbrev cl_X7_init {O : Type} : CLT O := cl0
theorem hc_X7_init (G : GT) (l : Launch) {d : Nat} (hd : 1 ≤ d) {O : Type} : HCL G l (false, false) d (cl_X7_init (O := O)) := hcl0
theorem rt_X7_init : retOK (6, 0) none := ⟨fun h => absurd h (by decide), fun h => absurd h (by decide), fun _ => rfl⟩
set_option maxRecDepth 20000 in
theorem ca_X7_init (G : GT) (l : Launch) {d : Nat} (hd : 1 ≤ d) : CA G l 258 (false, false) d ad_X7_init := by
  intro O L σ as k o h hW hok
  unfold ad_X7_init at h
  split at h
  · obtain ⟨hq0, hA0⟩ := bif_s h
    obtain ⟨e0, hq1⟩ := beq_and hq0
    obtain ⟨e1, hq2⟩ := beq_and hq1
    subst e0
    subst e1
    obtain ⟨r, hr, hk⟩ := Option.bind_eq_some_iff.mp hA0
    exact ca_of (q := dcAV r) (by decide) rfl (Nat.le_of_ble_eq_true rfl) hk (fun e => by cases e) (fun e => by cases e) (exs (sp := []) (K := k0) (L0 := L) (σ0 := σ) ok_X7_init rt_X7_init (by omega) (hc_X7_init G l hd) hrAV hk0 25 hr (inv0 hW hok))
  · cases h
def tt_X5_init (pc : Nat) : TI := bif Nat.blt pc 17 then (bif Nat.blt pc 7 then (bif Nat.blt pc 4 then (bif Nat.blt pc 1 then (bif Nat.beq pc 0 then (.aload_n 0, 1, (0, 0, 0), 0, 0, []) else TN) else (bif Nat.beq pc 1 then (.invokespecial 3, 4, (0, 0, 0), 0, 0, []) else TN)) else (bif Nat.blt pc 5 then (bif Nat.beq pc 4 then (.aload_n 0, 5, (0, 0, 0), 0, 0, []) else TN) else (bif Nat.beq pc 5 then (.bipush 6, 7, (0, 0, 0), 6, 0, []) else TN))) else (bif Nat.blt pc 12 then (bif Nat.blt pc 9 then (bif Nat.beq pc 7 then (.newarray .int, 9, (20, 6, 0), 0, 0, []) else TN) else (bif Nat.beq pc 9 then (.putfield 9, 12, (5, 0, 0), 0, 0, []) else TN)) else (bif Nat.blt pc 13 then (bif Nat.beq pc 12 then (.aload_n 0, 13, (0, 0, 0), 0, 0, []) else TN) else (bif Nat.blt pc 15 then (bif Nat.beq pc 13 then (.bipush 6, 15, (0, 0, 0), 6, 0, []) else TN) else (bif Nat.beq pc 15 then (.newarray .int, 17, (20, 6, 0), 0, 0, []) else TN))))) else (bif Nat.blt pc 28 then (bif Nat.blt pc 21 then (bif Nat.blt pc 20 then (bif Nat.beq pc 17 then (.putfield 15, 20, (5, 1, 0), 0, 0, []) else TN) else (bif Nat.beq pc 20 then (.aload_n 0, 21, (0, 0, 0), 0, 0, []) else TN)) else (bif Nat.blt pc 23 then (bif Nat.beq pc 21 then (.bipush 6, 23, (0, 0, 0), 6, 0, []) else TN) else (bif Nat.blt pc 25 then (bif Nat.beq pc 23 then (.newarray .int, 25, (20, 6, 0), 0, 0, []) else TN) else (bif Nat.beq pc 25 then (.putfield 18, 28, (5, 2, 0), 0, 0, []) else TN)))) else (bif Nat.blt pc 31 then (bif Nat.blt pc 29 then (bif Nat.beq pc 28 then (.aload_n 0, 29, (0, 0, 0), 0, 0, []) else TN) else (bif Nat.beq pc 29 then (.bipush 6, 31, (0, 0, 0), 6, 0, []) else TN)) else (bif Nat.blt pc 33 then (bif Nat.beq pc 31 then (.newarray .int, 33, (20, 6, 0), 0, 0, []) else TN) else (bif Nat.blt pc 36 then (bif Nat.beq pc 33 then (.putfield 21, 36, (5, 3, 0), 0, 0, []) else TN) else (bif Nat.beq pc 36 then (.return_, 37, (0, 0, 0), 0, 0, []) else TN)))))
def tb_X5_init (pc : Nat) : TI := bif Nat.ble 37 pc then TN else tt_X5_init pc
theorem ok_X5_init : tOK 5 (decide ("<init>" = "<init>")) cX5_init tb_X5_init := tOK_of 37 tn_of (by decide +kernel)
def f_X5_init (L : Lay) (σ : Sto) (a0 : Nat) : Option (Lay × Sto) := (if (6 : Int32) = nI 6 then (al L σ 20 6 6).bind fun q1 => (putR q1.2.2 a0 0 (some q1.1)).bind fun σ2 => (if (6 : Int32) = nI 6 then (al q1.2.1 σ2 20 6 6).bind fun q3 => (putR q3.2.2 a0 1 (some q3.1)).bind fun σ4 => (if (6 : Int32) = nI 6 then (al q3.2.1 σ4 20 6 6).bind fun q5 => (putR q5.2.2 a0 2 (some q5.1)).bind fun σ6 => (if (6 : Int32) = nI 6 then (al q5.2.1 σ6 20 6 6).bind fun q7 => (putR q7.2.2 a0 3 (some q7.1)).bind fun σ8 => some (q7.2.1, σ8) else none) else none) else none) else none)
def ad_X5_init : ADT := fun O L σ as k => match as with
  | [.inr (.inr (.inl (ta0, some a0)))] => bif Nat.beq ta0 5 && true then (f_X5_init L σ a0).bind fun r => k none r.1 r.2 else none
  | _ => none
abbrev cl_X5_init {O : Type} : CLT O := cl0
theorem hc_X5_init (G : GT) (l : Launch) {d : Nat} (hd : 1 ≤ d) {O : Type} : HCL G l (false, false) d (cl_X5_init (O := O)) := hcl0
theorem rt_X5_init : retOK (6, 0) none := ⟨fun h => absurd h (by decide), fun h => absurd h (by decide), fun _ => rfl⟩
set_option maxRecDepth 20000 in
theorem ca_X5_init (G : GT) (l : Launch) {d : Nat} (hd : 1 ≤ d) : CA G l 246 (false, false) d ad_X5_init := by
  intro O L σ as k o h hW hok
  unfold ad_X5_init at h
  split at h
  · obtain ⟨hq0, hA0⟩ := bif_s h
    obtain ⟨e0, hq1⟩ := beq_and hq0
    subst e0
    obtain ⟨r, hr, hk⟩ := Option.bind_eq_some_iff.mp hA0
    exact ca_of (q := dcAV r) (by decide) rfl (Nat.le_of_ble_eq_true rfl) hk (fun e => by cases e) (fun e => by cases e) (exs (sp := []) (K := k0) (L0 := L) (σ0 := σ) ok_X5_init rt_X5_init (by omega) (hc_X5_init G l hd) hrAV hk0 22 hr (inv0 hW hok))
  · cases h
def tt_X9_init (pc : Nat) : TI := bif Nat.blt pc 5 then (bif Nat.blt pc 1 then (bif Nat.beq pc 0 then (.aload_n 0, 1, (0, 0, 0), 0, 0, []) else TN) else (bif Nat.blt pc 4 then (bif Nat.beq pc 1 then (.invokespecial 1, 4, (0, 0, 0), 0, 0, []) else TN) else (bif Nat.beq pc 4 then (.aload_n 0, 5, (0, 0, 0), 0, 0, []) else TN))) else (bif Nat.blt pc 9 then (bif Nat.blt pc 7 then (bif Nat.beq pc 5 then (.bipush 108, 7, (0, 0, 0), 108, 0, []) else TN) else (bif Nat.beq pc 7 then (.newarray .int, 9, (20, 108, 0), 0, 0, []) else TN)) else (bif Nat.blt pc 12 then (bif Nat.beq pc 9 then (.putfield 9, 12, (9, 0, 0), 0, 0, []) else TN) else (bif Nat.beq pc 12 then (.return_, 13, (0, 0, 0), 0, 0, []) else TN)))
def tb_X9_init (pc : Nat) : TI := bif Nat.ble 13 pc then TN else tt_X9_init pc
theorem ok_X9_init : tOK 9 (decide ("<init>" = "<init>")) cX9_init tb_X9_init := tOK_of 13 tn_of (by decide +kernel)
def f_X9_init (L : Lay) (σ : Sto) (a0 : Nat) : Option (Lay × Sto) := (if (108 : Int32) = nI 108 then (al L σ 20 108 108).bind fun q1 => (putR q1.2.2 a0 0 (some q1.1)).bind fun σ2 => some (q1.2.1, σ2) else none)
def ad_X9_init : ADT := fun O L σ as k => match as with
  | [.inr (.inr (.inl (ta0, some a0)))] => bif Nat.beq ta0 9 && true then (f_X9_init L σ a0).bind fun r => k none r.1 r.2 else none
  | _ => none
abbrev cl_X9_init {O : Type} : CLT O := cl0
theorem hc_X9_init (G : GT) (l : Launch) {d : Nat} (hd : 1 ≤ d) {O : Type} : HCL G l (false, false) d (cl_X9_init (O := O)) := hcl0
theorem rt_X9_init : retOK (6, 0) none := ⟨fun h => absurd h (by decide), fun h => absurd h (by decide), fun _ => rfl⟩
set_option maxRecDepth 20000 in
theorem ca_X9_init (G : GT) (l : Launch) {d : Nat} (hd : 1 ≤ d) : CA G l 273 (false, false) d ad_X9_init := by
  intro O L σ as k o h hW hok
  unfold ad_X9_init at h
  split at h
  · obtain ⟨hq0, hA0⟩ := bif_s h
    obtain ⟨e0, hq1⟩ := beq_and hq0
    subst e0
    obtain ⟨r, hr, hk⟩ := Option.bind_eq_some_iff.mp hA0
    exact ca_of (q := dcAV r) (by decide) rfl (Nat.le_of_ble_eq_true rfl) hk (fun e => by cases e) (fun e => by cases e) (exs (sp := []) (K := k0) (L0 := L) (σ0 := σ) ok_X9_init rt_X9_init (by omega) (hc_X9_init G l hd) hrAV hk0 10 hr (inv0 hW hok))
  · cases h
def tt_X1_init (pc : Nat) : TI := bif Nat.blt pc 16 then (bif Nat.blt pc 7 then (bif Nat.blt pc 4 then (bif Nat.blt pc 1 then (bif Nat.beq pc 0 then (.aload_n 0, 1, (0, 0, 0), 0, 0, []) else TN) else (bif Nat.beq pc 1 then (.invokespecial 1, 4, (0, 0, 0), 0, 0, []) else TN)) else (bif Nat.blt pc 5 then (bif Nat.beq pc 4 then (.aload_n 0, 5, (0, 0, 0), 0, 0, []) else TN) else (bif Nat.beq pc 5 then (.bipush 108, 7, (0, 0, 0), 108, 0, []) else TN))) else (bif Nat.blt pc 12 then (bif Nat.blt pc 9 then (bif Nat.beq pc 7 then (.newarray .int, 9, (20, 108, 0), 0, 0, []) else TN) else (bif Nat.beq pc 9 then (.putfield 9, 12, (1, 0, 0), 0, 0, []) else TN)) else (bif Nat.blt pc 13 then (bif Nat.beq pc 12 then (.aload_n 0, 13, (0, 0, 0), 0, 0, []) else TN) else (bif Nat.blt pc 14 then (bif Nat.beq pc 13 then (.iconst 3, 14, (0, 0, 0), 3, 0, []) else TN) else (bif Nat.beq pc 14 then (.newarray .int, 16, (20, 3, 0), 0, 0, []) else TN))))) else (bif Nat.blt pc 24 then (bif Nat.blt pc 20 then (bif Nat.blt pc 19 then (bif Nat.beq pc 16 then (.putfield 15, 19, (1, 2, 0), 0, 0, []) else TN) else (bif Nat.beq pc 19 then (.aload_n 0, 20, (0, 0, 0), 0, 0, []) else TN)) else (bif Nat.blt pc 22 then (bif Nat.beq pc 20 then (.bipush 108, 22, (0, 0, 0), 108, 0, []) else TN) else (bif Nat.beq pc 22 then (.newarray .int, 24, (20, 108, 0), 0, 0, []) else TN))) else (bif Nat.blt pc 28 then (bif Nat.blt pc 27 then (bif Nat.beq pc 24 then (.putfield 18, 27, (1, 6, 0), 0, 0, []) else TN) else (bif Nat.beq pc 27 then (.aload_n 0, 28, (0, 0, 0), 0, 0, []) else TN)) else (bif Nat.blt pc 29 then (bif Nat.beq pc 28 then (.aload_n 1, 29, (1, 0, 0), 0, 0, []) else TN) else (bif Nat.blt pc 32 then (bif Nat.beq pc 29 then (.putfield 21, 32, (1, 4, 0), 0, 0, []) else TN) else (bif Nat.beq pc 32 then (.return_, 33, (0, 0, 0), 0, 0, []) else TN)))))
def tb_X1_init (pc : Nat) : TI := bif Nat.ble 33 pc then TN else tt_X1_init pc
theorem ok_X1_init : tOK 1 (decide ("<init>" = "<init>")) cX1_init tb_X1_init := tOK_of 33 tn_of (by decide +kernel)
def f_X1_init (L : Lay) (σ : Sto) (a0 : Nat) (a1 : Option Nat) : Option (Lay × Sto) := (if (108 : Int32) = nI 108 then (al L σ 20 108 108).bind fun q1 => (putR q1.2.2 a0 0 (some q1.1)).bind fun σ2 => (if (3 : Int32) = nI 3 then (al q1.2.1 σ2 20 3 3).bind fun q3 => (putR q3.2.2 a0 2 (some q3.1)).bind fun σ4 => (if (108 : Int32) = nI 108 then (al q3.2.1 σ4 20 108 108).bind fun q5 => (putR q5.2.2 a0 6 (some q5.1)).bind fun σ6 => (putR σ6 a0 4 a1).bind fun σ7 => some (q5.2.1, σ7) else none) else none) else none)
def ad_X1_init : ADT := fun O L σ as k => match as with
  | [.inr (.inr (.inl (ta0, some a0))), .inr (.inr (.inl (ta1, a1)))] => bif Nat.beq ta0 1 && (Nat.beq ta1 9 && true) then (f_X1_init L σ a0 a1).bind fun r => k none r.1 r.2 else none
  | _ => none
abbrev cl_X1_init {O : Type} : CLT O := cl0
theorem hc_X1_init (G : GT) (l : Launch) {d : Nat} (hd : 1 ≤ d) {O : Type} : HCL G l (false, false) d (cl_X1_init (O := O)) := hcl0
theorem rt_X1_init : retOK (6, 0) none := ⟨fun h => absurd h (by decide), fun h => absurd h (by decide), fun _ => rfl⟩
set_option maxRecDepth 20000 in
theorem ca_X1_init (G : GT) (l : Launch) {d : Nat} (hd : 1 ≤ d) : CA G l 217 (false, false) d ad_X1_init := by
  intro O L σ as k o h hW hok
  unfold ad_X1_init at h
  split at h
  · obtain ⟨hq0, hA0⟩ := bif_s h
    obtain ⟨e0, hq1⟩ := beq_and hq0
    obtain ⟨e1, hq2⟩ := beq_and hq1
    subst e0
    subst e1
    obtain ⟨r, hr, hk⟩ := Option.bind_eq_some_iff.mp hA0
    exact ca_of (q := dcAV r) (by decide) rfl (Nat.le_of_ble_eq_true rfl) hk (fun e => by cases e) (fun e => by cases e) (exs (sp := []) (K := k0) (L0 := L) (σ0 := σ) ok_X1_init rt_X1_init (by omega) (hc_X1_init G l hd) hrAV hk0 21 hr (inv0 hW hok))
  · cases h
def tt_X3_init (pc : Nat) : TI := bif Nat.blt pc 5 then (bif Nat.blt pc 1 then (bif Nat.beq pc 0 then (.aload_n 0, 1, (0, 0, 0), 0, 0, []) else TN) else (bif Nat.blt pc 4 then (bif Nat.beq pc 1 then (.invokespecial 1, 4, (0, 0, 0), 0, 0, []) else TN) else (bif Nat.beq pc 4 then (.aload_n 0, 5, (0, 0, 0), 0, 0, []) else TN))) else (bif Nat.blt pc 9 then (bif Nat.blt pc 7 then (bif Nat.beq pc 5 then (.bipush 26, 7, (0, 0, 0), 26, 0, []) else TN) else (bif Nat.beq pc 7 then (.newarray .int, 9, (20, 26, 0), 0, 0, []) else TN)) else (bif Nat.blt pc 12 then (bif Nat.beq pc 9 then (.putfield 9, 12, (3, 0, 0), 0, 0, []) else TN) else (bif Nat.beq pc 12 then (.return_, 13, (0, 0, 0), 0, 0, []) else TN)))
def tb_X3_init (pc : Nat) : TI := bif Nat.ble 13 pc then TN else tt_X3_init pc
theorem ok_X3_init : tOK 3 (decide ("<init>" = "<init>")) cX3_init tb_X3_init := tOK_of 13 tn_of (by decide +kernel)
def f_X3_init (L : Lay) (σ : Sto) (a0 : Nat) : Option (Lay × Sto) := (if (26 : Int32) = nI 26 then (al L σ 20 26 26).bind fun q1 => (putR q1.2.2 a0 0 (some q1.1)).bind fun σ2 => some (q1.2.1, σ2) else none)
def ad_X3_init : ADT := fun O L σ as k => match as with
  | [.inr (.inr (.inl (ta0, some a0)))] => bif Nat.beq ta0 3 && true then (f_X3_init L σ a0).bind fun r => k none r.1 r.2 else none
  | _ => none
abbrev cl_X3_init {O : Type} : CLT O := cl0
theorem hc_X3_init (G : GT) (l : Launch) {d : Nat} (hd : 1 ≤ d) {O : Type} : HCL G l (false, false) d (cl_X3_init (O := O)) := hcl0
theorem rt_X3_init : retOK (6, 0) none := ⟨fun h => absurd h (by decide), fun h => absurd h (by decide), fun _ => rfl⟩
set_option maxRecDepth 20000 in
theorem ca_X3_init (G : GT) (l : Launch) {d : Nat} (hd : 1 ≤ d) : CA G l 239 (false, false) d ad_X3_init := by
  intro O L σ as k o h hW hok
  unfold ad_X3_init at h
  split at h
  · obtain ⟨hq0, hA0⟩ := bif_s h
    obtain ⟨e0, hq1⟩ := beq_and hq0
    subst e0
    obtain ⟨r, hr, hk⟩ := Option.bind_eq_some_iff.mp hA0
    exact ca_of (q := dcAV r) (by decide) rfl (Nat.le_of_ble_eq_true rfl) hk (fun e => by cases e) (fun e => by cases e) (exs (sp := []) (K := k0) (L0 := L) (σ0 := σ) ok_X3_init rt_X3_init (by omega) (hc_X3_init G l hd) hrAV hk0 10 hr (inv0 hW hok))
  · cases h
def tt_X6_init (pc : Nat) : TI := bif Nat.blt pc 27 then (bif Nat.blt pc 16 then (bif Nat.blt pc 7 then (bif Nat.blt pc 4 then (bif Nat.blt pc 1 then (bif Nat.beq pc 0 then (.aload_n 0, 1, (0, 0, 0), 0, 0, []) else TN) else (bif Nat.beq pc 1 then (.invokespecial 1, 4, (0, 0, 0), 0, 0, []) else TN)) else (bif Nat.blt pc 5 then (bif Nat.beq pc 4 then (.aload_n 0, 5, (0, 0, 0), 0, 0, []) else TN) else (bif Nat.beq pc 5 then (.bipush 12, 7, (0, 0, 0), 12, 0, []) else TN))) else (bif Nat.blt pc 12 then (bif Nat.blt pc 9 then (bif Nat.beq pc 7 then (.newarray .int, 9, (20, 12, 0), 0, 0, []) else TN) else (bif Nat.beq pc 9 then (.putfield 9, 12, (6, 0, 0), 0, 0, []) else TN)) else (bif Nat.blt pc 13 then (bif Nat.beq pc 12 then (.aload_n 0, 13, (0, 0, 0), 0, 0, []) else TN) else (bif Nat.blt pc 14 then (bif Nat.beq pc 13 then (.iconst 5, 14, (0, 0, 0), 5, 0, []) else TN) else (bif Nat.beq pc 14 then (.newarray .int, 16, (20, 5, 0), 0, 0, []) else TN))))) else (bif Nat.blt pc 21 then (bif Nat.blt pc 18 then (bif Nat.blt pc 17 then (bif Nat.beq pc 16 then (.dup, 17, (0, 0, 0), 0, 0, []) else TN) else (bif Nat.beq pc 17 then (.iconst 0, 18, (0, 0, 0), 0, 0, []) else TN)) else (bif Nat.blt pc 19 then (bif Nat.beq pc 18 then (.iconst 0, 19, (0, 0, 0), 0, 0, []) else TN) else (bif Nat.blt pc 20 then (bif Nat.beq pc 19 then (.iastore, 20, (0, 0, 0), 0, 0, []) else TN) else (bif Nat.beq pc 20 then (.dup, 21, (0, 0, 0), 0, 0, []) else TN)))) else (bif Nat.blt pc 24 then (bif Nat.blt pc 22 then (bif Nat.beq pc 21 then (.iconst 1, 22, (0, 0, 0), 1, 0, []) else TN) else (bif Nat.beq pc 22 then (.bipush 50, 24, (0, 0, 0), 50, 0, []) else TN)) else (bif Nat.blt pc 25 then (bif Nat.beq pc 24 then (.iastore, 25, (0, 0, 0), 0, 0, []) else TN) else (bif Nat.blt pc 26 then (bif Nat.beq pc 25 then (.dup, 26, (0, 0, 0), 0, 0, []) else TN) else (bif Nat.beq pc 26 then (.iconst 2, 27, (0, 0, 0), 2, 0, []) else TN)))))) else (bif Nat.blt pc 37 then (bif Nat.blt pc 32 then (bif Nat.blt pc 29 then (bif Nat.blt pc 28 then (bif Nat.beq pc 27 then (.iconst 0, 28, (0, 0, 0), 0, 0, []) else TN) else (bif Nat.beq pc 28 then (.iastore, 29, (0, 0, 0), 0, 0, []) else TN)) else (bif Nat.blt pc 30 then (bif Nat.beq pc 29 then (.dup, 30, (0, 0, 0), 0, 0, []) else TN) else (bif Nat.blt pc 31 then (bif Nat.beq pc 30 then (.iconst 3, 31, (0, 0, 0), 3, 0, []) else TN) else (bif Nat.beq pc 31 then (.iconst 3, 32, (0, 0, 0), 3, 0, []) else TN)))) else (bif Nat.blt pc 34 then (bif Nat.blt pc 33 then (bif Nat.beq pc 32 then (.iastore, 33, (0, 0, 0), 0, 0, []) else TN) else (bif Nat.beq pc 33 then (.dup, 34, (0, 0, 0), 0, 0, []) else TN)) else (bif Nat.blt pc 35 then (bif Nat.beq pc 34 then (.iconst 4, 35, (0, 0, 0), 4, 0, []) else TN) else (bif Nat.blt pc 36 then (bif Nat.beq pc 35 then (.iconst 3, 36, (0, 0, 0), 3, 0, []) else TN) else (bif Nat.beq pc 36 then (.iastore, 37, (0, 0, 0), 0, 0, []) else TN))))) else (bif Nat.blt pc 48 then (bif Nat.blt pc 41 then (bif Nat.blt pc 40 then (bif Nat.beq pc 37 then (.putfield 13, 40, (6, 1, 0), 0, 0, []) else TN) else (bif Nat.beq pc 40 then (.aload_n 0, 41, (0, 0, 0), 0, 0, []) else TN)) else (bif Nat.blt pc 43 then (bif Nat.beq pc 41 then (.bipush 30, 43, (0, 0, 0), 30, 0, []) else TN) else (bif Nat.blt pc 45 then (bif Nat.beq pc 43 then (.newarray .int, 45, (20, 30, 0), 0, 0, []) else TN) else (bif Nat.beq pc 45 then (.putfield 16, 48, (6, 2, 0), 0, 0, []) else TN)))) else (bif Nat.blt pc 51 then (bif Nat.blt pc 49 then (bif Nat.beq pc 48 then (.aload_n 0, 49, (0, 0, 0), 0, 0, []) else TN) else (bif Nat.beq pc 49 then (.bipush 13, 51, (0, 0, 0), 13, 0, []) else TN)) else (bif Nat.blt pc 53 then (bif Nat.beq pc 51 then (.newarray .int, 53, (20, 13, 0), 0, 0, []) else TN) else (bif Nat.blt pc 56 then (bif Nat.beq pc 53 then (.putfield 19, 56, (6, 4, 0), 0, 0, []) else TN) else (bif Nat.beq pc 56 then (.return_, 57, (0, 0, 0), 0, 0, []) else TN))))))
def tb_X6_init (pc : Nat) : TI := bif Nat.ble 57 pc then TN else tt_X6_init pc
theorem ok_X6_init : tOK 6 (decide ("<init>" = "<init>")) cX6_init tb_X6_init := tOK_of 57 tn_of (by decide +kernel)
def f_X6_init_48 (L : Lay) (σ : Sto) (a0 : Nat) : Option (Lay × Sto) := (if (13 : Int32) = nI 13 then (al L σ 20 13 13).bind fun q1 => (putR q1.2.2 a0 4 (some q1.1)).bind fun σ2 => some (q1.2.1, σ2) else none)
def A_X6_init_48 (c : Lay → Sto → Nat → Option (Lay × Sto)) (lc : List (Option AV)) (st : List AV) (L : Lay) (σ : Sto) : Option (Lay × Sto) := match lc, st with
  | [some (.inr (.inr (.inl (ta0, some a0))))], [] => bif Nat.beq ta0 6 && true then c L σ a0 else none
  | _, _ => none
def f_X6_init_40 (L : Lay) (σ : Sto) (a0 : Nat) : Option (Lay × Sto) := (if (30 : Int32) = nI 30 then (al L σ 20 30 30).bind fun q3 => (putR q3.2.2 a0 2 (some q3.1)).bind fun σ4 => (f_X6_init_48) q3.2.1 σ4 a0 else none)
def A_X6_init_40 (c : Lay → Sto → Nat → Option (Lay × Sto)) (lc : List (Option AV)) (st : List AV) (L : Lay) (σ : Sto) : Option (Lay × Sto) := match lc, st with
  | [some (.inr (.inr (.inl (ta0, some a0))))], [] => bif Nat.beq ta0 6 && true then c L σ a0 else none
  | _, _ => none
def f_X6_init_12 (L : Lay) (σ : Sto) (a0 : Nat) : Option (Lay × Sto) := (if (5 : Int32) = nI 5 then (al L σ 20 5 5).bind fun q5 => (wI q5.2.1 q5.2.2 q5.1 0 0).bind fun σ6 => (wI q5.2.1 σ6 q5.1 1 50).bind fun σ7 => (wI q5.2.1 σ7 q5.1 2 0).bind fun σ8 => (wI q5.2.1 σ8 q5.1 3 3).bind fun σ9 => (wI q5.2.1 σ9 q5.1 4 3).bind fun σ10 => (putR σ10 a0 1 (some q5.1)).bind fun σ11 => (f_X6_init_40) q5.2.1 σ11 a0 else none)
def A_X6_init_12 (c : Lay → Sto → Nat → Option (Lay × Sto)) (lc : List (Option AV)) (st : List AV) (L : Lay) (σ : Sto) : Option (Lay × Sto) := match lc, st with
  | [some (.inr (.inr (.inl (ta0, some a0))))], [] => bif Nat.beq ta0 6 && true then c L σ a0 else none
  | _, _ => none
def f_X6_init (L : Lay) (σ : Sto) (a0 : Nat) : Option (Lay × Sto) := (if (12 : Int32) = nI 12 then (al L σ 20 12 12).bind fun q12 => (putR q12.2.2 a0 0 (some q12.1)).bind fun σ13 => (f_X6_init_12) q12.2.1 σ13 a0 else none)
def ad_X6_init : ADT := fun O L σ as k => match as with
  | [.inr (.inr (.inl (ta0, some a0)))] => bif Nat.beq ta0 6 && true then (f_X6_init L σ a0).bind fun r => k none r.1 r.2 else none
  | _ => none
abbrev cl_X6_init {O : Type} : CLT O := cl0
theorem hc_X6_init (G : GT) (l : Launch) {d : Nat} (hd : 1 ≤ d) {O : Type} : HCL G l (false, false) d (cl_X6_init (O := O)) := hcl0
theorem rt_X6_init : retOK (6, 0) none := ⟨fun h => absurd h (by decide), fun h => absurd h (by decide), fun _ => rfl⟩
set_option maxRecDepth 20000 in
theorem b_X6_init_48 {G : GT} {l : Launch} {d : Nat} {L0 : Lay} {σ0 : Sto} (hd : 1 ≤ d) : HF G l 6 "<init>" cX6_init 1 none d L0 σ0 (false, false) dcAV 48 (A_X6_init_48 f_X6_init_48) := by
  intro lc st L σ o h hI
  unfold A_X6_init_48 at h
  split at h
  · obtain ⟨hq0, hA1⟩ := bif_s h
    obtain ⟨e0, hq1⟩ := beq_and hq0
    subst e0
    exact exs (sp := []) (K := k0) ok_X6_init rt_X6_init (by omega) (hc_X6_init G l hd) hrAV hk0 42 hA1 hI
  · cases h
set_option maxRecDepth 20000 in
theorem b_X6_init_40 {G : GT} {l : Launch} {d : Nat} {L0 : Lay} {σ0 : Sto} (hd : 1 ≤ d) : HF G l 6 "<init>" cX6_init 1 none d L0 σ0 (false, false) dcAV 40 (A_X6_init_40 f_X6_init_40) := by
  intro lc st L σ o h hI
  unfold A_X6_init_40 at h
  split at h
  · obtain ⟨hq0, hA1⟩ := bif_s h
    obtain ⟨e0, hq1⟩ := beq_and hq0
    subst e0
    exact exs (sp := [48]) (K := (kc 48 (A_X6_init_48 (f_X6_init_48)) k0)) ok_X6_init rt_X6_init (by omega) (hc_X6_init G l hd) hrAV (hkc (b_X6_init_48 hd) hk0) 42 hA1 hI
  · cases h
set_option maxRecDepth 20000 in
theorem b_X6_init_12 {G : GT} {l : Launch} {d : Nat} {L0 : Lay} {σ0 : Sto} (hd : 1 ≤ d) : HF G l 6 "<init>" cX6_init 1 none d L0 σ0 (false, false) dcAV 12 (A_X6_init_12 f_X6_init_12) := by
  intro lc st L σ o h hI
  unfold A_X6_init_12 at h
  split at h
  · obtain ⟨hq0, hA1⟩ := bif_s h
    obtain ⟨e0, hq1⟩ := beq_and hq0
    subst e0
    exact exs (sp := [40]) (K := (kc 40 (A_X6_init_40 (f_X6_init_40)) k0)) ok_X6_init rt_X6_init (by omega) (hc_X6_init G l hd) hrAV (hkc (b_X6_init_40 hd) hk0) 42 hA1 hI
  · cases h
set_option maxRecDepth 20000 in
theorem ca_X6_init (G : GT) (l : Launch) {d : Nat} (hd : 1 ≤ d) : CA G l 250 (false, false) d ad_X6_init := by
  intro O L σ as k o h hW hok
  unfold ad_X6_init at h
  split at h
  · obtain ⟨hq0, hA0⟩ := bif_s h
    obtain ⟨e0, hq1⟩ := beq_and hq0
    subst e0
    obtain ⟨r, hr, hk⟩ := Option.bind_eq_some_iff.mp hA0
    exact ca_of (q := dcAV r) (by decide) rfl (Nat.le_of_ble_eq_true rfl) hk (fun e => by cases e) (fun e => by cases e) (exs (sp := [12]) (K := (kc 12 (A_X6_init_12 (f_X6_init_12)) k0)) (L0 := L) (σ0 := σ) ok_X6_init rt_X6_init (by omega) (hc_X6_init G l hd) hrAV (hkc (b_X6_init_12 hd) hk0) 42 hr (inv0 hW hok))
  · cases h
def tt_X8_init (pc : Nat) : TI := bif Nat.blt pc 9 then (bif Nat.blt pc 4 then (bif Nat.blt pc 1 then (bif Nat.beq pc 0 then (.aload_n 0, 1, (0, 0, 0), 0, 0, []) else TN) else (bif Nat.beq pc 1 then (.invokespecial 1, 4, (0, 0, 0), 0, 0, []) else TN)) else (bif Nat.blt pc 5 then (bif Nat.beq pc 4 then (.aload_n 0, 5, (0, 0, 0), 0, 0, []) else TN) else (bif Nat.blt pc 7 then (bif Nat.beq pc 5 then (.bipush 40, 7, (0, 0, 0), 40, 0, []) else TN) else (bif Nat.beq pc 7 then (.newarray .short, 9, (21, 40, 0), 0, 0, []) else TN)))) else (bif Nat.blt pc 13 then (bif Nat.blt pc 12 then (bif Nat.beq pc 9 then (.putfield 9, 12, (8, 0, 0), 0, 0, []) else TN) else (bif Nat.beq pc 12 then (.aload_n 0, 13, (0, 0, 0), 0, 0, []) else TN)) else (bif Nat.blt pc 14 then (bif Nat.beq pc 13 then (.iconst (-1), 14, (0, 0, 0), -1, 0, []) else TN) else (bif Nat.blt pc 17 then (bif Nat.beq pc 14 then (.putfield 13, 17, (8, 1, 0), 0, 0, []) else TN) else (bif Nat.beq pc 17 then (.return_, 18, (0, 0, 0), 0, 0, []) else TN))))
def tb_X8_init (pc : Nat) : TI := bif Nat.ble 18 pc then TN else tt_X8_init pc
theorem ok_X8_init : tOK 8 (decide ("<init>" = "<init>")) cX8_init tb_X8_init := tOK_of 18 tn_of (by decide +kernel)
def f_X8_init (L : Lay) (σ : Sto) (a0 : Nat) : Option (Lay × Sto) := (if (40 : Int32) = nI 40 then (al L σ 21 40 40).bind fun q1 => (putR q1.2.2 a0 0 (some q1.1)).bind fun σ2 => (putI σ2 a0 1 (-1)).bind fun σ3 => some (q1.2.1, σ3) else none)
def ad_X8_init : ADT := fun O L σ as k => match as with
  | [.inr (.inr (.inl (ta0, some a0)))] => bif Nat.beq ta0 8 && true then (f_X8_init L σ a0).bind fun r => k none r.1 r.2 else none
  | _ => none
abbrev cl_X8_init {O : Type} : CLT O := cl0
theorem hc_X8_init (G : GT) (l : Launch) {d : Nat} (hd : 1 ≤ d) {O : Type} : HCL G l (false, false) d (cl_X8_init (O := O)) := hcl0
theorem rt_X8_init : retOK (6, 0) none := ⟨fun h => absurd h (by decide), fun h => absurd h (by decide), fun _ => rfl⟩
set_option maxRecDepth 20000 in
theorem ca_X8_init (G : GT) (l : Launch) {d : Nat} (hd : 1 ≤ d) : CA G l 268 (false, false) d ad_X8_init := by
  intro O L σ as k o h hW hok
  unfold ad_X8_init at h
  split at h
  · obtain ⟨hq0, hA0⟩ := bif_s h
    obtain ⟨e0, hq1⟩ := beq_and hq0
    subst e0
    obtain ⟨r, hr, hk⟩ := Option.bind_eq_some_iff.mp hA0
    exact ca_of (q := dcAV r) (by decide) rfl (Nat.le_of_ble_eq_true rfl) hk (fun e => by cases e) (fun e => by cases e) (exs (sp := []) (K := k0) (L0 := L) (σ0 := σ) ok_X8_init rt_X8_init (by omega) (hc_X8_init G l hd) hrAV hk0 13 hr (inv0 hW hok))
  · cases h
def tt_X11_init (pc : Nat) : TI := bif Nat.blt pc 70 then (bif Nat.blt pc 33 then (bif Nat.blt pc 16 then (bif Nat.blt pc 8 then (bif Nat.blt pc 4 then (bif Nat.blt pc 1 then (bif Nat.beq pc 0 then (.aload_n 0, 1, (0, 0, 0), 0, 0, []) else TN) else (bif Nat.beq pc 1 then (.invokespecial 3, 4, (0, 0, 0), 0, 0, []) else TN)) else (bif Nat.blt pc 5 then (bif Nat.beq pc 4 then (.aload_n 0, 5, (0, 0, 0), 0, 0, []) else TN) else (bif Nat.beq pc 5 then (.new 9, 8, (10, 0, 0), 0, 0, []) else TN))) else (bif Nat.blt pc 12 then (bif Nat.blt pc 9 then (bif Nat.beq pc 8 then (.dup, 9, (0, 0, 0), 0, 0, []) else TN) else (bif Nat.beq pc 9 then (.invokespecial 11, 12, (49, 0, 10), 0, 0, []) else TN)) else (bif Nat.blt pc 15 then (bif Nat.beq pc 12 then (.putfield 12, 15, (11, 0, 0), 0, 0, []) else TN) else (bif Nat.beq pc 15 then (.aload_n 0, 16, (0, 0, 0), 0, 0, []) else TN)))) else (bif Nat.blt pc 24 then (bif Nat.blt pc 20 then (bif Nat.blt pc 19 then (bif Nat.beq pc 16 then (.new 16, 19, (7, 0, 0), 0, 0, []) else TN) else (bif Nat.beq pc 19 then (.dup, 20, (0, 0, 0), 0, 0, []) else TN)) else (bif Nat.blt pc 21 then (bif Nat.beq pc 20 then (.aload_n 0, 21, (0, 0, 0), 0, 0, []) else TN) else (bif Nat.beq pc 21 then (.getfield 12, 24, (11, 0, 0), 0, 0, []) else TN))) else (bif Nat.blt pc 30 then (bif Nat.blt pc 27 then (bif Nat.beq pc 24 then (.invokespecial 18, 27, (258, 1, 7), 0, 0, []) else TN) else (bif Nat.beq pc 27 then (.putfield 21, 30, (11, 1, 0), 0, 0, []) else TN)) else (bif Nat.blt pc 31 then (bif Nat.beq pc 30 then (.aload_n 0, 31, (0, 0, 0), 0, 0, []) else TN) else (bif Nat.beq pc 31 then (.bipush 12, 33, (0, 0, 0), 12, 0, []) else TN))))) else (bif Nat.blt pc 51 then (bif Nat.blt pc 43 then (bif Nat.blt pc 39 then (bif Nat.blt pc 36 then (bif Nat.beq pc 33 then (.anewarray 25, 36, (24, 12, 0), 0, 0, []) else TN) else (bif Nat.beq pc 36 then (.putfield 27, 39, (11, 2, 0), 0, 0, []) else TN)) else (bif Nat.blt pc 40 then (bif Nat.beq pc 39 then (.aload_n 0, 40, (0, 0, 0), 0, 0, []) else TN) else (bif Nat.beq pc 40 then (.new 31, 43, (5, 0, 0), 0, 0, []) else TN))) else (bif Nat.blt pc 47 then (bif Nat.blt pc 44 then (bif Nat.beq pc 43 then (.dup, 44, (0, 0, 0), 0, 0, []) else TN) else (bif Nat.beq pc 44 then (.invokespecial 33, 47, (246, 0, 5), 0, 0, []) else TN)) else (bif Nat.blt pc 50 then (bif Nat.beq pc 47 then (.putfield 34, 50, (11, 4, 0), 0, 0, []) else TN) else (bif Nat.beq pc 50 then (.aload_n 0, 51, (0, 0, 0), 0, 0, []) else TN)))) else (bif Nat.blt pc 61 then (bif Nat.blt pc 55 then (bif Nat.blt pc 54 then (bif Nat.beq pc 51 then (.new 38, 54, (9, 0, 0), 0, 0, []) else TN) else (bif Nat.beq pc 54 then (.dup, 55, (0, 0, 0), 0, 0, []) else TN)) else (bif Nat.blt pc 58 then (bif Nat.beq pc 55 then (.invokespecial 40, 58, (273, 0, 9), 0, 0, []) else TN) else (bif Nat.beq pc 58 then (.putfield 41, 61, (11, 5, 0), 0, 0, []) else TN))) else (bif Nat.blt pc 65 then (bif Nat.blt pc 62 then (bif Nat.beq pc 61 then (.aload_n 0, 62, (0, 0, 0), 0, 0, []) else TN) else (bif Nat.beq pc 62 then (.new 45, 65, (1, 0, 0), 0, 0, []) else TN)) else (bif Nat.blt pc 66 then (bif Nat.beq pc 65 then (.dup, 66, (0, 0, 0), 0, 0, []) else TN) else (bif Nat.blt pc 67 then (bif Nat.beq pc 66 then (.aload_n 0, 67, (0, 0, 0), 0, 0, []) else TN) else (bif Nat.beq pc 67 then (.getfield 41, 70, (11, 5, 0), 0, 0, []) else TN))))))) else (bif Nat.blt pc 108 then (bif Nat.blt pc 88 then (bif Nat.blt pc 80 then (bif Nat.blt pc 76 then (bif Nat.blt pc 73 then (bif Nat.beq pc 70 then (.invokespecial 47, 73, (217, 1, 1), 0, 0, []) else TN) else (bif Nat.beq pc 73 then (.putfield 50, 76, (11, 6, 0), 0, 0, []) else TN)) else (bif Nat.blt pc 77 then (bif Nat.beq pc 76 then (.aload_n 0, 77, (0, 0, 0), 0, 0, []) else TN) else (bif Nat.beq pc 77 then (.new 45, 80, (1, 0, 0), 0, 0, []) else TN))) else (bif Nat.blt pc 82 then (bif Nat.blt pc 81 then (bif Nat.beq pc 80 then (.dup, 81, (0, 0, 0), 0, 0, []) else TN) else (bif Nat.beq pc 81 then (.aload_n 0, 82, (0, 0, 0), 0, 0, []) else TN)) else (bif Nat.blt pc 85 then (bif Nat.beq pc 82 then (.getfield 41, 85, (11, 5, 0), 0, 0, []) else TN) else (bif Nat.beq pc 85 then (.invokespecial 47, 88, (217, 1, 1), 0, 0, []) else TN)))) else (bif Nat.blt pc 96 then (bif Nat.blt pc 92 then (bif Nat.blt pc 91 then (bif Nat.beq pc 88 then (.putfield 54, 91, (11, 7, 0), 0, 0, []) else TN) else (bif Nat.beq pc 91 then (.aload_n 0, 92, (0, 0, 0), 0, 0, []) else TN)) else (bif Nat.blt pc 95 then (bif Nat.beq pc 92 then (.new 57, 95, (3, 0, 0), 0, 0, []) else TN) else (bif Nat.beq pc 95 then (.dup, 96, (0, 0, 0), 0, 0, []) else TN))) else (bif Nat.blt pc 102 then (bif Nat.blt pc 99 then (bif Nat.beq pc 96 then (.invokespecial 59, 99, (239, 0, 3), 0, 0, []) else TN) else (bif Nat.beq pc 99 then (.putfield 60, 102, (11, 9, 0), 0, 0, []) else TN)) else (bif Nat.blt pc 103 then (bif Nat.beq pc 102 then (.aload_n 0, 103, (0, 0, 0), 0, 0, []) else TN) else (bif Nat.blt pc 105 then (bif Nat.beq pc 103 then (.bipush 12, 105, (0, 0, 0), 12, 0, []) else TN) else (bif Nat.beq pc 105 then (.anewarray 64, 108, (25, 12, 0), 0, 0, []) else TN)))))) else (bif Nat.blt pc 126 then (bif Nat.blt pc 116 then (bif Nat.blt pc 112 then (bif Nat.blt pc 111 then (bif Nat.beq pc 108 then (.putfield 66, 111, (11, 10, 0), 0, 0, []) else TN) else (bif Nat.beq pc 111 then (.aload_n 0, 112, (0, 0, 0), 0, 0, []) else TN)) else (bif Nat.blt pc 115 then (bif Nat.beq pc 112 then (.new 70, 115, (6, 0, 0), 0, 0, []) else TN) else (bif Nat.beq pc 115 then (.dup, 116, (0, 0, 0), 0, 0, []) else TN))) else (bif Nat.blt pc 122 then (bif Nat.blt pc 119 then (bif Nat.beq pc 116 then (.invokespecial 72, 119, (250, 0, 6), 0, 0, []) else TN) else (bif Nat.beq pc 119 then (.putfield 73, 122, (11, 12, 0), 0, 0, []) else TN)) else (bif Nat.blt pc 123 then (bif Nat.beq pc 122 then (.aload_n 0, 123, (0, 0, 0), 0, 0, []) else TN) else (bif Nat.beq pc 123 then (.new 77, 126, (8, 0, 0), 0, 0, []) else TN)))) else (bif Nat.blt pc 134 then (bif Nat.blt pc 130 then (bif Nat.blt pc 127 then (bif Nat.beq pc 126 then (.dup, 127, (0, 0, 0), 0, 0, []) else TN) else (bif Nat.beq pc 127 then (.invokespecial 79, 130, (268, 0, 8), 0, 0, []) else TN)) else (bif Nat.blt pc 133 then (bif Nat.beq pc 130 then (.putfield 80, 133, (11, 13, 0), 0, 0, []) else TN) else (bif Nat.beq pc 133 then (.aload_n 0, 134, (0, 0, 0), 0, 0, []) else TN))) else (bif Nat.blt pc 138 then (bif Nat.blt pc 137 then (bif Nat.beq pc 134 then (.new 77, 137, (8, 0, 0), 0, 0, []) else TN) else (bif Nat.beq pc 137 then (.dup, 138, (0, 0, 0), 0, 0, []) else TN)) else (bif Nat.blt pc 141 then (bif Nat.beq pc 138 then (.invokespecial 79, 141, (268, 0, 8), 0, 0, []) else TN) else (bif Nat.blt pc 144 then (bif Nat.beq pc 141 then (.putfield 84, 144, (11, 14, 0), 0, 0, []) else TN) else (bif Nat.beq pc 144 then (.return_, 145, (0, 0, 0), 0, 0, []) else TN)))))))
def tb_X11_init (pc : Nat) : TI := bif Nat.ble 145 pc then TN else tt_X11_init pc
theorem ok_X11_init : tOK 11 (decide ("<init>" = "<init>")) cX11_init tb_X11_init := tOK_of 145 tn_of (by decide +kernel)
def f_X11_init_133 (L : Lay) (σ : Sto) (a0 : Nat) : Option (Lay × Sto) := (al L σ 8 0 (nf 8)).bind fun q1 => (f_X8_init q1.2.1 q1.2.2 q1.1).bind fun r2 => (putR r2.2 a0 14 (some q1.1)).bind fun σ3 => some (r2.1, σ3)
def A_X11_init_133 (c : Lay → Sto → Nat → Option (Lay × Sto)) (lc : List (Option AV)) (st : List AV) (L : Lay) (σ : Sto) : Option (Lay × Sto) := match lc, st with
  | [some (.inr (.inr (.inl (ta0, some a0))))], [] => bif Nat.beq ta0 11 && true then c L σ a0 else none
  | _, _ => none
def f_X11_init_122 (L : Lay) (σ : Sto) (a0 : Nat) : Option (Lay × Sto) := (al L σ 8 0 (nf 8)).bind fun q4 => (f_X8_init q4.2.1 q4.2.2 q4.1).bind fun r5 => (putR r5.2 a0 13 (some q4.1)).bind fun σ6 => (f_X11_init_133) r5.1 σ6 a0
def A_X11_init_122 (c : Lay → Sto → Nat → Option (Lay × Sto)) (lc : List (Option AV)) (st : List AV) (L : Lay) (σ : Sto) : Option (Lay × Sto) := match lc, st with
  | [some (.inr (.inr (.inl (ta0, some a0))))], [] => bif Nat.beq ta0 11 && true then c L σ a0 else none
  | _, _ => none
def f_X11_init_111 (L : Lay) (σ : Sto) (a0 : Nat) : Option (Lay × Sto) := (al L σ 6 0 (nf 6)).bind fun q7 => (f_X6_init q7.2.1 q7.2.2 q7.1).bind fun r8 => (putR r8.2 a0 12 (some q7.1)).bind fun σ9 => (f_X11_init_122) r8.1 σ9 a0
def A_X11_init_111 (c : Lay → Sto → Nat → Option (Lay × Sto)) (lc : List (Option AV)) (st : List AV) (L : Lay) (σ : Sto) : Option (Lay × Sto) := match lc, st with
  | [some (.inr (.inr (.inl (ta0, some a0))))], [] => bif Nat.beq ta0 11 && true then c L σ a0 else none
  | _, _ => none
def f_X11_init_102 (L : Lay) (σ : Sto) (a0 : Nat) : Option (Lay × Sto) := (if (12 : Int32) = nI 12 then (al L σ 25 12 12).bind fun q10 => (putR q10.2.2 a0 10 (some q10.1)).bind fun σ11 => (f_X11_init_111) q10.2.1 σ11 a0 else none)
def A_X11_init_102 (c : Lay → Sto → Nat → Option (Lay × Sto)) (lc : List (Option AV)) (st : List AV) (L : Lay) (σ : Sto) : Option (Lay × Sto) := match lc, st with
  | [some (.inr (.inr (.inl (ta0, some a0))))], [] => bif Nat.beq ta0 11 && true then c L σ a0 else none
  | _, _ => none
def f_X11_init_91 (L : Lay) (σ : Sto) (a0 : Nat) : Option (Lay × Sto) := (al L σ 3 0 (nf 3)).bind fun q12 => (f_X3_init q12.2.1 q12.2.2 q12.1).bind fun r13 => (putR r13.2 a0 9 (some q12.1)).bind fun σ14 => (f_X11_init_102) r13.1 σ14 a0
def A_X11_init_91 (c : Lay → Sto → Nat → Option (Lay × Sto)) (lc : List (Option AV)) (st : List AV) (L : Lay) (σ : Sto) : Option (Lay × Sto) := match lc, st with
  | [some (.inr (.inr (.inl (ta0, some a0))))], [] => bif Nat.beq ta0 11 && true then c L σ a0 else none
  | _, _ => none
def f_X11_init_76 (L : Lay) (σ : Sto) (a0 : Nat) : Option (Lay × Sto) := (al L σ 1 0 (nf 1)).bind fun q15 => (f_X1_init q15.2.1 q15.2.2 q15.1 (q15.2.2.2.1 a0 5)).bind fun r16 => (putR r16.2 a0 7 (some q15.1)).bind fun σ17 => (f_X11_init_91) r16.1 σ17 a0
def A_X11_init_76 (c : Lay → Sto → Nat → Option (Lay × Sto)) (lc : List (Option AV)) (st : List AV) (L : Lay) (σ : Sto) : Option (Lay × Sto) := match lc, st with
  | [some (.inr (.inr (.inl (ta0, some a0))))], [] => bif Nat.beq ta0 11 && true then c L σ a0 else none
  | _, _ => none
def f_X11_init_61 (L : Lay) (σ : Sto) (a0 : Nat) : Option (Lay × Sto) := (al L σ 1 0 (nf 1)).bind fun q18 => (f_X1_init q18.2.1 q18.2.2 q18.1 (q18.2.2.2.1 a0 5)).bind fun r19 => (putR r19.2 a0 6 (some q18.1)).bind fun σ20 => (f_X11_init_76) r19.1 σ20 a0
def A_X11_init_61 (c : Lay → Sto → Nat → Option (Lay × Sto)) (lc : List (Option AV)) (st : List AV) (L : Lay) (σ : Sto) : Option (Lay × Sto) := match lc, st with
  | [some (.inr (.inr (.inl (ta0, some a0))))], [] => bif Nat.beq ta0 11 && true then c L σ a0 else none
  | _, _ => none
def f_X11_init_50 (L : Lay) (σ : Sto) (a0 : Nat) : Option (Lay × Sto) := (al L σ 9 0 (nf 9)).bind fun q21 => (f_X9_init q21.2.1 q21.2.2 q21.1).bind fun r22 => (putR r22.2 a0 5 (some q21.1)).bind fun σ23 => (f_X11_init_61) r22.1 σ23 a0
def A_X11_init_50 (c : Lay → Sto → Nat → Option (Lay × Sto)) (lc : List (Option AV)) (st : List AV) (L : Lay) (σ : Sto) : Option (Lay × Sto) := match lc, st with
  | [some (.inr (.inr (.inl (ta0, some a0))))], [] => bif Nat.beq ta0 11 && true then c L σ a0 else none
  | _, _ => none
def f_X11_init_39 (L : Lay) (σ : Sto) (a0 : Nat) : Option (Lay × Sto) := (al L σ 5 0 (nf 5)).bind fun q24 => (f_X5_init q24.2.1 q24.2.2 q24.1).bind fun r25 => (putR r25.2 a0 4 (some q24.1)).bind fun σ26 => (f_X11_init_50) r25.1 σ26 a0
def A_X11_init_39 (c : Lay → Sto → Nat → Option (Lay × Sto)) (lc : List (Option AV)) (st : List AV) (L : Lay) (σ : Sto) : Option (Lay × Sto) := match lc, st with
  | [some (.inr (.inr (.inl (ta0, some a0))))], [] => bif Nat.beq ta0 11 && true then c L σ a0 else none
  | _, _ => none
def f_X11_init_30 (L : Lay) (σ : Sto) (a0 : Nat) : Option (Lay × Sto) := (if (12 : Int32) = nI 12 then (al L σ 24 12 12).bind fun q27 => (putR q27.2.2 a0 2 (some q27.1)).bind fun σ28 => (f_X11_init_39) q27.2.1 σ28 a0 else none)
def A_X11_init_30 (c : Lay → Sto → Nat → Option (Lay × Sto)) (lc : List (Option AV)) (st : List AV) (L : Lay) (σ : Sto) : Option (Lay × Sto) := match lc, st with
  | [some (.inr (.inr (.inl (ta0, some a0))))], [] => bif Nat.beq ta0 11 && true then c L σ a0 else none
  | _, _ => none
def f_X11_init_15 (L : Lay) (σ : Sto) (a0 : Nat) : Option (Lay × Sto) := (al L σ 7 0 (nf 7)).bind fun q29 => (f_X7_init q29.2.1 q29.2.2 q29.1 (q29.2.2.2.1 a0 0)).bind fun r30 => (putR r30.2 a0 1 (some q29.1)).bind fun σ31 => (f_X11_init_30) r30.1 σ31 a0
def A_X11_init_15 (c : Lay → Sto → Nat → Option (Lay × Sto)) (lc : List (Option AV)) (st : List AV) (L : Lay) (σ : Sto) : Option (Lay × Sto) := match lc, st with
  | [some (.inr (.inr (.inl (ta0, some a0))))], [] => bif Nat.beq ta0 11 && true then c L σ a0 else none
  | _, _ => none
def f_X11_init (L : Lay) (σ : Sto) (a0 : Nat) : Option (Lay × Sto) := (al L σ 10 0 (nf 10)).bind fun q32 => (f_X10_init q32.2.1 q32.2.2 q32.1).bind fun r33 => (putR r33.2 a0 0 (some q32.1)).bind fun σ34 => (f_X11_init_15) r33.1 σ34 a0
def ad_X11_init : ADT := fun O L σ as k => match as with
  | [.inr (.inr (.inl (ta0, some a0)))] => bif Nat.beq ta0 11 && true then (f_X11_init L σ a0).bind fun r => k none r.1 r.2 else none
  | _ => none
abbrev cl_X11_init {O : Type} : CLT O := (clc 268 ad_X8_init (clc 250 ad_X6_init (clc 239 ad_X3_init (clc 217 ad_X1_init (clc 273 ad_X9_init (clc 246 ad_X5_init (clc 258 ad_X7_init (clc 49 ad_X10_init cl0))))))))
theorem hc_X11_init (G : GT) (l : Launch) {d : Nat} (hd : 2 ≤ d) {O : Type} : HCL G l (false, false) d (cl_X11_init (O := O)) := (hclc (ca_X8_init G l (d := 1) (Nat.le_refl _)) (fun e => by cases e) (fun e => by cases e) (by omega) (hclc (ca_X6_init G l (d := 1) (Nat.le_refl _)) (fun e => by cases e) (fun e => by cases e) (by omega) (hclc (ca_X3_init G l (d := 1) (Nat.le_refl _)) (fun e => by cases e) (fun e => by cases e) (by omega) (hclc (ca_X1_init G l (d := 1) (Nat.le_refl _)) (fun e => by cases e) (fun e => by cases e) (by omega) (hclc (ca_X9_init G l (d := 1) (Nat.le_refl _)) (fun e => by cases e) (fun e => by cases e) (by omega) (hclc (ca_X5_init G l (d := 1) (Nat.le_refl _)) (fun e => by cases e) (fun e => by cases e) (by omega) (hclc (ca_X7_init G l (d := 1) (Nat.le_refl _)) (fun e => by cases e) (fun e => by cases e) (by omega) (hclc (ca_X10_init G l (d := 1) (Nat.le_refl _)) (fun e => by cases e) (fun e => by cases e) (by omega) hcl0))))))))
theorem rt_X11_init : retOK (6, 0) none := ⟨fun h => absurd h (by decide), fun h => absurd h (by decide), fun _ => rfl⟩
set_option maxRecDepth 20000 in
theorem b_X11_init_133 {G : GT} {l : Launch} {d : Nat} {L0 : Lay} {σ0 : Sto} (hd : 2 ≤ d) : HF G l 11 "<init>" cX11_init 1 none d L0 σ0 (false, false) dcAV 133 (A_X11_init_133 f_X11_init_133) := by
  intro lc st L σ o h hI
  unfold A_X11_init_133 at h
  split at h
  · obtain ⟨hq0, hA1⟩ := bif_s h
    obtain ⟨e0, hq1⟩ := beq_and hq0
    subst e0
    exact exs (sp := []) (K := k0) ok_X11_init rt_X11_init (by omega) (hc_X11_init G l hd) hrAV hk0 70 hA1 hI
  · cases h
set_option maxRecDepth 20000 in
theorem b_X11_init_122 {G : GT} {l : Launch} {d : Nat} {L0 : Lay} {σ0 : Sto} (hd : 2 ≤ d) : HF G l 11 "<init>" cX11_init 1 none d L0 σ0 (false, false) dcAV 122 (A_X11_init_122 f_X11_init_122) := by
  intro lc st L σ o h hI
  unfold A_X11_init_122 at h
  split at h
  · obtain ⟨hq0, hA1⟩ := bif_s h
    obtain ⟨e0, hq1⟩ := beq_and hq0
    subst e0
    exact exs (sp := [133]) (K := (kc 133 (A_X11_init_133 (f_X11_init_133)) k0)) ok_X11_init rt_X11_init (by omega) (hc_X11_init G l hd) hrAV (hkc (b_X11_init_133 hd) hk0) 70 hA1 hI
  · cases h
set_option maxRecDepth 20000 in
theorem b_X11_init_111 {G : GT} {l : Launch} {d : Nat} {L0 : Lay} {σ0 : Sto} (hd : 2 ≤ d) : HF G l 11 "<init>" cX11_init 1 none d L0 σ0 (false, false) dcAV 111 (A_X11_init_111 f_X11_init_111) := by
  intro lc st L σ o h hI
  unfold A_X11_init_111 at h
  split at h
  · obtain ⟨hq0, hA1⟩ := bif_s h
    obtain ⟨e0, hq1⟩ := beq_and hq0
    subst e0
    exact exs (sp := [122]) (K := (kc 122 (A_X11_init_122 (f_X11_init_122)) k0)) ok_X11_init rt_X11_init (by omega) (hc_X11_init G l hd) hrAV (hkc (b_X11_init_122 hd) hk0) 70 hA1 hI
  · cases h
set_option maxRecDepth 20000 in
theorem b_X11_init_102 {G : GT} {l : Launch} {d : Nat} {L0 : Lay} {σ0 : Sto} (hd : 2 ≤ d) : HF G l 11 "<init>" cX11_init 1 none d L0 σ0 (false, false) dcAV 102 (A_X11_init_102 f_X11_init_102) := by
  intro lc st L σ o h hI
  unfold A_X11_init_102 at h
  split at h
  · obtain ⟨hq0, hA1⟩ := bif_s h
    obtain ⟨e0, hq1⟩ := beq_and hq0
    subst e0
    exact exs (sp := [111]) (K := (kc 111 (A_X11_init_111 (f_X11_init_111)) k0)) ok_X11_init rt_X11_init (by omega) (hc_X11_init G l hd) hrAV (hkc (b_X11_init_111 hd) hk0) 70 hA1 hI
  · cases h
set_option maxRecDepth 20000 in
theorem b_X11_init_91 {G : GT} {l : Launch} {d : Nat} {L0 : Lay} {σ0 : Sto} (hd : 2 ≤ d) : HF G l 11 "<init>" cX11_init 1 none d L0 σ0 (false, false) dcAV 91 (A_X11_init_91 f_X11_init_91) := by
  intro lc st L σ o h hI
  unfold A_X11_init_91 at h
  split at h
  · obtain ⟨hq0, hA1⟩ := bif_s h
    obtain ⟨e0, hq1⟩ := beq_and hq0
    subst e0
    exact exs (sp := [102]) (K := (kc 102 (A_X11_init_102 (f_X11_init_102)) k0)) ok_X11_init rt_X11_init (by omega) (hc_X11_init G l hd) hrAV (hkc (b_X11_init_102 hd) hk0) 70 hA1 hI
  · cases h
set_option maxRecDepth 20000 in
theorem b_X11_init_76 {G : GT} {l : Launch} {d : Nat} {L0 : Lay} {σ0 : Sto} (hd : 2 ≤ d) : HF G l 11 "<init>" cX11_init 1 none d L0 σ0 (false, false) dcAV 76 (A_X11_init_76 f_X11_init_76) := by
  intro lc st L σ o h hI
  unfold A_X11_init_76 at h
  split at h
  · obtain ⟨hq0, hA1⟩ := bif_s h
    obtain ⟨e0, hq1⟩ := beq_and hq0
    subst e0
    exact exs (sp := [91]) (K := (kc 91 (A_X11_init_91 (f_X11_init_91)) k0)) ok_X11_init rt_X11_init (by omega) (hc_X11_init G l hd) hrAV (hkc (b_X11_init_91 hd) hk0) 70 hA1 hI
  · cases h
set_option maxRecDepth 20000 in
theorem b_X11_init_61 {G : GT} {l : Launch} {d : Nat} {L0 : Lay} {σ0 : Sto} (hd : 2 ≤ d) : HF G l 11 "<init>" cX11_init 1 none d L0 σ0 (false, false) dcAV 61 (A_X11_init_61 f_X11_init_61) := by
  intro lc st L σ o h hI
  unfold A_X11_init_61 at h
  split at h
  · obtain ⟨hq0, hA1⟩ := bif_s h
    obtain ⟨e0, hq1⟩ := beq_and hq0
    subst e0
    exact exs (sp := [76]) (K := (kc 76 (A_X11_init_76 (f_X11_init_76)) k0)) ok_X11_init rt_X11_init (by omega) (hc_X11_init G l hd) hrAV (hkc (b_X11_init_76 hd) hk0) 70 hA1 hI
  · cases h
set_option maxRecDepth 20000 in
theorem b_X11_init_50 {G : GT} {l : Launch} {d : Nat} {L0 : Lay} {σ0 : Sto} (hd : 2 ≤ d) : HF G l 11 "<init>" cX11_init 1 none d L0 σ0 (false, false) dcAV 50 (A_X11_init_50 f_X11_init_50) := by
  intro lc st L σ o h hI
  unfold A_X11_init_50 at h
  split at h
  · obtain ⟨hq0, hA1⟩ := bif_s h
    obtain ⟨e0, hq1⟩ := beq_and hq0
    subst e0
    exact exs (sp := [61]) (K := (kc 61 (A_X11_init_61 (f_X11_init_61)) k0)) ok_X11_init rt_X11_init (by omega) (hc_X11_init G l hd) hrAV (hkc (b_X11_init_61 hd) hk0) 70 hA1 hI
  · cases h
set_option maxRecDepth 20000 in
theorem b_X11_init_39 {G : GT} {l : Launch} {d : Nat} {L0 : Lay} {σ0 : Sto} (hd : 2 ≤ d) : HF G l 11 "<init>" cX11_init 1 none d L0 σ0 (false, false) dcAV 39 (A_X11_init_39 f_X11_init_39) := by
  intro lc st L σ o h hI
  unfold A_X11_init_39 at h
  split at h
  · obtain ⟨hq0, hA1⟩ := bif_s h
    obtain ⟨e0, hq1⟩ := beq_and hq0
    subst e0
    exact exs (sp := [50]) (K := (kc 50 (A_X11_init_50 (f_X11_init_50)) k0)) ok_X11_init rt_X11_init (by omega) (hc_X11_init G l hd) hrAV (hkc (b_X11_init_50 hd) hk0) 70 hA1 hI
  · cases h
set_option maxRecDepth 20000 in
theorem b_X11_init_30 {G : GT} {l : Launch} {d : Nat} {L0 : Lay} {σ0 : Sto} (hd : 2 ≤ d) : HF G l 11 "<init>" cX11_init 1 none d L0 σ0 (false, false) dcAV 30 (A_X11_init_30 f_X11_init_30) := by
  intro lc st L σ o h hI
  unfold A_X11_init_30 at h
  split at h
  · obtain ⟨hq0, hA1⟩ := bif_s h
    obtain ⟨e0, hq1⟩ := beq_and hq0
    subst e0
    exact exs (sp := [39]) (K := (kc 39 (A_X11_init_39 (f_X11_init_39)) k0)) ok_X11_init rt_X11_init (by omega) (hc_X11_init G l hd) hrAV (hkc (b_X11_init_39 hd) hk0) 70 hA1 hI
  · cases h
set_option maxRecDepth 20000 in
theorem b_X11_init_15 {G : GT} {l : Launch} {d : Nat} {L0 : Lay} {σ0 : Sto} (hd : 2 ≤ d) : HF G l 11 "<init>" cX11_init 1 none d L0 σ0 (false, false) dcAV 15 (A_X11_init_15 f_X11_init_15) := by
  intro lc st L σ o h hI
  unfold A_X11_init_15 at h
  split at h
  · obtain ⟨hq0, hA1⟩ := bif_s h
    obtain ⟨e0, hq1⟩ := beq_and hq0
    subst e0
    exact exs (sp := [30]) (K := (kc 30 (A_X11_init_30 (f_X11_init_30)) k0)) ok_X11_init rt_X11_init (by omega) (hc_X11_init G l hd) hrAV (hkc (b_X11_init_30 hd) hk0) 70 hA1 hI
  · cases h
set_option maxRecDepth 20000 in
theorem ca_X11_init (G : GT) (l : Launch) {d : Nat} (hd : 2 ≤ d) : CA G l 75 (false, false) d ad_X11_init := by
  intro O L σ as k o h hW hok
  unfold ad_X11_init at h
  split at h
  · obtain ⟨hq0, hA0⟩ := bif_s h
    obtain ⟨e0, hq1⟩ := beq_and hq0
    subst e0
    obtain ⟨r, hr, hk⟩ := Option.bind_eq_some_iff.mp hA0
    exact ca_of (q := dcAV r) (by decide) rfl (Nat.le_of_ble_eq_true rfl) hk (fun e => by cases e) (fun e => by cases e) (exs (sp := [15]) (K := (kc 15 (A_X11_init_15 (f_X11_init_15)) k0)) (L0 := L) (σ0 := σ) ok_X11_init rt_X11_init (by omega) (hc_X11_init G l hd) hrAV (hkc (b_X11_init_15 hd) hk0) 70 hr (inv0 hW hok))
  · cases h
