def tt_X6_compareRows (pc : Nat) : TI := bif Nat.blt pc 57 then (bif Nat.blt pc 28 then (bif Nat.blt pc 11 then (bif Nat.blt pc 6 then (bif Nat.blt pc 4 then (bif Nat.blt pc 1 then (bif Nat.beq pc 0 then (.aload_n 0, 1, (0, 0, 0), 0, 0, []) else TN) else (bif Nat.beq pc 1 then (.getfield 13, 4, (6, 1, 0), 0, 0, []) else TN)) else (bif Nat.blt pc 5 then (bif Nat.beq pc 4 then (.iconst 0, 5, (0, 0, 0), 0, 0, []) else TN) else (bif Nat.beq pc 5 then (.iaload, 6, (0, 0, 0), 0, 0, []) else TN))) else (bif Nat.blt pc 8 then (bif Nat.blt pc 7 then (bif Nat.beq pc 6 then (.istore_n 2, 7, (2, 0, 0), 0, 0, []) else TN) else (bif Nat.beq pc 7 then (.iconst 0, 8, (0, 0, 0), 0, 0, []) else TN)) else (bif Nat.blt pc 9 then (bif Nat.beq pc 8 then (.istore_n 3, 9, (3, 0, 0), 0, 0, []) else TN) else (bif Nat.blt pc 10 then (bif Nat.beq pc 9 then (.iload_n 3, 10, (3, 0, 0), 0, 0, []) else TN) else (bif Nat.beq pc 10 then (.aload_n 0, 11, (0, 0, 0), 0, 0, []) else TN))))) else (bif Nat.blt pc 22 then (bif Nat.blt pc 17 then (bif Nat.blt pc 14 then (bif Nat.beq pc 11 then (.getfield 44, 14, (6, 5, 0), 0, 0, []) else TN) else (bif Nat.beq pc 14 then (.if_icmp .ge 75, 17, (89, 0, 0), 0, 0, []) else TN)) else (bif Nat.blt pc 18 then (bif Nat.beq pc 17 then (.aload_n 0, 18, (0, 0, 0), 0, 0, []) else TN) else (bif Nat.blt pc 21 then (bif Nat.beq pc 18 then (.getfield 53, 21, (6, 8, 0), 0, 0, []) else TN) else (bif Nat.beq pc 21 then (.iload_n 3, 22, (3, 0, 0), 0, 0, []) else TN)))) else (bif Nat.blt pc 24 then (bif Nat.blt pc 23 then (bif Nat.beq pc 22 then (.ishr, 23, (0, 0, 0), 0, 0, []) else TN) else (bif Nat.beq pc 23 then (.iconst 1, 24, (0, 0, 0), 1, 0, []) else TN)) else (bif Nat.blt pc 25 then (bif Nat.beq pc 24 then (.iand, 25, (0, 0, 0), 0, 0, []) else TN) else (bif Nat.blt pc 27 then (bif Nat.beq pc 25 then (.istore 4, 27, (4, 0, 0), 0, 0, []) else TN) else (bif Nat.beq pc 27 then (.iload_n 2, 28, (2, 0, 0), 0, 0, []) else TN)))))) else (bif Nat.blt pc 42 then (bif Nat.blt pc 34 then (bif Nat.blt pc 32 then (bif Nat.blt pc 29 then (bif Nat.beq pc 28 then (.aload_n 0, 29, (0, 0, 0), 0, 0, []) else TN) else (bif Nat.beq pc 29 then (.getfield 13, 32, (6, 1, 0), 0, 0, []) else TN)) else (bif Nat.blt pc 33 then (bif Nat.beq pc 32 then (.iconst 2, 33, (0, 0, 0), 2, 0, []) else TN) else (bif Nat.beq pc 33 then (.iaload, 34, (0, 0, 0), 0, 0, []) else TN))) else (bif Nat.blt pc 37 then (bif Nat.blt pc 36 then (bif Nat.beq pc 34 then (.iload 4, 36, (4, 0, 0), 0, 0, []) else TN) else (bif Nat.beq pc 36 then (.aload_n 0, 37, (0, 0, 0), 0, 0, []) else TN)) else (bif Nat.blt pc 40 then (bif Nat.beq pc 37 then (.getfield 47, 40, (6, 6, 0), 0, 0, []) else TN) else (bif Nat.blt pc 41 then (bif Nat.beq pc 40 then (.imul, 41, (0, 0, 0), 0, 0, []) else TN) else (bif Nat.beq pc 41 then (.isub, 42, (0, 0, 0), 0, 0, []) else TN))))) else (bif Nat.blt pc 47 then (bif Nat.blt pc 44 then (bif Nat.blt pc 43 then (bif Nat.beq pc 42 then (.iadd, 43, (0, 0, 0), 0, 0, []) else TN) else (bif Nat.beq pc 43 then (.istore_n 2, 44, (2, 0, 0), 0, 0, []) else TN)) else (bif Nat.blt pc 45 then (bif Nat.beq pc 44 then (.aload_n 0, 45, (0, 0, 0), 0, 0, []) else TN) else (bif Nat.blt pc 46 then (bif Nat.beq pc 45 then (.iconst 2, 46, (0, 0, 0), 2, 0, []) else TN) else (bif Nat.beq pc 46 then (.iload_n 3, 47, (3, 0, 0), 0, 0, []) else TN)))) else (bif Nat.blt pc 50 then (bif Nat.blt pc 48 then (bif Nat.beq pc 47 then (.imul, 48, (0, 0, 0), 0, 0, []) else TN) else (bif Nat.beq pc 48 then (.iload 4, 50, (4, 0, 0), 0, 0, []) else TN)) else (bif Nat.blt pc 51 then (bif Nat.beq pc 50 then (.iload_n 1, 51, (1, 0, 0), 0, 0, []) else TN) else (bif Nat.blt pc 54 then (bif Nat.beq pc 51 then (.invokevirtual 73, 54, (251, 3, 6), 0, 0, []) else TN) else (bif Nat.beq pc 54 then (.ifCond .ne 9, 57, (63, 0, 0), 0, 0, []) else TN))))))) else (bif Nat.blt pc 80 then (bif Nat.blt pc 66 then (bif Nat.blt pc 61 then (bif Nat.blt pc 59 then (bif Nat.blt pc 58 then (bif Nat.beq pc 57 then (.iconst 1, 58, (0, 0, 0), 1, 0, []) else TN) else (bif Nat.beq pc 58 then (.iconst 2, 59, (0, 0, 0), 2, 0, []) else TN)) else (bif Nat.blt pc 60 then (bif Nat.beq pc 59 then (.iload_n 3, 60, (3, 0, 0), 0, 0, []) else TN) else (bif Nat.beq pc 60 then (.imul, 61, (0, 0, 0), 0, 0, []) else TN))) else (bif Nat.blt pc 63 then (bif Nat.blt pc 62 then (bif Nat.beq pc 61 then (.iadd, 62, (0, 0, 0), 0, 0, []) else TN) else (bif Nat.beq pc 62 then (.ireturn, 63, (0, 0, 0), 0, 0, []) else TN)) else (bif Nat.blt pc 64 then (bif Nat.beq pc 63 then (.aload_n 0, 64, (0, 0, 0), 0, 0, []) else TN) else (bif Nat.blt pc 65 then (bif Nat.beq pc 64 then (.iconst 2, 65, (0, 0, 0), 2, 0, []) else TN) else (bif Nat.beq pc 65 then (.iload_n 3, 66, (3, 0, 0), 0, 0, []) else TN))))) else (bif Nat.blt pc 71 then (bif Nat.blt pc 68 then (bif Nat.blt pc 67 then (bif Nat.beq pc 66 then (.imul, 67, (0, 0, 0), 0, 0, []) else TN) else (bif Nat.beq pc 67 then (.iconst 1, 68, (0, 0, 0), 1, 0, []) else TN)) else (bif Nat.blt pc 69 then (bif Nat.beq pc 68 then (.iadd, 69, (0, 0, 0), 0, 0, []) else TN) else (bif Nat.blt pc 70 then (bif Nat.beq pc 69 then (.iload_n 2, 70, (2, 0, 0), 0, 0, []) else TN) else (bif Nat.beq pc 70 then (.iload_n 1, 71, (1, 0, 0), 0, 0, []) else TN)))) else (bif Nat.blt pc 77 then (bif Nat.blt pc 74 then (bif Nat.beq pc 71 then (.invokevirtual 73, 74, (251, 3, 6), 0, 0, []) else TN) else (bif Nat.beq pc 74 then (.ifCond .ne 9, 77, (83, 0, 0), 0, 0, []) else TN)) else (bif Nat.blt pc 78 then (bif Nat.beq pc 77 then (.iconst 2, 78, (0, 0, 0), 2, 0, []) else TN) else (bif Nat.blt pc 79 then (bif Nat.beq pc 78 then (.iconst 2, 79, (0, 0, 0), 2, 0, []) else TN) else (bif Nat.beq pc 79 then (.iload_n 3, 80, (3, 0, 0), 0, 0, []) else TN)))))) else (bif Nat.blt pc 96 then (bif Nat.blt pc 89 then (bif Nat.blt pc 82 then (bif Nat.blt pc 81 then (bif Nat.beq pc 80 then (.imul, 81, (0, 0, 0), 0, 0, []) else TN) else (bif Nat.beq pc 81 then (.iadd, 82, (0, 0, 0), 0, 0, []) else TN)) else (bif Nat.blt pc 83 then (bif Nat.beq pc 82 then (.ireturn, 83, (0, 0, 0), 0, 0, []) else TN) else (bif Nat.blt pc 86 then (bif Nat.beq pc 83 then (.iinc 3 1, 86, (3, 0, 0), 1, 0, []) else TN) else (bif Nat.beq pc 86 then (.goto (-77), 89, (9, 0, 0), 0, 0, []) else TN)))) else (bif Nat.blt pc 91 then (bif Nat.blt pc 90 then (bif Nat.beq pc 89 then (.iload_n 1, 90, (1, 0, 0), 0, 0, []) else TN) else (bif Nat.beq pc 90 then (.iconst 2, 91, (0, 0, 0), 2, 0, []) else TN)) else (bif Nat.blt pc 92 then (bif Nat.beq pc 91 then (.aload_n 0, 92, (0, 0, 0), 0, 0, []) else TN) else (bif Nat.blt pc 95 then (bif Nat.beq pc 92 then (.getfield 44, 95, (6, 5, 0), 0, 0, []) else TN) else (bif Nat.beq pc 95 then (.imul, 96, (0, 0, 0), 0, 0, []) else TN))))) else (bif Nat.blt pc 105 then (bif Nat.blt pc 100 then (bif Nat.blt pc 99 then (bif Nat.beq pc 96 then (.if_icmp .le 14, 99, (110, 0, 0), 0, 0, []) else TN) else (bif Nat.beq pc 99 then (.iconst 1, 100, (0, 0, 0), 1, 0, []) else TN)) else (bif Nat.blt pc 101 then (bif Nat.beq pc 100 then (.iconst 2, 101, (0, 0, 0), 2, 0, []) else TN) else (bif Nat.blt pc 102 then (bif Nat.beq pc 101 then (.aload_n 0, 102, (0, 0, 0), 0, 0, []) else TN) else (bif Nat.beq pc 102 then (.getfield 44, 105, (6, 5, 0), 0, 0, []) else TN)))) else (bif Nat.blt pc 107 then (bif Nat.blt pc 106 then (bif Nat.beq pc 105 then (.imul, 106, (0, 0, 0), 0, 0, []) else TN) else (bif Nat.beq pc 106 then (.iadd, 107, (0, 0, 0), 0, 0, []) else TN)) else (bif Nat.blt pc 110 then (bif Nat.beq pc 107 then (.goto 4, 110, (111, 0, 0), 0, 0, []) else TN) else (bif Nat.blt pc 111 then (bif Nat.beq pc 110 then (.iconst 0, 111, (0, 0, 0), 0, 0, []) else TN) else (bif Nat.beq pc 111 then (.ireturn, 112, (0, 0, 0), 0, 0, []) else TN)))))))
def tb_X6_compareRows (pc : Nat) : TI := bif Nat.ble 112 pc then TN else tt_X6_compareRows pc
theorem ok_X6_compareRows : tOK 6 (decide ("compareRows" = "<init>")) cX6_compareRows tb_X6_compareRows := tOK_of 112 tn_of (by decide +kernel)
def f_X6_compareRows_9 : Nat → Lay → Sto → Nat → Int32 → Int32 → Int32 → Option Int32
  | 0 => fun _ _ _ _ _ _ => none
  | k + 1 => fun L σ a0 a1 a2 a3 => (if (σ.1 a0 5) ≤ a3 then (if a1 ≤ (2 * (σ.1 a0 5)) then some 0 else some (1 + (2 * (σ.1 a0 5)))) else (σ.2.1 a0 1).bind fun x1 => (rI L σ x1 2).bind fun v2 => (f_X6_isTold L σ a0 (2 * a3) (((σ.1 a0 8) >>> (a3 &&& 31)) &&& 1) a1).bind fun r3 => (if r3 = 0 then some (1 + (2 * a3)) else (f_X6_isTold L σ a0 ((2 * a3) + 1) (a2 + (v2 - ((((σ.1 a0 8) >>> (a3 &&& 31)) &&& 1) * (σ.1 a0 6)))) a1).bind fun r4 => (if r4 = 0 then some (2 + (2 * a3)) else (f_X6_compareRows_9 k) L σ a0 a1 (a2 + (v2 - ((((σ.1 a0 8) >>> (a3 &&& 31)) &&& 1) * (σ.1 a0 6)))) (a3 + 1))))
def A_X6_compareRows_9 (c : Lay → Sto → Nat → Int32 → Int32 → Int32 → Option Int32) (lc : List (Option AV)) (st : List AV) (L : Lay) (σ : Sto) : Option Int32 := match lc, st with
  | [some (.inr (.inr (.inl (ta0, some a0)))), some (.inl a1), some (.inl a2), some (.inl a3), _], [] => bif Nat.beq ta0 6 && true then c L σ a0 a1 a2 a3 else none
  | _, _ => none
def f_X6_compareRows (L : Lay) (σ : Sto) (a0 : Nat) (a1 : Int32) : Option Int32 := (σ.2.1 a0 1).bind fun x5 => (rI L σ x5 0).bind fun v6 => (f_X6_compareRows_9 FU) L σ a0 a1 v6 0
def ad_X6_compareRows : ADT := fun O L σ as k => match as with
  | [.inr (.inr (.inl (ta0, some a0))), .inl a1] => bif Nat.beq ta0 6 && true then (f_X6_compareRows L σ a0 a1).bind fun r => k (some (vI r)) L σ else none
  | _ => none
abbrev cl_X6_compareRows {O : Type} : CLT O := (clc 251 ad_X6_isTold cl0)
theorem hc_X6_compareRows (G : GT) (l : Launch) {d : Nat} (hd : 2 ≤ d) {O : Type} : HCL G l (true, true) d (cl_X6_compareRows (O := O)) := (hclc (ca_X6_isTold G l (d := 1) (Nat.le_refl _)) (fun _ => rfl) (fun _ => rfl) (by omega) hcl0)
theorem rt_X6_compareRows : retOK (0, 0) (some .int) := ⟨fun _ => rfl, fun h => absurd h (by decide), fun h => absurd h (by decide)⟩
set_option maxRecDepth 20000 in
theorem b_X6_compareRows_9 {G : GT} {l : Launch} {d : Nat} {L0 : Lay} {σ0 : Sto} (hd : 2 ≤ d) : ∀ k : Nat, HF G l 6 "compareRows" cX6_compareRows 5 (some .int) d L0 σ0 (true, true) (dcPI L0 σ0) 9 (A_X6_compareRows_9 (f_X6_compareRows_9 k))
  | 0 => by
    intro lc st L σ o h hI
    unfold A_X6_compareRows_9 at h
    split at h
    · obtain ⟨_, hA1⟩ := bif_s h
      cases hA1
    · cases h
  | k + 1 => by
    have ih := b_X6_compareRows_9 (G := G) (l := l) (d := d) (L0 := L0) (σ0 := σ0) hd k
    intro lc st L σ o h hI
    unfold A_X6_compareRows_9 at h
    split at h
    · obtain ⟨hq0, hA1⟩ := bif_s h
      obtain ⟨e0, hq1⟩ := beq_and hq0
      subst e0
      exact exs (sp := [9]) (K := (kc 9 (A_X6_compareRows_9 (f_X6_compareRows_9 k)) k0)) ok_X6_compareRows rt_X6_compareRows (by omega) (hc_X6_compareRows G l hd) (hrPI rfl rfl) (hkc ih hk0) 80 hA1 hI
    · cases h
set_option maxRecDepth 20000 in
theorem ca_X6_compareRows (G : GT) (l : Launch) {d : Nat} (hd : 2 ≤ d) : CA G l 249 (true, true) d ad_X6_compareRows := by
  intro O L σ as k o h hW hok
  unfold ad_X6_compareRows at h
  split at h
  · obtain ⟨hq0, hA0⟩ := bif_s h
    obtain ⟨e0, hq1⟩ := beq_and hq0
    subst e0
    obtain ⟨r, hr, hk⟩ := Option.bind_eq_some_iff.mp hA0
    exact ca_of (q := (dcPI L σ) r) (by decide) rfl (Nat.le_of_ble_eq_true rfl) hk (fun _ => rfl) (fun _ => rfl) (exs (sp := [9]) (K := (kc 9 (A_X6_compareRows_9 (f_X6_compareRows_9 FU)) k0)) (L0 := L) (σ0 := σ) ok_X6_compareRows rt_X6_compareRows (by omega) (hc_X6_compareRows G l hd) (hrPI rfl rfl) (hkc (b_X6_compareRows_9 hd FU) hk0) 80 hr (inv0 hW hok))
  · cases h
def tt_X11_check (pc : Nat) : TI := bif Nat.blt pc 18 then (bif Nat.blt pc 9 then (bif Nat.blt pc 4 then (bif Nat.blt pc 1 then (bif Nat.beq pc 0 then (.aload_n 0, 1, (0, 0, 0), 0, 0, []) else TN) else (bif Nat.beq pc 1 then (.getfield 73, 4, (11, 12, 0), 0, 0, []) else TN)) else (bif Nat.blt pc 7 then (bif Nat.beq pc 4 then (.getfield 395, 7, (6, 3, 1), 0, 0, []) else TN) else (bif Nat.blt pc 8 then (bif Nat.beq pc 7 then (.istore_n 3, 8, (3, 0, 0), 0, 0, []) else TN) else (bif Nat.beq pc 8 then (.aload_n 0, 9, (0, 0, 0), 0, 0, []) else TN)))) else (bif Nat.blt pc 13 then (bif Nat.blt pc 12 then (bif Nat.beq pc 9 then (.getfield 73, 12, (11, 12, 0), 0, 0, []) else TN) else (bif Nat.beq pc 12 then (.iconst 0, 13, (0, 0, 0), 0, 0, []) else TN)) else (bif Nat.blt pc 16 then (bif Nat.beq pc 13 then (.putfield 395, 16, (6, 3, 1), 0, 0, []) else TN) else (bif Nat.blt pc 17 then (bif Nat.beq pc 16 then (.aload_n 0, 17, (0, 0, 0), 0, 0, []) else TN) else (bif Nat.beq pc 17 then (.iload_n 1, 18, (1, 0, 0), 0, 0, []) else TN))))) else (bif Nat.blt pc 29 then (bif Nat.blt pc 22 then (bif Nat.blt pc 19 then (bif Nat.beq pc 18 then (.iload_n 2, 19, (2, 0, 0), 0, 0, []) else TN) else (bif Nat.beq pc 19 then (.invokevirtual 383, 22, (91, 2, 11), 0, 0, []) else TN)) else (bif Nat.blt pc 25 then (bif Nat.beq pc 22 then (.ifCond .eq 14, 25, (36, 0, 0), 0, 0, []) else TN) else (bif Nat.blt pc 26 then (bif Nat.beq pc 25 then (.aload_n 0, 26, (0, 0, 0), 0, 0, []) else TN) else (bif Nat.beq pc 26 then (.getfield 73, 29, (11, 12, 0), 0, 0, []) else TN)))) else (bif Nat.blt pc 33 then (bif Nat.blt pc 30 then (bif Nat.beq pc 29 then (.iload_n 3, 30, (3, 0, 0), 0, 0, []) else TN) else (bif Nat.beq pc 30 then (.invokevirtual 401, 33, (249, 1, 6), 0, 0, []) else TN)) else (bif Nat.blt pc 36 then (bif Nat.beq pc 33 then (.goto 5, 36, (38, 0, 0), 0, 0, []) else TN) else (bif Nat.blt pc 38 then (bif Nat.beq pc 36 then (.ldc 91, 38, (0, 0, 0), -1000000001, 0, []) else TN) else (bif Nat.beq pc 38 then (.ireturn, 39, (0, 0, 0), 0, 0, []) else TN)))))
def tb_X11_check (pc : Nat) : TI := bif Nat.ble 39 pc then TN else tt_X11_check pc
theorem ok_X11_check : tOK 11 (decide ("check" = "<init>")) cX11_check tb_X11_check := tOK_of 39 tn_of (by decide +kernel)
def f_X11_check (L : Lay) (σ : Sto) (a0 : Nat) (a1 : Int32) (a2 : Int32) : Option (Int32 × Sto) := (σ.2.1 a0 12).bind fun x1 => (σ.2.1 a0 12).bind fun x2 => (putI σ x2 3 0).bind fun σ3 => (f_X11_makePlan L σ3 a0 a1 a2).bind fun r4 => (if r4.1 = 0 then some ((-1000000001), r4.2) else (r4.2.2.1 a0 12).bind fun x5 => (f_X6_compareRows L r4.2 x5 (σ.1 x1 3)).bind fun r6 => some (r6, r4.2))
def ad_X11_check : ADT := fun O L σ as k => match as with
  | [.inr (.inr (.inl (ta0, some a0))), .inl a1, .inl a2] => bif Nat.beq ta0 11 && true then (f_X11_check L σ a0 a1 a2).bind fun r => k (some (vI r.1)) L r.2 else none
  | _ => none
abbrev cl_X11_check {O : Type} : CLT O := (clc 91 ad_X11_makePlan (clc 249 ad_X6_compareRows cl0))
theorem hc_X11_check (G : GT) (l : Launch) {d : Nat} (hd : 106 ≤ d) {O : Type} : HCL G l (true, false) d (cl_X11_check (O := O)) := (hclc (ca_X11_makePlan G l (d := 105) (Nat.le_refl _)) (fun _ => rfl) (fun e => by cases e) (by omega) (hclc (ca_X6_compareRows G l (d := 2) (Nat.le_refl _)) (fun _ => rfl) (fun e => by cases e) (by omega) hcl0))
theorem rt_X11_check : retOK (0, 0) (some .int) := ⟨fun _ => rfl, fun h => absurd h (by decide), fun h => absurd h (by decide)⟩
set_option maxRecDepth 20000 in
theorem ca_X11_check (G : GT) (l : Launch) {d : Nat} (hd : 106 ≤ d) : CA G l 63 (true, false) d ad_X11_check := by
  intro O L σ as k o h hW hok
  unfold ad_X11_check at h
  split at h
  · obtain ⟨hq0, hA0⟩ := bif_s h
    obtain ⟨e0, hq1⟩ := beq_and hq0
    subst e0
    obtain ⟨r, hr, hk⟩ := Option.bind_eq_some_iff.mp hA0
    exact ca_of (q := (dcI L) r) (by decide) rfl (Nat.le_of_ble_eq_true rfl) hk (fun _ => rfl) (fun e => by cases e) (exs (sp := []) (K := k0) (L0 := L) (σ0 := σ) ok_X11_check rt_X11_check (by omega) (hc_X11_check G l hd) (hrI rfl) hk0 23 hr (inv0 hW hok))
  · cases h
def tt_X11_close (pc : Nat) : TI := bif Nat.blt pc 17 then (bif Nat.blt pc 7 then (bif Nat.blt pc 2 then (bif Nat.blt pc 1 then (bif Nat.beq pc 0 then (.aload_n 0, 1, (0, 0, 0), 0, 0, []) else TN) else (bif Nat.beq pc 1 then (.iload_n 1, 2, (1, 0, 0), 0, 0, []) else TN)) else (bif Nat.blt pc 5 then (bif Nat.beq pc 2 then (.invokevirtual 218, 5, (61, 1, 11), 0, 0, []) else TN) else (bif Nat.blt pc 6 then (bif Nat.beq pc 5 then (.astore_n 2, 6, (2, 0, 0), 0, 0, []) else TN) else (bif Nat.beq pc 6 then (.aload_n 2, 7, (2, 0, 0), 0, 0, []) else TN)))) else (bif Nat.blt pc 12 then (bif Nat.blt pc 10 then (bif Nat.beq pc 7 then (.ifnonnull 6, 10, (13, 0, 0), 0, 0, []) else TN) else (bif Nat.beq pc 10 then (.ldc 91, 12, (0, 0, 0), -1000000001, 0, []) else TN)) else (bif Nat.blt pc 13 then (bif Nat.beq pc 12 then (.ireturn, 13, (0, 0, 0), 0, 0, []) else TN) else (bif Nat.blt pc 14 then (bif Nat.beq pc 13 then (.aload_n 2, 14, (2, 0, 0), 0, 0, []) else TN) else (bif Nat.beq pc 14 then (.invokevirtual 222, 17, (34, 0, 0), 0, 0, []) else TN))))) else (bif Nat.blt pc 25 then (bif Nat.blt pc 22 then (bif Nat.blt pc 20 then (bif Nat.beq pc 17 then (.ifCond .eq 6, 20, (23, 0, 0), 0, 0, []) else TN) else (bif Nat.beq pc 20 then (.ldc 146, 22, (0, 0, 0), -1000000002, 0, []) else TN)) else (bif Nat.blt pc 23 then (bif Nat.beq pc 22 then (.ireturn, 23, (0, 0, 0), 0, 0, []) else TN) else (bif Nat.blt pc 24 then (bif Nat.beq pc 23 then (.aload_n 2, 24, (2, 0, 0), 0, 0, []) else TN) else (bif Nat.beq pc 24 then (.aload_n 0, 25, (0, 0, 0), 0, 0, []) else TN)))) else (bif Nat.blt pc 34 then (bif Nat.blt pc 28 then (bif Nat.beq pc 25 then (.getfield 12, 28, (11, 0, 0), 0, 0, []) else TN) else (bif Nat.blt pc 31 then (bif Nat.beq pc 28 then (.getfield 124, 31, (10, 4, 1), 0, 0, []) else TN) else (bif Nat.beq pc 31 then (.putfield 245, 34, (0, 3, 1), 0, 0, []) else TN))) else (bif Nat.blt pc 35 then (bif Nat.beq pc 34 then (.aload_n 2, 35, (2, 0, 0), 0, 0, []) else TN) else (bif Nat.blt pc 38 then (bif Nat.beq pc 35 then (.getfield 232, 38, (0, 4, 1), 0, 0, []) else TN) else (bif Nat.beq pc 38 then (.ireturn, 39, (0, 0, 0), 0, 0, []) else TN)))))
def tb_X11_close (pc : Nat) : TI := bif Nat.ble 39 pc then TN else tt_X11_close pc
theorem ok_X11_close : tOK 11 (decide ("close" = "<init>")) cX11_close tb_X11_close := tOK_of 39 tn_of (by decide +kernel)
def f_X11_close (L : Lay) (σ : Sto) (a0 : Nat) (a1 : Int32) : Option (Int32 × Sto) := (f_X11_ballotAt L σ a0 a1).bind fun o1 => (Option.elim o1 (some ((-1000000001), σ)) (fun _ => o1.bind fun x2 => (f_X0_hasClosed L σ x2).bind fun r3 => (if r3 = 0 then (σ.2.1 a0 0).bind fun x4 => o1.bind fun x5 => (putI σ x5 3 (σ.1 x4 4)).bind fun σ6 => o1.bind fun x7 => some ((σ6.1 x7 4), σ6) else some ((-1000000002), σ))))
def ad_X11_close : ADT := fun O L σ as k => match as with
  | [.inr (.inr (.inl (ta0, some a0))), .inl a1] => bif Nat.beq ta0 11 && true then (f_X11_close L σ a0 a1).bind fun r => k (some (vI r.1)) L r.2 else none
  | _ => none
abbrev cl_X11_close {O : Type} : CLT O := (clc 61 ad_X11_ballotAt (clc 34 ad_X0_hasClosed cl0))
theorem hc_X11_close (G : GT) (l : Launch) {d : Nat} (hd : 3 ≤ d) {O : Type} : HCL G l (true, false) d (cl_X11_close (O := O)) := (hclc (ca_X11_ballotAt G l (d := 2) (Nat.le_refl _)) (fun _ => rfl) (fun e => by cases e) (by omega) (hclc (ca_X0_hasClosed G l (d := 1) (Nat.le_refl _)) (fun _ => rfl) (fun e => by cases e) (by omega) hcl0))
theorem rt_X11_close : retOK (0, 0) (some .int) := ⟨fun _ => rfl, fun h => absurd h (by decide), fun h => absurd h (by decide)⟩
set_option maxRecDepth 20000 in
theorem ca_X11_close (G : GT) (l : Launch) {d : Nat} (hd : 3 ≤ d) : CA G l 64 (true, false) d ad_X11_close := by
  intro O L σ as k o h hW hok
  unfold ad_X11_close at h
  split at h
  · obtain ⟨hq0, hA0⟩ := bif_s h
    obtain ⟨e0, hq1⟩ := beq_and hq0
    subst e0
    obtain ⟨r, hr, hk⟩ := Option.bind_eq_some_iff.mp hA0
    exact ca_of (q := (dcI L) r) (by decide) rfl (Nat.le_of_ble_eq_true rfl) hk (fun _ => rfl) (fun e => by cases e) (exs (sp := []) (K := k0) (L0 := L) (σ0 := σ) ok_X11_close rt_X11_close (by omega) (hc_X11_close G l hd) (hrI rfl) hk0 24 hr (inv0 hW hok))
  · cases h
def tt_X11_sheetAt (pc : Nat) : TI := bif Nat.blt pc 10 then (bif Nat.blt pc 5 then (bif Nat.blt pc 1 then (bif Nat.beq pc 0 then (.iload_n 1, 1, (1, 0, 0), 0, 0, []) else TN) else (bif Nat.blt pc 4 then (bif Nat.beq pc 1 then (.ifCond .ne 8, 4, (9, 0, 0), 0, 0, []) else TN) else (bif Nat.beq pc 4 then (.aload_n 0, 5, (0, 0, 0), 0, 0, []) else TN))) else (bif Nat.blt pc 8 then (bif Nat.beq pc 5 then (.getfield 80, 8, (11, 13, 0), 0, 0, []) else TN) else (bif Nat.blt pc 9 then (bif Nat.beq pc 8 then (.areturn, 9, (0, 0, 0), 0, 0, []) else TN) else (bif Nat.beq pc 9 then (.iload_n 1, 10, (1, 0, 0), 0, 0, []) else TN)))) else (bif Nat.blt pc 15 then (bif Nat.blt pc 11 then (bif Nat.beq pc 10 then (.iconst 1, 11, (0, 0, 0), 1, 0, []) else TN) else (bif Nat.blt pc 14 then (bif Nat.beq pc 11 then (.if_icmp .ne 10, 14, (21, 0, 0), 0, 0, []) else TN) else (bif Nat.beq pc 14 then (.aload_n 0, 15, (0, 0, 0), 0, 0, []) else TN))) else (bif Nat.blt pc 21 then (bif Nat.blt pc 18 then (bif Nat.beq pc 15 then (.getfield 84, 18, (11, 14, 0), 0, 0, []) else TN) else (bif Nat.beq pc 18 then (.goto 4, 21, (22, 0, 0), 0, 0, []) else TN)) else (bif Nat.blt pc 22 then (bif Nat.beq pc 21 then (.aconst_null, 22, (0, 0, 0), 0, 0, []) else TN) else (bif Nat.beq pc 22 then (.areturn, 23, (0, 0, 0), 0, 0, []) else TN))))
def tb_X11_sheetAt (pc : Nat) : TI := bif Nat.ble 23 pc then TN else tt_X11_sheetAt pc
theorem ok_X11_sheetAt : tOK 11 (decide ("sheetAt" = "<init>")) cX11_sheetAt tb_X11_sheetAt := tOK_of 23 tn_of (by decide +kernel)
def f_X11_sheetAt (L : Lay) (σ : Sto) (a0 : Nat) (a1 : Int32) : Option (Option Nat) := (if a1 = 0 then some (σ.2.1 a0 13) else (if a1 = 1 then some (σ.2.1 a0 14) else some none))
def ad_X11_sheetAt : ADT := fun O L σ as k => match as with
  | [.inr (.inr (.inl (ta0, some a0))), .inl a1] => bif Nat.beq ta0 11 && true then (f_X11_sheetAt L σ a0 a1).bind fun r => k (some (vR 8 r)) L σ else none
  | _ => none
abbrev cl_X11_sheetAt {O : Type} : CLT O := cl0
theorem hc_X11_sheetAt (G : GT) (l : Launch) {d : Nat} (hd : 1 ≤ d) {O : Type} : HCL G l (true, true) d (cl_X11_sheetAt (O := O)) := hcl0
theorem rt_X11_sheetAt : retOK (5, 8) (some (.object "StrikeBallots$Sheet")) := ⟨fun h => absurd h (by decide), fun _ => ⟨_, rfl⟩, fun h => absurd h (by decide)⟩
set_option maxRecDepth 20000 in
theorem ca_X11_sheetAt (G : GT) (l : Launch) {d : Nat} (hd : 1 ≤ d) : CA G l 113 (true, true) d ad_X11_sheetAt := by
  intro O L σ as k o h hW hok
  unfold ad_X11_sheetAt at h
  split at h
  · obtain ⟨hq0, hA0⟩ := bif_s h
    obtain ⟨e0, hq1⟩ := beq_and hq0
    subst e0
    obtain ⟨r, hr, hk⟩ := Option.bind_eq_some_iff.mp hA0
    exact ca_of (q := (dcPR 8 L σ) r) (by decide) rfl (Nat.le_of_ble_eq_true rfl) hk (fun _ => rfl) (fun _ => rfl) (exs (sp := []) (K := k0) (L0 := L) (σ0 := σ) ok_X11_sheetAt rt_X11_sheetAt (by omega) (hc_X11_sheetAt G l hd) (hrPR rfl rfl) hk0 16 hr (inv0 hW hok))
  · cases h
def tt_X8_isMissing (pc : Nat) : TI := bif Nat.blt pc 8 then (bif Nat.blt pc 4 then (bif Nat.blt pc 1 then (bif Nat.beq pc 0 then (.aload_n 0, 1, (0, 0, 0), 0, 0, []) else TN) else (bif Nat.beq pc 1 then (.getfield 13, 4, (8, 1, 0), 0, 0, []) else TN)) else (bif Nat.blt pc 5 then (bif Nat.beq pc 4 then (.iconst (-1), 5, (0, 0, 0), -1, 0, []) else TN) else (bif Nat.beq pc 5 then (.if_icmp .ne 7, 8, (12, 0, 0), 0, 0, []) else TN))) else (bif Nat.blt pc 12 then (bif Nat.blt pc 9 then (bif Nat.beq pc 8 then (.iconst 1, 9, (0, 0, 0), 1, 0, []) else TN) else (bif Nat.beq pc 9 then (.goto 4, 12, (13, 0, 0), 0, 0, []) else TN)) else (bif Nat.blt pc 13 then (bif Nat.beq pc 12 then (.iconst 0, 13, (0, 0, 0), 0, 0, []) else TN) else (bif Nat.beq pc 13 then (.ireturn, 14, (0, 0, 0), 0, 0, []) else TN)))
def tb_X8_isMissing (pc : Nat) : TI := bif Nat.ble 14 pc then TN else tt_X8_isMissing pc
theorem ok_X8_isMissing : tOK 8 (decide ("isMissing" = "<init>")) cX8_isMissing tb_X8_isMissing := tOK_of 14 tn_of (by decide +kernel)
def f_X8_isMissing (L : Lay) (σ : Sto) (a0 : Nat) : Option Int32 := (if (σ.1 a0 1) = (-1) then (ckN 1 1).bind fun _ => some 1 else (ckN 1 0).bind fun _ => some 0)
def ad_X8_isMissing : ADT := fun O L σ as k => match as with
  | [.inr (.inr (.inl (ta0, some a0)))] => bif Nat.beq ta0 8 && true then (f_X8_isMissing L σ a0).bind fun r => k (some (vI r)) L σ else none
  | _ => none
abbrev cl_X8_isMissing {O : Type} : CLT O := cl0
theorem hc_X8_isMissing (G : GT) (l : Launch) {d : Nat} (hd : 1 ≤ d) {O : Type} : HCL G l (true, true) d (cl_X8_isMissing (O := O)) := hcl0
theorem rt_X8_isMissing : retOK (1, 0) (some .boolean) := ⟨fun _ => rfl, fun h => absurd h (by decide), fun h => absurd h (by decide)⟩
set_option maxRecDepth 20000 in
theorem ca_X8_isMissing (G : GT) (l : Launch) {d : Nat} (hd : 1 ≤ d) : CA G l 269 (true, true) d ad_X8_isMissing := by
  intro O L σ as k o h hW hok
  unfold ad_X8_isMissing at h
  split at h
  · obtain ⟨hq0, hA0⟩ := bif_s h
    obtain ⟨e0, hq1⟩ := beq_and hq0
    subst e0
    obtain ⟨r, hr, hk⟩ := Option.bind_eq_some_iff.mp hA0
    exact ca_of (q := (dcPI L σ) r) (by decide) rfl (Nat.le_of_ble_eq_true rfl) hk (fun _ => rfl) (fun _ => rfl) (exs (sp := []) (K := k0) (L0 := L) (σ0 := σ) ok_X8_isMissing rt_X8_isMissing (by omega) (hc_X8_isMissing G l hd) (hrPI rfl rfl) hk0 11 hr (inv0 hW hok))
  · cases h
def tt_X8_hasPlaces (pc : Nat) : TI := bif Nat.blt pc 17 then (bif Nat.blt pc 8 then (bif Nat.blt pc 4 then (bif Nat.blt pc 1 then (bif Nat.beq pc 0 then (.iload_n 1, 1, (1, 0, 0), 0, 0, []) else TN) else (bif Nat.beq pc 1 then (.ifCond .lt 29, 4, (30, 0, 0), 0, 0, []) else TN)) else (bif Nat.blt pc 5 then (bif Nat.beq pc 4 then (.iload_n 2, 5, (2, 0, 0), 0, 0, []) else TN) else (bif Nat.beq pc 5 then (.ifCond .lt 25, 8, (30, 0, 0), 0, 0, []) else TN))) else (bif Nat.blt pc 10 then (bif Nat.blt pc 9 then (bif Nat.beq pc 8 then (.iload_n 1, 9, (1, 0, 0), 0, 0, []) else TN) else (bif Nat.beq pc 9 then (.aload_n 0, 10, (0, 0, 0), 0, 0, []) else TN)) else (bif Nat.blt pc 13 then (bif Nat.beq pc 10 then (.getfield 13, 13, (8, 1, 0), 0, 0, []) else TN) else (bif Nat.blt pc 16 then (bif Nat.beq pc 13 then (.if_icmp .gt 17, 16, (30, 0, 0), 0, 0, []) else TN) else (bif Nat.beq pc 16 then (.iload_n 2, 17, (2, 0, 0), 0, 0, []) else TN))))) else (bif Nat.blt pc 23 then (bif Nat.blt pc 21 then (bif Nat.blt pc 18 then (bif Nat.beq pc 17 then (.aload_n 0, 18, (0, 0, 0), 0, 0, []) else TN) else (bif Nat.beq pc 18 then (.getfield 13, 21, (8, 1, 0), 0, 0, []) else TN)) else (bif Nat.blt pc 22 then (bif Nat.beq pc 21 then (.iload_n 1, 22, (1, 0, 0), 0, 0, []) else TN) else (bif Nat.beq pc 22 then (.isub, 23, (0, 0, 0), 0, 0, []) else TN))) else (bif Nat.blt pc 27 then (bif Nat.blt pc 26 then (bif Nat.beq pc 23 then (.if_icmp .gt 7, 26, (30, 0, 0), 0, 0, []) else TN) else (bif Nat.beq pc 26 then (.iconst 1, 27, (0, 0, 0), 1, 0, []) else TN)) else (bif Nat.blt pc 30 then (bif Nat.beq pc 27 then (.goto 4, 30, (31, 0, 0), 0, 0, []) else TN) else (bif Nat.blt pc 31 then (bif Nat.beq pc 30 then (.iconst 0, 31, (0, 0, 0), 0, 0, []) else TN) else (bif Nat.beq pc 31 then (.ireturn, 32, (0, 0, 0), 0, 0, []) else TN)))))
def tb_X8_hasPlaces (pc : Nat) : TI := bif Nat.ble 32 pc then TN else tt_X8_hasPlaces pc
theorem ok_X8_hasPlaces : tOK 8 (decide ("hasPlaces" = "<init>")) cX8_hasPlaces tb_X8_hasPlaces := tOK_of 32 tn_of (by decide +kernel)
def f_X8_hasPlaces (L : Lay) (σ : Sto) (a0 : Nat) (a1 : Int32) (a2 : Int32) : Option Int32 := (if a1 < 0 then (ckN 1 0).bind fun _ => some 0 else (if a2 < 0 then (ckN 1 0).bind fun _ => some 0 else (if (σ.1 a0 1) < a1 then (ckN 1 0).bind fun _ => some 0 else (if ((σ.1 a0 1) - a1) < a2 then (ckN 1 0).bind fun _ => some 0 else (ckN 1 1).bind fun _ => some 1))))
def ad_X8_hasPlaces : ADT := fun O L σ as k => match as with
  | [.inr (.inr (.inl (ta0, some a0))), .inl a1, .inl a2] => bif Nat.beq ta0 8 && true then (f_X8_hasPlaces L σ a0 a1 a2).bind fun r => k (some (vI r)) L σ else none
  | _ => none
abbrev cl_X8_hasPlaces {O : Type} : CLT O := cl0
theorem hc_X8_hasPlaces (G : GT) (l : Launch) {d : Nat} (hd : 1 ≤ d) {O : Type} : HCL G l (true, true) d (cl_X8_hasPlaces (O := O)) := hcl0
theorem rt_X8_hasPlaces : retOK (1, 0) (some .boolean) := ⟨fun _ => rfl, fun h => absurd h (by decide), fun h => absurd h (by decide)⟩
set_option maxRecDepth 20000 in
theorem ca_X8_hasPlaces (G : GT) (l : Launch) {d : Nat} (hd : 1 ≤ d) : CA G l 267 (true, true) d ad_X8_hasPlaces := by
  intro O L σ as k o h hW hok
  unfold ad_X8_hasPlaces at h
  split at h
  · obtain ⟨hq0, hA0⟩ := bif_s h
    obtain ⟨e0, hq1⟩ := beq_and hq0
    subst e0
    obtain ⟨r, hr, hk⟩ := Option.bind_eq_some_iff.mp hA0
    exact ca_of (q := (dcPI L σ) r) (by decide) rfl (Nat.le_of_ble_eq_true rfl) hk (fun _ => rfl) (fun _ => rfl) (exs (sp := []) (K := k0) (L0 := L) (σ0 := σ) ok_X8_hasPlaces rt_X8_hasPlaces (by omega) (hc_X8_hasPlaces G l hd) (hrPI rfl rfl) hk0 21 hr (inv0 hW hok))
  · cases h
def tt_X11_copy (pc : Nat) : TI := bif Nat.blt pc 46 then (bif Nat.blt pc 21 then (bif Nat.blt pc 8 then (bif Nat.blt pc 2 then (bif Nat.blt pc 1 then (bif Nat.beq pc 0 then (.aload_n 0, 1, (0, 0, 0), 0, 0, []) else TN) else (bif Nat.beq pc 1 then (.iload_n 1, 2, (1, 0, 0), 0, 0, []) else TN)) else (bif Nat.blt pc 5 then (bif Nat.beq pc 2 then (.invokevirtual 178, 5, (113, 1, 11), 0, 0, []) else TN) else (bif Nat.blt pc 7 then (bif Nat.beq pc 5 then (.astore 6, 7, (6, 0, 0), 0, 0, []) else TN) else (bif Nat.beq pc 7 then (.aload_n 0, 8, (0, 0, 0), 0, 0, []) else TN)))) else (bif Nat.blt pc 14 then (bif Nat.blt pc 9 then (bif Nat.beq pc 8 then (.iload_n 3, 9, (3, 0, 0), 0, 0, []) else TN) else (bif Nat.blt pc 12 then (bif Nat.beq pc 9 then (.invokevirtual 178, 12, (113, 1, 11), 0, 0, []) else TN) else (bif Nat.beq pc 12 then (.astore 7, 14, (7, 0, 0), 0, 0, []) else TN))) else (bif Nat.blt pc 16 then (bif Nat.beq pc 14 then (.aload 6, 16, (6, 0, 0), 0, 0, []) else TN) else (bif Nat.blt pc 19 then (bif Nat.beq pc 16 then (.ifnull 8, 19, (24, 0, 0), 0, 0, []) else TN) else (bif Nat.beq pc 19 then (.aload 7, 21, (7, 0, 0), 0, 0, []) else TN))))) else (bif Nat.blt pc 32 then (bif Nat.blt pc 26 then (bif Nat.blt pc 24 then (bif Nat.beq pc 21 then (.ifnonnull 6, 24, (27, 0, 0), 0, 0, []) else TN) else (bif Nat.beq pc 24 then (.ldc 91, 26, (0, 0, 0), -1000000001, 0, []) else TN)) else (bif Nat.blt pc 27 then (bif Nat.beq pc 26 then (.ireturn, 27, (0, 0, 0), 0, 0, []) else TN) else (bif Nat.blt pc 29 then (bif Nat.beq pc 27 then (.aload 6, 29, (6, 0, 0), 0, 0, []) else TN) else (bif Nat.beq pc 29 then (.invokevirtual 182, 32, (269, 0, 8), 0, 0, []) else TN)))) else (bif Nat.blt pc 40 then (bif Nat.blt pc 35 then (bif Nat.beq pc 32 then (.ifCond .ne 11, 35, (43, 0, 0), 0, 0, []) else TN) else (bif Nat.blt pc 37 then (bif Nat.beq pc 35 then (.aload 7, 37, (7, 0, 0), 0, 0, []) else TN) else (bif Nat.beq pc 37 then (.invokevirtual 182, 40, (269, 0, 8), 0, 0, []) else TN))) else (bif Nat.blt pc 43 then (bif Nat.beq pc 40 then (.ifCond .eq 6, 43, (46, 0, 0), 0, 0, []) else TN) else (bif Nat.blt pc 45 then (bif Nat.beq pc 43 then (.ldc 185, 45, (0, 0, 0), -1000000011, 0, []) else TN) else (bif Nat.beq pc 45 then (.ireturn, 46, (0, 0, 0), 0, 0, []) else TN)))))) else (bif Nat.blt pc 72 then (bif Nat.blt pc 57 then (bif Nat.blt pc 49 then (bif Nat.blt pc 48 then (bif Nat.beq pc 46 then (.aload 6, 48, (6, 0, 0), 0, 0, []) else TN) else (bif Nat.beq pc 48 then (.iload_n 2, 49, (2, 0, 0), 0, 0, []) else TN)) else (bif Nat.blt pc 51 then (bif Nat.beq pc 49 then (.iload 5, 51, (5, 0, 0), 0, 0, []) else TN) else (bif Nat.blt pc 54 then (bif Nat.beq pc 51 then (.invokevirtual 422, 54, (267, 2, 8), 0, 0, []) else TN) else (bif Nat.beq pc 54 then (.ifCond .eq 15, 57, (69, 0, 0), 0, 0, []) else TN)))) else (bif Nat.blt pc 63 then (bif Nat.blt pc 59 then (bif Nat.beq pc 57 then (.aload 7, 59, (7, 0, 0), 0, 0, []) else TN) else (bif Nat.blt pc 61 then (bif Nat.beq pc 59 then (.iload 4, 61, (4, 0, 0), 0, 0, []) else TN) else (bif Nat.beq pc 61 then (.iload 5, 63, (5, 0, 0), 0, 0, []) else TN))) else (bif Nat.blt pc 66 then (bif Nat.beq pc 63 then (.invokevirtual 422, 66, (267, 2, 8), 0, 0, []) else TN) else (bif Nat.blt pc 69 then (bif Nat.beq pc 66 then (.ifCond .ne 7, 69, (73, 0, 0), 0, 0, []) else TN) else (bif Nat.beq pc 69 then (.ldc_w 417, 72, (0, 0, 0), -1000000013, 0, []) else TN))))) else (bif Nat.blt pc 81 then (bif Nat.blt pc 75 then (bif Nat.blt pc 73 then (bif Nat.beq pc 72 then (.ireturn, 73, (0, 0, 0), 0, 0, []) else TN) else (bif Nat.beq pc 73 then (.aload 6, 75, (6, 0, 0), 0, 0, []) else TN)) else (bif Nat.blt pc 78 then (bif Nat.beq pc 75 then (.getfield 418, 78, (8, 0, 1), 0, 0, []) else TN) else (bif Nat.blt pc 79 then (bif Nat.beq pc 78 then (.iload_n 2, 79, (2, 0, 0), 0, 0, []) else TN) else (bif Nat.beq pc 79 then (.aload 7, 81, (7, 0, 0), 0, 0, []) else TN)))) else (bif Nat.blt pc 88 then (bif Nat.blt pc 84 then (bif Nat.beq pc 81 then (.getfield 418, 84, (8, 0, 1), 0, 0, []) else TN) else (bif Nat.blt pc 86 then (bif Nat.beq pc 84 then (.iload 4, 86, (4, 0, 0), 0, 0, []) else TN) else (bif Nat.beq pc 86 then (.iload 5, 88, (5, 0, 0), 0, 0, []) else TN))) else (bif Nat.blt pc 91 then (bif Nat.beq pc 88 then (.invokestatic 425, 91, (1, 0, 0), 0, 0, []) else TN) else (bif Nat.blt pc 93 then (bif Nat.beq pc 91 then (.iload 5, 93, (5, 0, 0), 0, 0, []) else TN) else (bif Nat.beq pc 93 then (.ireturn, 94, (0, 0, 0), 0, 0, []) else TN))))))
def tb_X11_copy (pc : Nat) : TI := bif Nat.ble 94 pc then TN else tt_X11_copy pc
theorem ok_X11_copy : tOK 11 (decide ("copy" = "<init>")) cX11_copy tb_X11_copy := tOK_of 94 tn_of (by decide +kernel)
def f_X11_copy (L : Lay) (σ : Sto) (a0 : Nat) (a1 : Int32) (a2 : Int32) (a3 : Int32) (a4 : Int32) (a5 : Int32) : Option (Int32 × Sto) := (f_X11_sheetAt L σ a0 a1).bind fun o1 => (f_X11_sheetAt L σ a0 a3).bind fun o2 => (Option.elim o1 (some ((-1000000001), σ)) (fun _ => (Option.elim o2 (some ((-1000000001), σ)) (fun _ => o1.bind fun x3 => (f_X8_isMissing L σ x3).bind fun r4 => (if r4 = 0 then o2.bind fun x5 => (f_X8_isMissing L σ x5).bind fun r6 => (if r6 = 0 then o1.bind fun x7 => (f_X8_hasPlaces L σ x7 a2 a5).bind fun r8 => (if r8 = 0 then some ((-1000000013), σ) else o2.bind fun x9 => (f_X8_hasPlaces L σ x9 a4 a5).bind fun r10 => (if r10 = 0 then some ((-1000000013), σ) else o1.bind fun x11 => o2.bind fun x12 => (σ.2.1 x11 0).bind fun x13 => (σ.2.1 x12 0).bind fun x14 => (if okC L σ x13 a2 x14 a4 a5 = true then some (a5, (cpS σ x13 a2 x14 a4 a5)) else none))) else some ((-1000000011), σ)) else some ((-1000000011), σ))))))
def ad_X11_copy : ADT := fun O L σ as k => match as with
  | [.inr (.inr (.inl (ta0, some a0))), .inl a1, .inl a2, .inl a3, .inl a4, .inl a5] => bif Nat.beq ta0 11 && true then (f_X11_copy L σ a0 a1 a2 a3 a4 a5).bind fun r => k (some (vI r.1)) L r.2 else none
  | _ => none
abbrev cl_X11_copy {O : Type} : CLT O := (clc 113 ad_X11_sheetAt (clc 269 ad_X8_isMissing (clc 267 ad_X8_hasPlaces cl0)))
theorem hc_X11_copy (G : GT) (l : Launch) {d : Nat} (hd : 2 ≤ d) {O : Type} : HCL G l (true, false) d (cl_X11_copy (O := O)) := (hclc (ca_X11_sheetAt G l (d := 1) (Nat.le_refl _)) (fun _ => rfl) (fun e => by cases e) (by omega) (hclc (ca_X8_isMissing G l (d := 1) (Nat.le_refl _)) (fun _ => rfl) (fun e => by cases e) (by omega) (hclc (ca_X8_hasPlaces G l (d := 1) (Nat.le_refl _)) (fun _ => rfl) (fun e => by cases e) (by omega) hcl0)))
theorem rt_X11_copy : retOK (0, 0) (some .int) := ⟨fun _ => rfl, fun h => absurd h (by decide), fun h => absurd h (by decide)⟩
set_option maxRecDepth 20000 in
theorem ca_X11_copy (G : GT) (l : Launch) {d : Nat} (hd : 2 ≤ d) : CA G l 65 (true, false) d ad_X11_copy := by
  intro O L σ as k o h hW hok
  unfold ad_X11_copy at h
  split at h
  · obtain ⟨hq0, hA0⟩ := bif_s h
    obtain ⟨e0, hq1⟩ := beq_and hq0
    subst e0
    obtain ⟨r, hr, hk⟩ := Option.bind_eq_some_iff.mp hA0
    exact ca_of (q := (dcI L) r) (by decide) rfl (Nat.le_of_ble_eq_true rfl) hk (fun _ => rfl) (fun e => by cases e) (exs (sp := []) (K := k0) (L0 := L) (σ0 := σ) ok_X11_copy rt_X11_copy (by omega) (hc_X11_copy G l hd) (hrI rfl) hk0 47 hr (inv0 hW hok))
  · cases h
def tt_X11_cost (pc : Nat) : TI := bif Nat.blt pc 16 then (bif Nat.blt pc 6 then (bif Nat.blt pc 2 then (bif Nat.blt pc 1 then (bif Nat.beq pc 0 then (.aload_n 0, 1, (0, 0, 0), 0, 0, []) else TN) else (bif Nat.beq pc 1 then (.iload_n 1, 2, (1, 0, 0), 0, 0, []) else TN)) else (bif Nat.blt pc 5 then (bif Nat.beq pc 2 then (.invokevirtual 218, 5, (61, 1, 11), 0, 0, []) else TN) else (bif Nat.beq pc 5 then (.astore_n 2, 6, (2, 0, 0), 0, 0, []) else TN))) else (bif Nat.blt pc 10 then (bif Nat.blt pc 7 then (bif Nat.beq pc 6 then (.aload_n 2, 7, (2, 0, 0), 0, 0, []) else TN) else (bif Nat.beq pc 7 then (.ifnonnull 8, 10, (15, 0, 0), 0, 0, []) else TN)) else (bif Nat.blt pc 12 then (bif Nat.beq pc 10 then (.ldc 91, 12, (0, 0, 0), -1000000001, 0, []) else TN) else (bif Nat.blt pc 15 then (bif Nat.beq pc 12 then (.goto 23, 15, (35, 0, 0), 0, 0, []) else TN) else (bif Nat.beq pc 15 then (.aload_n 0, 16, (0, 0, 0), 0, 0, []) else TN))))) else (bif Nat.blt pc 27 then (bif Nat.blt pc 20 then (bif Nat.blt pc 19 then (bif Nat.beq pc 16 then (.getfield 12, 19, (11, 0, 0), 0, 0, []) else TN) else (bif Nat.beq pc 19 then (.aload_n 2, 20, (2, 0, 0), 0, 0, []) else TN)) else (bif Nat.blt pc 23 then (bif Nat.beq pc 20 then (.getfield 267, 23, (0, 1, 1), 0, 0, []) else TN) else (bif Nat.blt pc 24 then (bif Nat.beq pc 23 then (.aload_n 0, 24, (0, 0, 0), 0, 0, []) else TN) else (bif Nat.beq pc 24 then (.getfield 73, 27, (11, 12, 0), 0, 0, []) else TN)))) else (bif Nat.blt pc 31 then (bif Nat.blt pc 30 then (bif Nat.beq pc 27 then (.getfield 273, 30, (6, 1, 1), 0, 0, []) else TN) else (bif Nat.beq pc 30 then (.iconst 1, 31, (0, 0, 0), 1, 0, []) else TN)) else (bif Nat.blt pc 32 then (bif Nat.beq pc 31 then (.iaload, 32, (0, 0, 0), 0, 0, []) else TN) else (bif Nat.blt pc 35 then (bif Nat.beq pc 32 then (.invokevirtual 392, 35, (56, 2, 10), 0, 0, []) else TN) else (bif Nat.beq pc 35 then (.ireturn, 36, (0, 0, 0), 0, 0, []) else TN)))))
def tb_X11_cost (pc : Nat) : TI := bif Nat.ble 36 pc then TN else tt_X11_cost pc
theorem ok_X11_cost : tOK 11 (decide ("cost" = "<init>")) cX11_cost tb_X11_cost := tOK_of 36 tn_of (by decide +kernel)
def f_X11_cost (L : Lay) (σ : Sto) (a0 : Nat) (a1 : Int32) : Option Int32 := (f_X11_ballotAt L σ a0 a1).bind fun o1 => (Option.elim o1 (some (-1000000001)) (fun _ => o1.bind fun x2 => (σ.2.1 a0 12).bind fun x3 => (σ.2.1 x3 1).bind fun x4 => (rI L σ x4 1).bind fun v5 => (σ.2.1 a0 0).bind fun x6 => (f_X10_strikePay L σ x6 (σ.1 x2 1) v5).bind fun r7 => some r7))
def ad_X11_cost : ADT := fun O L σ as k => match as with
  | [.inr (.inr (.inl (ta0, some a0))), .inl a1] => bif Nat.beq ta0 11 && true then (f_X11_cost L σ a0 a1).bind fun r => k (some (vI r)) L σ else none
  | _ => none
abbrev cl_X11_cost {O : Type} : CLT O := (clc 61 ad_X11_ballotAt (clc 56 ad_X10_strikePay cl0))
theorem hc_X11_cost (G : GT) (l : Launch) {d : Nat} (hd : 6 ≤ d) {O : Type} : HCL G l (true, true) d (cl_X11_cost (O := O)) := (hclc (ca_X11_ballotAt G l (d := 2) (Nat.le_refl _)) (fun _ => rfl) (fun _ => rfl) (by omega) (hclc (ca_X10_strikePay G l (d := 5) (Nat.le_refl _)) (fun _ => rfl) (fun _ => rfl) (by omega) hcl0))
theorem rt_X11_cost : retOK (0, 0) (some .int) := ⟨fun _ => rfl, fun h => absurd h (by decide), fun h => absurd h (by decide)⟩
set_option maxRecDepth 20000 in
theorem ca_X11_cost (G : GT) (l : Launch) {d : Nat} (hd : 6 ≤ d) : CA G l 66 (true, true) d ad_X11_cost := by
  intro O L σ as k o h hW hok
  unfold ad_X11_cost at h
  split at h
  · obtain ⟨hq0, hA0⟩ := bif_s h
    obtain ⟨e0, hq1⟩ := beq_and hq0
    subst e0
    obtain ⟨r, hr, hk⟩ := Option.bind_eq_some_iff.mp hA0
    exact ca_of (q := (dcPI L σ) r) (by decide) rfl (Nat.le_of_ble_eq_true rfl) hk (fun _ => rfl) (fun _ => rfl) (exs (sp := []) (K := k0) (L0 := L) (σ0 := σ) ok_X11_cost rt_X11_cost (by omega) (hc_X11_cost G l hd) (hrPI rfl rfl) hk0 22 hr (inv0 hW hok))
  · cases h
def tt_X11_count (pc : Nat) : TI := bif Nat.blt pc 85 then (bif Nat.blt pc 67 then (bif Nat.blt pc 56 then (bif Nat.blt pc 52 then (bif Nat.blt pc 1 then (bif Nat.beq pc 0 then (.iload_n 1, 1, (1, 0, 0), 0, 0, []) else TN) else (bif Nat.beq pc 1 then (.tableswitch 117 0 8 #[51, 59, 67, 75, 83, 88, 93, 101, 109], 52, (118, 0, 0), 0, 0, [(0, 52), (1, 60), (2, 68), (3, 76), (4, 84), (5, 89), (6, 94), (7, 102), (8, 110)]) else TN)) else (bif Nat.blt pc 53 then (bif Nat.beq pc 52 then (.aload_n 0, 53, (0, 0, 0), 0, 0, []) else TN) else (bif Nat.beq pc 53 then (.getfield 12, 56, (11, 0, 0), 0, 0, []) else TN))) else (bif Nat.blt pc 60 then (bif Nat.blt pc 59 then (bif Nat.beq pc 56 then (.getfield 92, 59, (10, 1, 1), 0, 0, []) else TN) else (bif Nat.beq pc 59 then (.ireturn, 60, (0, 0, 0), 0, 0, []) else TN)) else (bif Nat.blt pc 61 then (bif Nat.beq pc 60 then (.aload_n 0, 61, (0, 0, 0), 0, 0, []) else TN) else (bif Nat.blt pc 64 then (bif Nat.beq pc 61 then (.getfield 12, 64, (11, 0, 0), 0, 0, []) else TN) else (bif Nat.beq pc 64 then (.getfield 119, 67, (10, 3, 1), 0, 0, []) else TN))))) else (bif Nat.blt pc 76 then (bif Nat.blt pc 69 then (bif Nat.blt pc 68 then (bif Nat.beq pc 67 then (.ireturn, 68, (0, 0, 0), 0, 0, []) else TN) else (bif Nat.beq pc 68 then (.aload_n 0, 69, (0, 0, 0), 0, 0, []) else TN)) else (bif Nat.blt pc 72 then (bif Nat.beq pc 69 then (.getfield 12, 72, (11, 0, 0), 0, 0, []) else TN) else (bif Nat.blt pc 75 then (bif Nat.beq pc 72 then (.invokevirtual 431, 75, (55, 0, 10), 0, 0, []) else TN) else (bif Nat.beq pc 75 then (.ireturn, 76, (0, 0, 0), 0, 0, []) else TN)))) else (bif Nat.blt pc 80 then (bif Nat.blt pc 77 then (bif Nat.beq pc 76 then (.aload_n 0, 77, (0, 0, 0), 0, 0, []) else TN) else (bif Nat.beq pc 77 then (.getfield 21, 80, (11, 1, 0), 0, 0, []) else TN)) else (bif Nat.blt pc 83 then (bif Nat.beq pc 80 then (.getfield 190, 83, (7, 3, 1), 0, 0, []) else TN) else (bif Nat.blt pc 84 then (bif Nat.beq pc 83 then (.ireturn, 84, (0, 0, 0), 0, 0, []) else TN) else (bif Nat.beq pc 84 then (.aload_n 0, 85, (0, 0, 0), 0, 0, []) else TN)))))) else (bif Nat.blt pc 102 then (bif Nat.blt pc 93 then (bif Nat.blt pc 89 then (bif Nat.blt pc 88 then (bif Nat.beq pc 85 then (.getfield 212, 88, (11, 3, 0), 0, 0, []) else TN) else (bif Nat.beq pc 88 then (.ireturn, 89, (0, 0, 0), 0, 0, []) else TN)) else (bif Nat.blt pc 90 then (bif Nat.beq pc 89 then (.aload_n 0, 90, (0, 0, 0), 0, 0, []) else TN) else (bif Nat.beq pc 90 then (.getfield 335, 93, (11, 11, 0), 0, 0, []) else TN))) else (bif Nat.blt pc 95 then (bif Nat.blt pc 94 then (bif Nat.beq pc 93 then (.ireturn, 94, (0, 0, 0), 0, 0, []) else TN) else (bif Nat.beq pc 94 then (.aload_n 0, 95, (0, 0, 0), 0, 0, []) else TN)) else (bif Nat.blt pc 98 then (bif Nat.beq pc 95 then (.getfield 12, 98, (11, 0, 0), 0, 0, []) else TN) else (bif Nat.blt pc 101 then (bif Nat.beq pc 98 then (.getfield 124, 101, (10, 4, 1), 0, 0, []) else TN) else (bif Nat.beq pc 101 then (.ireturn, 102, (0, 0, 0), 0, 0, []) else TN))))) else (bif Nat.blt pc 111 then (bif Nat.blt pc 106 then (bif Nat.blt pc 103 then (bif Nat.beq pc 102 then (.aload_n 0, 103, (0, 0, 0), 0, 0, []) else TN) else (bif Nat.beq pc 103 then (.getfield 73, 106, (11, 12, 0), 0, 0, []) else TN)) else (bif Nat.blt pc 109 then (bif Nat.beq pc 106 then (.getfield 395, 109, (6, 3, 1), 0, 0, []) else TN) else (bif Nat.blt pc 110 then (bif Nat.beq pc 109 then (.ireturn, 110, (0, 0, 0), 0, 0, []) else TN) else (bif Nat.beq pc 110 then (.aload_n 0, 111, (0, 0, 0), 0, 0, []) else TN)))) else (bif Nat.blt pc 117 then (bif Nat.blt pc 114 then (bif Nat.beq pc 111 then (.getfield 41, 114, (11, 5, 0), 0, 0, []) else TN) else (bif Nat.beq pc 114 then (.getfield 296, 117, (9, 1, 1), 0, 0, []) else TN)) else (bif Nat.blt pc 118 then (bif Nat.beq pc 117 then (.ireturn, 118, (0, 0, 0), 0, 0, []) else TN) else (bif Nat.blt pc 120 then (bif Nat.beq pc 118 then (.ldc 91, 120, (0, 0, 0), -1000000001, 0, []) else TN) else (bif Nat.beq pc 120 then (.ireturn, 121, (0, 0, 0), 0, 0, []) else TN))))))
def tb_X11_count (pc : Nat) : TI := bif Nat.ble 121 pc then TN else tt_X11_count pc
theorem ok_X11_count : tOK 11 (decide ("count" = "<init>")) cX11_count tb_X11_count := tOK_of 121 tn_of (by decide +kernel)
def f_X11_count (L : Lay) (σ : Sto) (a0 : Nat) (a1 : Int32) : Option Int32 := (if a1 = 0 then (σ.2.1 a0 0).bind fun x8 => some (σ.1 x8 1) else (if a1 = 1 then (σ.2.1 a0 0).bind fun x7 => some (σ.1 x7 3) else (if a1 = 2 then (σ.2.1 a0 0).bind fun x5 => (f_X10_stayers L σ x5).bind fun r6 => some r6 else (if a1 = 3 then (σ.2.1 a0 1).bind fun x4 => some (σ.1 x4 3) else (if a1 = 4 then some (σ.1 a0 3) else (if a1 = 5 then some (σ.1 a0 11) else (if a1 = 6 then (σ.2.1 a0 0).bind fun x3 => some (σ.1 x3 4) else (if a1 = 7 then (σ.2.1 a0 12).bind fun x2 => some (σ.1 x2 3) else (if a1 = 8 then (σ.2.1 a0 5).bind fun x1 => some (σ.1 x1 1) else some (-1000000001))))))))))
def ad_X11_count : ADT := fun O L σ as k => match as with
  | [.inr (.inr (.inl (ta0, some a0))), .inl a1] => bif Nat.beq ta0 11 && true then (f_X11_count L σ a0 a1).bind fun r => k (some (vI r)) L σ else none
  | _ => none
abbrev cl_X11_count {O : Type} : CLT O := (clc 55 ad_X10_stayers cl0)
theorem hc_X11_count (G : GT) (l : Launch) {d : Nat} (hd : 4 ≤ d) {O : Type} : HCL G l (true, true) d (cl_X11_count (O := O)) := (hclc (ca_X10_stayers G l (d := 3) (Nat.le_refl _)) (fun _ => rfl) (fun _ => rfl) (by omega) hcl0)
theorem rt_X11_count : retOK (0, 0) (some .int) := ⟨fun _ => rfl, fun h => absurd h (by decide), fun h => absurd h (by decide)⟩
set_option maxRecDepth 20000 in
theorem ca_X11_count (G : GT) (l : Launch) {d : Nat} (hd : 4 ≤ d) : CA G l 67 (true, true) d ad_X11_count := by
  intro O L σ as k o h hW hok
  unfold ad_X11_count at h
  split at h
  · obtain ⟨hq0, hA0⟩ := bif_s h
    obtain ⟨e0, hq1⟩ := beq_and hq0
    subst e0
    obtain ⟨r, hr, hk⟩ := Option.bind_eq_some_iff.mp hA0
    exact ca_of (q := (dcPI L σ) r) (by decide) rfl (Nat.le_of_ble_eq_true rfl) hk (fun _ => rfl) (fun _ => rfl) (exs (sp := []) (K := k0) (L0 := L) (σ0 := σ) ok_X11_count rt_X11_count (by omega) (hc_X11_count G l hd) (hrPI rfl rfl) hk0 41 hr (inv0 hW hok))
  · cases h
def tt_X3_valueOf (pc : Nat) : TI := bif Nat.blt pc 12 then (bif Nat.blt pc 7 then (bif Nat.blt pc 1 then (bif Nat.beq pc 0 then (.iload_n 1, 1, (1, 0, 0), 0, 0, []) else TN) else (bif Nat.blt pc 4 then (bif Nat.beq pc 1 then (.invokestatic 19, 4, (78, 1, 0), 0, 0, []) else TN) else (bif Nat.beq pc 4 then (.ifCond .eq 15, 7, (19, 0, 0), 0, 0, []) else TN))) else (bif Nat.blt pc 8 then (bif Nat.beq pc 7 then (.aload_n 0, 8, (0, 0, 0), 0, 0, []) else TN) else (bif Nat.blt pc 11 then (bif Nat.beq pc 8 then (.getfield 9, 11, (3, 0, 0), 0, 0, []) else TN) else (bif Nat.beq pc 11 then (.iload_n 1, 12, (1, 0, 0), 0, 0, []) else TN)))) else (bif Nat.blt pc 16 then (bif Nat.blt pc 14 then (bif Nat.beq pc 12 then (.bipush 97, 14, (0, 0, 0), 97, 0, []) else TN) else (bif Nat.blt pc 15 then (bif Nat.beq pc 14 then (.isub, 15, (0, 0, 0), 0, 0, []) else TN) else (bif Nat.beq pc 15 then (.iaload, 16, (0, 0, 0), 0, 0, []) else TN))) else (bif Nat.blt pc 19 then (bif Nat.beq pc 16 then (.goto 4, 19, (20, 0, 0), 0, 0, []) else TN) else (bif Nat.blt pc 20 then (bif Nat.beq pc 19 then (.iconst 0, 20, (0, 0, 0), 0, 0, []) else TN) else (bif Nat.beq pc 20 then (.ireturn, 21, (0, 0, 0), 0, 0, []) else TN))))
def tb_X3_valueOf (pc : Nat) : TI := bif Nat.ble 21 pc then TN else tt_X3_valueOf pc
theorem ok_X3_valueOf : tOK 3 (decide ("valueOf" = "<init>")) cX3_valueOf tb_X3_valueOf := tOK_of 21 tn_of (by decide +kernel)
def f_X3_valueOf (L : Lay) (σ : Sto) (a0 : Nat) (a1 : Int32) : Option Int32 := (f_X11_isLetter L σ a1).bind fun r1 => (if r1 = 0 then some 0 else (σ.2.1 a0 0).bind fun x2 => (rI L σ x2 (a1 - 97)).bind fun v3 => some v3)
def ad_X3_valueOf : ADT := fun O L σ as k => match as with
  | [.inr (.inr (.inl (ta0, some a0))), .inl a1] => bif Nat.beq ta0 3 && true then (f_X3_valueOf L σ a0 a1).bind fun r => k (some (vI r)) L σ else none
  | _ => none
abbrev cl_X3_valueOf {O : Type} : CLT O := (clc 78 ad_X11_isLetter cl0)
theorem hc_X3_valueOf (G : GT) (l : Launch) {d : Nat} (hd : 2 ≤ d) {O : Type} : HCL G l (true, true) d (cl_X3_valueOf (O := O)) := (hclc (ca_X11_isLetter G l (d := 1) (Nat.le_refl _)) (fun _ => rfl) (fun _ => rfl) (by omega) hcl0)
theorem rt_X3_valueOf : retOK (0, 0) (some .int) := ⟨fun _ => rfl, fun h => absurd h (by decide), fun h => absurd h (by decide)⟩
set_option maxRecDepth 20000 in
theorem ca_X3_valueOf (G : GT) (l : Launch) {d : Nat} (hd : 2 ≤ d) : CA G l 241 (true, true) d ad_X3_valueOf := by
  intro O L σ as k o h hW hok
  unfold ad_X3_valueOf at h
  split at h
  · obtain ⟨hq0, hA0⟩ := bif_s h
    obtain ⟨e0, hq1⟩ := beq_and hq0
    subst e0
    obtain ⟨r, hr, hk⟩ := Option.bind_eq_some_iff.mp hA0
    exact ca_of (q := (dcPI L σ) r) (by decide) rfl (Nat.le_of_ble_eq_true rfl) hk (fun _ => rfl) (fun _ => rfl) (exs (sp := []) (K := k0) (L0 := L) (σ0 := σ) ok_X3_valueOf rt_X3_valueOf (by omega) (hc_X3_valueOf G l hd) (hrPI rfl rfl) hk0 15 hr (inv0 hW hok))
  · cases h
def tt_X1_push (pc : Nat) : TI := bif Nat.blt pc 17 then (bif Nat.blt pc 8 then (bif Nat.blt pc 4 then (bif Nat.blt pc 1 then (bif Nat.beq pc 0 then (.aload_n 0, 1, (0, 0, 0), 0, 0, []) else TN) else (bif Nat.beq pc 1 then (.getfield 111, 4, (1, 7, 0), 0, 0, []) else TN)) else (bif Nat.blt pc 5 then (bif Nat.beq pc 4 then (.aload_n 0, 5, (0, 0, 0), 0, 0, []) else TN) else (bif Nat.beq pc 5 then (.getfield 18, 8, (1, 6, 0), 0, 0, []) else TN))) else (bif Nat.blt pc 12 then (bif Nat.blt pc 9 then (bif Nat.beq pc 8 then (.arraylength, 9, (0, 0, 0), 0, 0, []) else TN) else (bif Nat.beq pc 9 then (.if_icmp .ge 23, 12, (32, 0, 0), 0, 0, []) else TN)) else (bif Nat.blt pc 13 then (bif Nat.beq pc 12 then (.aload_n 0, 13, (0, 0, 0), 0, 0, []) else TN) else (bif Nat.blt pc 16 then (bif Nat.beq pc 13 then (.getfield 18, 16, (1, 6, 0), 0, 0, []) else TN) else (bif Nat.beq pc 16 then (.aload_n 0, 17, (0, 0, 0), 0, 0, []) else TN))))) else (bif Nat.blt pc 24 then (bif Nat.blt pc 21 then (bif Nat.blt pc 20 then (bif Nat.beq pc 17 then (.getfield 111, 20, (1, 7, 0), 0, 0, []) else TN) else (bif Nat.beq pc 20 then (.iload_n 1, 21, (1, 0, 0), 0, 0, []) else TN)) else (bif Nat.blt pc 22 then (bif Nat.beq pc 21 then (.iastore, 22, (0, 0, 0), 0, 0, []) else TN) else (bif Nat.blt pc 23 then (bif Nat.beq pc 22 then (.aload_n 0, 23, (0, 0, 0), 0, 0, []) else TN) else (bif Nat.beq pc 23 then (.dup, 24, (0, 0, 0), 0, 0, []) else TN)))) else (bif Nat.blt pc 28 then (bif Nat.blt pc 27 then (bif Nat.beq pc 24 then (.getfield 111, 27, (1, 7, 0), 0, 0, []) else TN) else (bif Nat.beq pc 27 then (.iconst 1, 28, (0, 0, 0), 1, 0, []) else TN)) else (bif Nat.blt pc 29 then (bif Nat.beq pc 28 then (.iadd, 29, (0, 0, 0), 0, 0, []) else TN) else (bif Nat.blt pc 32 then (bif Nat.beq pc 29 then (.putfield 111, 32, (1, 7, 0), 0, 0, []) else TN) else (bif Nat.beq pc 32 then (.return_, 33, (0, 0, 0), 0, 0, []) else TN)))))
def tb_X1_push (pc : Nat) : TI := bif Nat.ble 33 pc then TN else tt_X1_push pc
theorem ok_X1_push : tOK 1 (decide ("push" = "<init>")) cX1_push tb_X1_push := tOK_of 33 tn_of (by decide +kernel)
def f_X1_push (L : Lay) (σ : Sto) (a0 : Nat) (a1 : Int32) : Option Sto := (σ.2.1 a0 6).bind fun x1 => (if (nI (L.2.1 x1)) ≤ (σ.1 a0 7) then some σ else (σ.2.1 a0 6).bind fun x2 => (wI L σ x2 (σ.1 a0 7) a1).bind fun σ3 => (putI σ3 a0 7 ((σ3.1 a0 7) + 1)).bind fun σ4 => some σ4)
def ad_X1_push : ADT := fun O L σ as k => match as with
  | [.inr (.inr (.inl (ta0, some a0))), .inl a1] => bif Nat.beq ta0 1 && true then (f_X1_push L σ a0 a1).bind fun σ2 => k none L σ2 else none
  | _ => none
abbrev cl_X1_push {O : Type} : CLT O := cl0
theorem hc_X1_push (G : GT) (l : Launch) {d : Nat} (hd : 1 ≤ d) {O : Type} : HCL G l (true, false) d (cl_X1_push (O := O)) := hcl0
theorem rt_X1_push : retOK (6, 0) none := ⟨fun h => absurd h (by decide), fun h => absurd h (by decide), fun _ => rfl⟩
set_option maxRecDepth 20000 in
theorem ca_X1_push (G : GT) (l : Launch) {d : Nat} (hd : 1 ≤ d) : CA G l 223 (true, false) d ad_X1_push := by
  intro O L σ as k o h hW hok
  unfold ad_X1_push at h
  split at h
  · obtain ⟨hq0, hA0⟩ := bif_s h
    obtain ⟨e0, hq1⟩ := beq_and hq0
    subst e0
    obtain ⟨r, hr, hk⟩ := Option.bind_eq_some_iff.mp hA0
    exact ca_of (q := (dcV L) r) (by decide) rfl (Nat.le_of_ble_eq_true rfl) hk (fun _ => rfl) (fun e => by cases e) (exs (sp := []) (K := k0) (L0 := L) (σ0 := σ) ok_X1_push rt_X1_push (by omega) (hc_X1_push G l hd) (hrV rfl) hk0 22 hr (inv0 hW hok))
  · cases h
def tt_X1_pop (pc : Nat) : TI := bif Nat.blt pc 14 then (bif Nat.blt pc 8 then (bif Nat.blt pc 4 then (bif Nat.blt pc 1 then (bif Nat.beq pc 0 then (.aload_n 0, 1, (0, 0, 0), 0, 0, []) else TN) else (bif Nat.beq pc 1 then (.getfield 111, 4, (1, 7, 0), 0, 0, []) else TN)) else (bif Nat.blt pc 7 then (bif Nat.beq pc 4 then (.ifCond .ne 5, 7, (9, 0, 0), 0, 0, []) else TN) else (bif Nat.beq pc 7 then (.iconst 0, 8, (0, 0, 0), 0, 0, []) else TN))) else (bif Nat.blt pc 10 then (bif Nat.blt pc 9 then (bif Nat.beq pc 8 then (.ireturn, 9, (0, 0, 0), 0, 0, []) else TN) else (bif Nat.beq pc 9 then (.aload_n 0, 10, (0, 0, 0), 0, 0, []) else TN)) else (bif Nat.blt pc 11 then (bif Nat.beq pc 10 then (.dup, 11, (0, 0, 0), 0, 0, []) else TN) else (bif Nat.beq pc 11 then (.getfield 111, 14, (1, 7, 0), 0, 0, []) else TN)))) else (bif Nat.blt pc 20 then (bif Nat.blt pc 16 then (bif Nat.blt pc 15 then (bif Nat.beq pc 14 then (.iconst 1, 15, (0, 0, 0), 1, 0, []) else TN) else (bif Nat.beq pc 15 then (.isub, 16, (0, 0, 0), 0, 0, []) else TN)) else (bif Nat.blt pc 19 then (bif Nat.beq pc 16 then (.putfield 111, 19, (1, 7, 0), 0, 0, []) else TN) else (bif Nat.beq pc 19 then (.aload_n 0, 20, (0, 0, 0), 0, 0, []) else TN))) else (bif Nat.blt pc 24 then (bif Nat.blt pc 23 then (bif Nat.beq pc 20 then (.getfield 18, 23, (1, 6, 0), 0, 0, []) else TN) else (bif Nat.beq pc 23 then (.aload_n 0, 24, (0, 0, 0), 0, 0, []) else TN)) else (bif Nat.blt pc 27 then (bif Nat.beq pc 24 then (.getfield 111, 27, (1, 7, 0), 0, 0, []) else TN) else (bif Nat.blt pc 28 then (bif Nat.beq pc 27 then (.iaload, 28, (0, 0, 0), 0, 0, []) else TN) else (bif Nat.beq pc 28 then (.ireturn, 29, (0, 0, 0), 0, 0, []) else TN)))))
def tb_X1_pop (pc : Nat) : TI := bif Nat.ble 29 pc then TN else tt_X1_pop pc
theorem ok_X1_pop : tOK 1 (decide ("pop" = "<init>")) cX1_pop tb_X1_pop := tOK_of 29 tn_of (by decide +kernel)
def f_X1_pop (L : Lay) (σ : Sto) (a0 : Nat) : Option (Int32 × Sto) := (if (σ.1 a0 7) = 0 then some (0, σ) else (putI σ a0 7 ((σ.1 a0 7) - 1)).bind fun σ1 => (σ1.2.1 a0 6).bind fun x2 => (rI L σ1 x2 (σ1.1 a0 7)).bind fun v3 => some (v3, σ1))
def ad_X1_pop : ADT := fun O L σ as k => match as with
  | [.inr (.inr (.inl (ta0, some a0)))] => bif Nat.beq ta0 1 && true then (f_X1_pop L σ a0).bind fun r => k (some (vI r.1)) L r.2 else none
  | _ => none
abbrev cl_X1_pop {O : Type} : CLT O := cl0
theorem hc_X1_pop (G : GT) (l : Launch) {d : Nat} (hd : 1 ≤ d) {O : Type} : HCL G l (true, false) d (cl_X1_pop (O := O)) := hcl0
theorem rt_X1_pop : retOK (0, 0) (some .int) := ⟨fun _ => rfl, fun h => absurd h (by decide), fun h => absurd h (by decide)⟩
set_option maxRecDepth 20000 in
theorem ca_X1_pop (G : GT) (l : Launch) {d : Nat} (hd : 1 ≤ d) : CA G l 222 (true, false) d ad_X1_pop := by
  intro O L σ as k o h hW hok
  unfold ad_X1_pop at h
  split at h
  · obtain ⟨hq0, hA0⟩ := bif_s h
    obtain ⟨e0, hq1⟩ := beq_and hq0
    subst e0
    obtain ⟨r, hr, hk⟩ := Option.bind_eq_some_iff.mp hA0
    exact ca_of (q := (dcI L) r) (by decide) rfl (Nat.le_of_ble_eq_true rfl) hk (fun _ => rfl) (fun e => by cases e) (exs (sp := []) (K := k0) (L0 := L) (σ0 := σ) ok_X1_pop rt_X1_pop (by omega) (hc_X1_pop G l hd) (hrI rfl) hk0 20 hr (inv0 hW hok))
  · cases h
def tt_X1_apply (pc : Nat) : TI := bif Nat.blt pc 130 then (bif Nat.blt pc 102 then (bif Nat.blt pc 88 then (bif Nat.blt pc 80 then (bif Nat.blt pc 76 then (bif Nat.blt pc 1 then (bif Nat.beq pc 0 then (.iload_n 0, 1, (0, 0, 0), 0, 0, []) else TN) else (bif Nat.beq pc 1 then (.lookupswitch 163 #[(38, 92), (42, 159), (43, 151), (45, 155), (60, 109), (61, 123), (62, 137), (124, 75)], 76, (164, 0, 0), 0, 0, [(38, 93), (42, 160), (43, 152), (45, 156), (60, 110), (61, 124), (62, 138), (124, 76)]) else TN)) else (bif Nat.blt pc 77 then (bif Nat.beq pc 76 then (.iload_n 1, 77, (1, 0, 0), 0, 0, []) else TN) else (bif Nat.beq pc 77 then (.ifCond .ne 7, 80, (84, 0, 0), 0, 0, []) else TN))) else (bif Nat.blt pc 84 then (bif Nat.blt pc 81 then (bif Nat.beq pc 80 then (.iload_n 2, 81, (2, 0, 0), 0, 0, []) else TN) else (bif Nat.beq pc 81 then (.ifCond .eq 7, 84, (88, 0, 0), 0, 0, []) else TN)) else (bif Nat.blt pc 85 then (bif Nat.beq pc 84 then (.iconst 1, 85, (0, 0, 0), 1, 0, []) else TN) else (bif Nat.beq pc 85 then (.goto 4, 88, (89, 0, 0), 0, 0, []) else TN)))) else (bif Nat.blt pc 94 then (bif Nat.blt pc 92 then (bif Nat.blt pc 89 then (bif Nat.beq pc 88 then (.iconst 0, 89, (0, 0, 0), 0, 0, []) else TN) else (bif Nat.beq pc 89 then (.invokestatic 129, 92, (100, 1, 0), 0, 0, []) else TN)) else (bif Nat.blt pc 93 then (bif Nat.beq pc 92 then (.ireturn, 93, (0, 0, 0), 0, 0, []) else TN) else (bif Nat.beq pc 93 then (.iload_n 1, 94, (1, 0, 0), 0, 0, []) else TN))) else (bif Nat.blt pc 98 then (bif Nat.blt pc 97 then (bif Nat.beq pc 94 then (.ifCond .eq 11, 97, (105, 0, 0), 0, 0, []) else TN) else (bif Nat.beq pc 97 then (.iload_n 2, 98, (2, 0, 0), 0, 0, []) else TN)) else (bif Nat.blt pc 101 then (bif Nat.beq pc 98 then (.ifCond .eq 7, 101, (105, 0, 0), 0, 0, []) else TN) else (bif Nat.beq pc 101 then (.iconst 1, 102, (0, 0, 0), 1, 0, []) else TN))))) else (bif Nat.blt pc 116 then (bif Nat.blt pc 110 then (bif Nat.blt pc 106 then (bif Nat.blt pc 105 then (bif Nat.beq pc 102 then (.goto 4, 105, (106, 0, 0), 0, 0, []) else TN) else (bif Nat.beq pc 105 then (.iconst 0, 106, (0, 0, 0), 0, 0, []) else TN)) else (bif Nat.blt pc 109 then (bif Nat.beq pc 106 then (.invokestatic 129, 109, (100, 1, 0), 0, 0, []) else TN) else (bif Nat.beq pc 109 then (.ireturn, 110, (0, 0, 0), 0, 0, []) else TN))) else (bif Nat.blt pc 112 then (bif Nat.blt pc 111 then (bif Nat.beq pc 110 then (.iload_n 1, 111, (1, 0, 0), 0, 0, []) else TN) else (bif Nat.beq pc 111 then (.iload_n 2, 112, (2, 0, 0), 0, 0, []) else TN)) else (bif Nat.blt pc 115 then (bif Nat.beq pc 112 then (.if_icmp .ge 7, 115, (119, 0, 0), 0, 0, []) else TN) else (bif Nat.beq pc 115 then (.iconst 1, 116, (0, 0, 0), 1, 0, []) else TN)))) else (bif Nat.blt pc 124 then (bif Nat.blt pc 120 then (bif Nat.blt pc 119 then (bif Nat.beq pc 116 then (.goto 4, 119, (120, 0, 0), 0, 0, []) else TN) else (bif Nat.beq pc 119 then (.iconst 0, 120, (0, 0, 0), 0, 0, []) else TN)) else (bif Nat.blt pc 123 then (bif Nat.beq pc 120 then (.invokestatic 129, 123, (100, 1, 0), 0, 0, []) else TN) else (bif Nat.beq pc 123 then (.ireturn, 124, (0, 0, 0), 0, 0, []) else TN))) else (bif Nat.blt pc 126 then (bif Nat.blt pc 125 then (bif Nat.beq pc 124 then (.iload_n 1, 125, (1, 0, 0), 0, 0, []) else TN) else (bif Nat.beq pc 125 then (.iload_n 2, 126, (2, 0, 0), 0, 0, []) else TN)) else (bif Nat.blt pc 129 then (bif Nat.beq pc 126 then (.if_icmp .ne 7, 129, (133, 0, 0), 0, 0, []) else TN) else (bif Nat.beq pc 129 then (.iconst 1, 130, (0, 0, 0), 1, 0, []) else TN)))))) else (bif Nat.blt pc 156 then (bif Nat.blt pc 144 then (bif Nat.blt pc 138 then (bif Nat.blt pc 134 then (bif Nat.blt pc 133 then (bif Nat.beq pc 130 then (.goto 4, 133, (134, 0, 0), 0, 0, []) else TN) else (bif Nat.beq pc 133 then (.iconst 0, 134, (0, 0, 0), 0, 0, []) else TN)) else (bif Nat.blt pc 137 then (bif Nat.beq pc 134 then (.invokestatic 129, 137, (100, 1, 0), 0, 0, []) else TN) else (bif Nat.beq pc 137 then (.ireturn, 138, (0, 0, 0), 0, 0, []) else TN))) else (bif Nat.blt pc 140 then (bif Nat.blt pc 139 then (bif Nat.beq pc 138 then (.iload_n 1, 139, (1, 0, 0), 0, 0, []) else TN) else (bif Nat.beq pc 139 then (.iload_n 2, 140, (2, 0, 0), 0, 0, []) else TN)) else (bif Nat.blt pc 143 then (bif Nat.beq pc 140 then (.if_icmp .le 7, 143, (147, 0, 0), 0, 0, []) else TN) else (bif Nat.beq pc 143 then (.iconst 1, 144, (0, 0, 0), 1, 0, []) else TN)))) else (bif Nat.blt pc 152 then (bif Nat.blt pc 148 then (bif Nat.blt pc 147 then (bif Nat.beq pc 144 then (.goto 4, 147, (148, 0, 0), 0, 0, []) else TN) else (bif Nat.beq pc 147 then (.iconst 0, 148, (0, 0, 0), 0, 0, []) else TN)) else (bif Nat.blt pc 151 then (bif Nat.beq pc 148 then (.invokestatic 129, 151, (100, 1, 0), 0, 0, []) else TN) else (bif Nat.beq pc 151 then (.ireturn, 152, (0, 0, 0), 0, 0, []) else TN))) else (bif Nat.blt pc 154 then (bif Nat.blt pc 153 then (bif Nat.beq pc 152 then (.iload_n 1, 153, (1, 0, 0), 0, 0, []) else TN) else (bif Nat.beq pc 153 then (.iload_n 2, 154, (2, 0, 0), 0, 0, []) else TN)) else (bif Nat.blt pc 155 then (bif Nat.beq pc 154 then (.iadd, 155, (0, 0, 0), 0, 0, []) else TN) else (bif Nat.beq pc 155 then (.ireturn, 156, (0, 0, 0), 0, 0, []) else TN))))) else (bif Nat.blt pc 164 then (bif Nat.blt pc 160 then (bif Nat.blt pc 158 then (bif Nat.blt pc 157 then (bif Nat.beq pc 156 then (.iload_n 1, 157, (1, 0, 0), 0, 0, []) else TN) else (bif Nat.beq pc 157 then (.iload_n 2, 158, (2, 0, 0), 0, 0, []) else TN)) else (bif Nat.blt pc 159 then (bif Nat.beq pc 158 then (.isub, 159, (0, 0, 0), 0, 0, []) else TN) else (bif Nat.beq pc 159 then (.ireturn, 160, (0, 0, 0), 0, 0, []) else TN))) else (bif Nat.blt pc 162 then (bif Nat.blt pc 161 then (bif Nat.beq pc 160 then (.iload_n 1, 161, (1, 0, 0), 0, 0, []) else TN) else (bif Nat.beq pc 161 then (.iload_n 2, 162, (2, 0, 0), 0, 0, []) else TN)) else (bif Nat.blt pc 163 then (bif Nat.beq pc 162 then (.imul, 163, (0, 0, 0), 0, 0, []) else TN) else (bif Nat.beq pc 163 then (.ireturn, 164, (0, 0, 0), 0, 0, []) else TN)))) else (bif Nat.blt pc 172 then (bif Nat.blt pc 168 then (bif Nat.blt pc 165 then (bif Nat.beq pc 164 then (.iload_n 2, 165, (2, 0, 0), 0, 0, []) else TN) else (bif Nat.beq pc 165 then (.ifCond .ne 7, 168, (172, 0, 0), 0, 0, []) else TN)) else (bif Nat.blt pc 169 then (bif Nat.beq pc 168 then (.iconst 0, 169, (0, 0, 0), 0, 0, []) else TN) else (bif Nat.beq pc 169 then (.goto 6, 172, (175, 0, 0), 0, 0, []) else TN))) else (bif Nat.blt pc 174 then (bif Nat.blt pc 173 then (bif Nat.beq pc 172 then (.iload_n 1, 173, (1, 0, 0), 0, 0, []) else TN) else (bif Nat.beq pc 173 then (.iload_n 2, 174, (2, 0, 0), 0, 0, []) else TN)) else (bif Nat.blt pc 175 then (bif Nat.beq pc 174 then (.idiv, 175, (0, 0, 0), 0, 0, []) else TN) else (bif Nat.beq pc 175 then (.ireturn, 176, (0, 0, 0), 0, 0, []) else TN))))))
def tb_X1_apply (pc : Nat) : TI := bif Nat.ble 176 pc then TN else tt_X1_apply pc
theorem ok_X1_apply : tOK 1 (decide ("apply" = "<init>")) cX1_apply tb_X1_apply := tOK_of 176 tn_of (by decide +kernel)
def f_X1_apply_89 (L : Lay) (σ : Sto) (s0 : Int32) : Option Int32 := (f_X11_oneIf L σ s0).bind fun r1 => some r1
def A_X1_apply_89 (c : Lay → Sto → Int32 → Option Int32) (lc : List (Option AV)) (st : List AV) (L : Lay) (σ : Sto) : Option Int32 := match lc, st with
  | [_, _, _], [.inl s0] => c L σ s0
  | _, _ => none
def f_X1_apply_84 (L : Lay) (σ : Sto)  : Option Int32 := (f_X1_apply_89) L σ 1
def A_X1_apply_84 (c : Lay → Sto → Option Int32) (lc : List (Option AV)) (st : List AV) (L : Lay) (σ : Sto) : Option Int32 := match lc, st with
  | [_, _, _], [] => c L σ 
  | _, _ => none
def f_X1_apply_106 (L : Lay) (σ : Sto) (s0 : Int32) : Option Int32 := (f_X11_oneIf L σ s0).bind fun r2 => some r2
def A_X1_apply_106 (c : Lay → Sto → Int32 → Option Int32) (lc : List (Option AV)) (st : List AV) (L : Lay) (σ : Sto) : Option Int32 := match lc, st with
  | [_, _, _], [.inl s0] => c L σ s0
  | _, _ => none
def f_X1_apply_105 (L : Lay) (σ : Sto)  : Option Int32 := (f_X1_apply_106) L σ 0
def A_X1_apply_105 (c : Lay → Sto → Option Int32) (lc : List (Option AV)) (st : List AV) (L : Lay) (σ : Sto) : Option Int32 := match lc, st with
  | [_, _, _], [] => c L σ 
  | _, _ => none
def f_X1_apply_120 (L : Lay) (σ : Sto) (s0 : Int32) : Option Int32 := (f_X11_oneIf L σ s0).bind fun r3 => some r3
def A_X1_apply_120 (c : Lay → Sto → Int32 → Option Int32) (lc : List (Option AV)) (st : List AV) (L : Lay) (σ : Sto) : Option Int32 := match lc, st with
  | [_, _, _], [.inl s0] => c L σ s0
  | _, _ => none
def f_X1_apply_134 (L : Lay) (σ : Sto) (s0 : Int32) : Option Int32 := (f_X11_oneIf L σ s0).bind fun r4 => some r4
def A_X1_apply_134 (c : Lay → Sto → Int32 → Option Int32) (lc : List (Option AV)) (st : List AV) (L : Lay) (σ : Sto) : Option Int32 := match lc, st with
  | [_, _, _], [.inl s0] => c L σ s0
  | _, _ => none
def f_X1_apply_148 (L : Lay) (σ : Sto) (s0 : Int32) : Option Int32 := (f_X11_oneIf L σ s0).bind fun r5 => some r5
def A_X1_apply_148 (c : Lay → Sto → Int32 → Option Int32) (lc : List (Option AV)) (st : List AV) (L : Lay) (σ : Sto) : Option Int32 := match lc, st with
  | [_, _, _], [.inl s0] => c L σ s0
  | _, _ => none
def f_X1_apply (L : Lay) (σ : Sto) (a0 : Int32) (a1 : Int32) (a2 : Int32) : Option Int32 := (if a0 = 38 then (if a1 = 0 then (f_X1_apply_105) L σ  else (if a2 = 0 then (f_X1_apply_105) L σ  else (f_X1_apply_106) L σ 1)) else (if a0 = 42 then some (a1 * a2) else (if a0 = 43 then some (a1 + a2) else (if a0 = 45 then some (a1 - a2) else (if a0 = 60 then (if a2 ≤ a1 then (f_X1_apply_120) L σ 0 else (f_X1_apply_120) L σ 1) else (if a0 = 61 then (if a1 = a2 then (f_X1_apply_134) L σ 1 else (f_X1_apply_134) L σ 0) else (if a0 = 62 then (if a1 ≤ a2 then (f_X1_apply_148) L σ 0 else (f_X1_apply_148) L σ 1) else (if a0 = 124 then (if a1 = 0 then (if a2 = 0 then (f_X1_apply_89) L σ 0 else (f_X1_apply_84) L σ ) else (f_X1_apply_84) L σ ) else (if a2 = 0 then some 0 else (dv a1 a2).bind fun q6 => some q6)))))))))
def ad_X1_apply : ADT := fun O L σ as k => match as with
  | [.inl a0, .inl a1, .inl a2] => (f_X1_apply L σ a0 a1 a2).bind fun r => k (some (vI r)) L σ
  | _ => none
abbrev cl_X1_apply {O : Type} : CLT O := (clc 100 ad_X11_oneIf cl0)
theorem hc_X1_apply (G : GT) (l : Launch) {d : Nat} (hd : 2 ≤ d) {O : Type} : HCL G l (true, true) d (cl_X1_apply (O := O)) := (hclc (ca_X11_oneIf G l (d := 1) (Nat.le_refl _)) (fun _ => rfl) (fun _ => rfl) (by omega) hcl0)
theorem rt_X1_apply : retOK (0, 0) (some .int) := ⟨fun _ => rfl, fun h => absurd h (by decide), fun h => absurd h (by decide)⟩
set_option maxRecDepth 20000 in
theorem b_X1_apply_89 {G : GT} {l : Launch} {d : Nat} {L0 : Lay} {σ0 : Sto} (hd : 2 ≤ d) : HF G l 1 "apply" cX1_apply 3 (some .int) d L0 σ0 (true, true) (dcPI L0 σ0) 89 (A_X1_apply_89 f_X1_apply_89) := by
  intro lc st L σ o h hI
  unfold A_X1_apply_89 at h
  split at h
  · have hA0 := h
    exact exs (sp := []) (K := k0) ok_X1_apply rt_X1_apply (by omega) (hc_X1_apply G l hd) (hrPI rfl rfl) hk0 67 hA0 hI
  · cases h
set_option maxRecDepth 20000 in
theorem b_X1_apply_84 {G : GT} {l : Launch} {d : Nat} {L0 : Lay} {σ0 : Sto} (hd : 2 ≤ d) : HF G l 1 "apply" cX1_apply 3 (some .int) d L0 σ0 (true, true) (dcPI L0 σ0) 84 (A_X1_apply_84 f_X1_apply_84) := by
  intro lc st L σ o h hI
  unfold A_X1_apply_84 at h
  split at h
  · have hA0 := h
    exact exs (sp := [89]) (K := (kc 89 (A_X1_apply_89 (f_X1_apply_89)) k0)) ok_X1_apply rt_X1_apply (by omega) (hc_X1_apply G l hd) (hrPI rfl rfl) (hkc (b_X1_apply_89 hd) hk0) 67 hA0 hI
  · cases h
set_option maxRecDepth 20000 in
theorem b_X1_apply_106 {G : GT} {l : Launch} {d : Nat} {L0 : Lay} {σ0 : Sto} (hd : 2 ≤ d) : HF G l 1 "apply" cX1_apply 3 (some .int) d L0 σ0 (true, true) (dcPI L0 σ0) 106 (A_X1_apply_106 f_X1_apply_106) := by
  intro lc st L σ o h hI
  unfold A_X1_apply_106 at h
  split at h
  · have hA0 := h
    exact exs (sp := []) (K := k0) ok_X1_apply rt_X1_apply (by omega) (hc_X1_apply G l hd) (hrPI rfl rfl) hk0 67 hA0 hI
  · cases h
set_option maxRecDepth 20000 in
theorem b_X1_apply_105 {G : GT} {l : Launch} {d : Nat} {L0 : Lay} {σ0 : Sto} (hd : 2 ≤ d) : HF G l 1 "apply" cX1_apply 3 (some .int) d L0 σ0 (true, true) (dcPI L0 σ0) 105 (A_X1_apply_105 f_X1_apply_105) := by
  intro lc st L σ o h hI
  unfold A_X1_apply_105 at h
  split at h
  · have hA0 := h
    exact exs (sp := [106]) (K := (kc 106 (A_X1_apply_106 (f_X1_apply_106)) k0)) ok_X1_apply rt_X1_apply (by omega) (hc_X1_apply G l hd) (hrPI rfl rfl) (hkc (b_X1_apply_106 hd) hk0) 67 hA0 hI
  · cases h
set_option maxRecDepth 20000 in
theorem b_X1_apply_120 {G : GT} {l : Launch} {d : Nat} {L0 : Lay} {σ0 : Sto} (hd : 2 ≤ d) : HF G l 1 "apply" cX1_apply 3 (some .int) d L0 σ0 (true, true) (dcPI L0 σ0) 120 (A_X1_apply_120 f_X1_apply_120) := by
  intro lc st L σ o h hI
  unfold A_X1_apply_120 at h
  split at h
  · have hA0 := h
    exact exs (sp := []) (K := k0) ok_X1_apply rt_X1_apply (by omega) (hc_X1_apply G l hd) (hrPI rfl rfl) hk0 67 hA0 hI
  · cases h
set_option maxRecDepth 20000 in
theorem b_X1_apply_134 {G : GT} {l : Launch} {d : Nat} {L0 : Lay} {σ0 : Sto} (hd : 2 ≤ d) : HF G l 1 "apply" cX1_apply 3 (some .int) d L0 σ0 (true, true) (dcPI L0 σ0) 134 (A_X1_apply_134 f_X1_apply_134) := by
  intro lc st L σ o h hI
  unfold A_X1_apply_134 at h
  split at h
  · have hA0 := h
    exact exs (sp := []) (K := k0) ok_X1_apply rt_X1_apply (by omega) (hc_X1_apply G l hd) (hrPI rfl rfl) hk0 67 hA0 hI
  · cases h
set_option maxRecDepth 20000 in
theorem b_X1_apply_148 {G : GT} {l : Launch} {d : Nat} {L0 : Lay} {σ0 : Sto} (hd : 2 ≤ d) : HF G l 1 "apply" cX1_apply 3 (some .int) d L0 σ0 (true, true) (dcPI L0 σ0) 148 (A_X1_apply_148 f_X1_apply_148) := by
  intro lc st L σ o h hI
  unfold A_X1_apply_148 at h
  split at h
  · have hA0 := h
    exact exs (sp := []) (K := k0) ok_X1_apply rt_X1_apply (by omega) (hc_X1_apply G l hd) (hrPI rfl rfl) hk0 67 hA0 hI
  · cases h
set_option maxRecDepth 20000 in
theorem ca_X1_apply (G : GT) (l : Launch) {d : Nat} (hd : 2 ≤ d) : CA G l 216 (true, true) d ad_X1_apply := by
  intro O L σ as k o h hW hok
  unfold ad_X1_apply at h
  split at h
  · have hA0 := h
    obtain ⟨r, hr, hk⟩ := Option.bind_eq_some_iff.mp hA0
    exact ca_of (q := (dcPI L σ) r) (by decide) rfl (Nat.le_of_ble_eq_true rfl) hk (fun _ => rfl) (fun _ => rfl) (exs (sp := [84, 89, 105, 106, 120, 134, 148]) (K := (kc 84 (A_X1_apply_84 (f_X1_apply_84)) (kc 89 (A_X1_apply_89 (f_X1_apply_89)) (kc 105 (A_X1_apply_105 (f_X1_apply_105)) (kc 106 (A_X1_apply_106 (f_X1_apply_106)) (kc 120 (A_X1_apply_120 (f_X1_apply_120)) (kc 134 (A_X1_apply_134 (f_X1_apply_134)) (kc 148 (A_X1_apply_148 (f_X1_apply_148)) k0)))))))) (L0 := L) (σ0 := σ) ok_X1_apply rt_X1_apply (by omega) (hc_X1_apply G l hd) (hrPI rfl rfl) (hkc (b_X1_apply_84 hd) (hkc (b_X1_apply_89 hd) (hkc (b_X1_apply_105 hd) (hkc (b_X1_apply_106 hd) (hkc (b_X1_apply_120 hd) (hkc (b_X1_apply_134 hd) (hkc (b_X1_apply_148 hd) hk0))))))) 67 hr (inv0 hW hok))
  · cases h
def tt_X1_work (pc : Nat) : TI := bif Nat.blt pc 44 then (bif Nat.blt pc 21 then (bif Nat.blt pc 9 then (bif Nat.blt pc 4 then (bif Nat.blt pc 1 then (bif Nat.beq pc 0 then (.iload_n 1, 1, (1, 0, 0), 0, 0, []) else TN) else (bif Nat.beq pc 1 then (.sipush 10000, 4, (0, 0, 0), 10000, 0, []) else TN)) else (bif Nat.blt pc 7 then (bif Nat.beq pc 4 then (.if_icmp .lt 20, 7, (24, 0, 0), 0, 0, []) else TN) else (bif Nat.blt pc 8 then (bif Nat.beq pc 7 then (.aload_n 0, 8, (0, 0, 0), 0, 0, []) else TN) else (bif Nat.beq pc 8 then (.aload_n 2, 9, (2, 0, 0), 0, 0, []) else TN)))) else (bif Nat.blt pc 14 then (bif Nat.blt pc 10 then (bif Nat.beq pc 9 then (.iload_n 1, 10, (1, 0, 0), 0, 0, []) else TN) else (bif Nat.blt pc 13 then (bif Nat.beq pc 10 then (.sipush 10000, 13, (0, 0, 0), 10000, 0, []) else TN) else (bif Nat.beq pc 13 then (.isub, 14, (0, 0, 0), 0, 0, []) else TN))) else (bif Nat.blt pc 15 then (bif Nat.beq pc 14 then (.i2c, 15, (0, 0, 0), 0, 0, []) else TN) else (bif Nat.blt pc 18 then (bif Nat.beq pc 15 then (.invokevirtual 121, 18, (241, 1, 3), 0, 0, []) else TN) else (bif Nat.beq pc 18 then (.invokevirtual 126, 21, (223, 1, 1), 0, 0, []) else TN))))) else (bif Nat.blt pc 33 then (bif Nat.blt pc 28 then (bif Nat.blt pc 24 then (bif Nat.beq pc 21 then (.goto 67, 24, (88, 0, 0), 0, 0, []) else TN) else (bif Nat.blt pc 25 then (bif Nat.beq pc 24 then (.iload_n 1, 25, (1, 0, 0), 0, 0, []) else TN) else (bif Nat.beq pc 25 then (.ifCond .lt 11, 28, (36, 0, 0), 0, 0, []) else TN))) else (bif Nat.blt pc 29 then (bif Nat.beq pc 28 then (.aload_n 0, 29, (0, 0, 0), 0, 0, []) else TN) else (bif Nat.blt pc 30 then (bif Nat.beq pc 29 then (.iload_n 1, 30, (1, 0, 0), 0, 0, []) else TN) else (bif Nat.beq pc 30 then (.invokevirtual 126, 33, (223, 1, 1), 0, 0, []) else TN)))) else (bif Nat.blt pc 39 then (bif Nat.blt pc 36 then (bif Nat.beq pc 33 then (.goto 55, 36, (88, 0, 0), 0, 0, []) else TN) else (bif Nat.blt pc 37 then (bif Nat.beq pc 36 then (.iload_n 1, 37, (1, 0, 0), 0, 0, []) else TN) else (bif Nat.beq pc 37 then (.bipush (-33), 39, (0, 0, 0), -33, 0, []) else TN))) else (bif Nat.blt pc 42 then (bif Nat.beq pc 39 then (.if_icmp .ne 25, 42, (64, 0, 0), 0, 0, []) else TN) else (bif Nat.blt pc 43 then (bif Nat.beq pc 42 then (.aload_n 0, 43, (0, 0, 0), 0, 0, []) else TN) else (bif Nat.beq pc 43 then (.aload_n 0, 44, (0, 0, 0), 0, 0, []) else TN)))))) else (bif Nat.blt pc 69 then (bif Nat.blt pc 55 then (bif Nat.blt pc 50 then (bif Nat.blt pc 47 then (bif Nat.beq pc 44 then (.invokevirtual 118, 47, (222, 0, 1), 0, 0, []) else TN) else (bif Nat.beq pc 47 then (.ifCond .ne 7, 50, (54, 0, 0), 0, 0, []) else TN)) else (bif Nat.blt pc 51 then (bif Nat.beq pc 50 then (.iconst 1, 51, (0, 0, 0), 1, 0, []) else TN) else (bif Nat.blt pc 54 then (bif Nat.beq pc 51 then (.goto 4, 54, (55, 0, 0), 0, 0, []) else TN) else (bif Nat.beq pc 54 then (.iconst 0, 55, (0, 0, 0), 0, 0, []) else TN)))) else (bif Nat.blt pc 64 then (bif Nat.blt pc 58 then (bif Nat.beq pc 55 then (.invokestatic 129, 58, (100, 1, 0), 0, 0, []) else TN) else (bif Nat.blt pc 61 then (bif Nat.beq pc 58 then (.invokevirtual 126, 61, (223, 1, 1), 0, 0, []) else TN) else (bif Nat.beq pc 61 then (.goto 27, 64, (88, 0, 0), 0, 0, []) else TN))) else (bif Nat.blt pc 65 then (bif Nat.beq pc 64 then (.aload_n 0, 65, (0, 0, 0), 0, 0, []) else TN) else (bif Nat.blt pc 68 then (bif Nat.beq pc 65 then (.invokevirtual 118, 68, (222, 0, 1), 0, 0, []) else TN) else (bif Nat.beq pc 68 then (.istore_n 3, 69, (3, 0, 0), 0, 0, []) else TN))))) else (bif Nat.blt pc 78 then (bif Nat.blt pc 75 then (bif Nat.blt pc 70 then (bif Nat.beq pc 69 then (.aload_n 0, 70, (0, 0, 0), 0, 0, []) else TN) else (bif Nat.blt pc 73 then (bif Nat.beq pc 70 then (.invokevirtual 118, 73, (222, 0, 1), 0, 0, []) else TN) else (bif Nat.beq pc 73 then (.istore 4, 75, (4, 0, 0), 0, 0, []) else TN))) else (bif Nat.blt pc 76 then (bif Nat.beq pc 75 then (.aload_n 0, 76, (0, 0, 0), 0, 0, []) else TN) else (bif Nat.blt pc 77 then (bif Nat.beq pc 76 then (.iload_n 1, 77, (1, 0, 0), 0, 0, []) else TN) else (bif Nat.beq pc 77 then (.ineg, 78, (0, 0, 0), 0, 0, []) else TN)))) else (bif Nat.blt pc 82 then (bif Nat.blt pc 79 then (bif Nat.beq pc 78 then (.i2c, 79, (0, 0, 0), 0, 0, []) else TN) else (bif Nat.blt pc 81 then (bif Nat.beq pc 79 then (.iload 4, 81, (4, 0, 0), 0, 0, []) else TN) else (bif Nat.beq pc 81 then (.iload_n 3, 82, (3, 0, 0), 0, 0, []) else TN))) else (bif Nat.blt pc 85 then (bif Nat.beq pc 82 then (.invokestatic 133, 85, (216, 3, 0), 0, 0, []) else TN) else (bif Nat.blt pc 88 then (bif Nat.beq pc 85 then (.invokevirtual 126, 88, (223, 1, 1), 0, 0, []) else TN) else (bif Nat.beq pc 88 then (.return_, 89, (0, 0, 0), 0, 0, []) else TN))))))
def tb_X1_work (pc : Nat) : TI := bif Nat.ble 89 pc then TN else tt_X1_work pc
theorem ok_X1_work : tOK 1 (decide ("work" = "<init>")) cX1_work tb_X1_work := tOK_of 89 tn_of (by decide +kernel)
def f_X1_work_55 (L : Lay) (σ : Sto) (s0 : Int32) (s1 : Nat) : Option Sto := (f_X11_oneIf L σ s0).bind fun r1 => (f_X1_push L σ s1 r1).bind fun σ2 => some σ2
def A_X1_work_55 (c : Lay → Sto → Int32 → Nat → Option Sto) (lc : List (Option AV)) (st : List AV) (L : Lay) (σ : Sto) : Option Sto := match lc, st with
  | [_, _, _, _, _], [.inl s0, .inr (.inr (.inl (ts1, some s1)))] => bif Nat.beq ts1 1 && true then c L σ s0 s1 else none
  | _, _ => none
def f_X1_work (L : Lay) (σ : Sto) (a0 : Nat) (a1 : Int32) (a2 : Option Nat) : Option Sto := (if a1 < 10000 then (if a1 < 0 then (if a1 = (-33) then (f_X1_pop L σ a0).bind fun r7 => (if r7.1 = 0 then (f_X1_work_55) L r7.2 1 a0 else (f_X1_work_55) L r7.2 0 a0) else (f_X1_pop L σ a0).bind fun r3 => (f_X1_pop L r3.2 a0).bind fun r4 => (f_X1_apply L r4.2 (((-a1).toUInt32 % 65536).toInt32) r4.1 r3.1).bind fun r5 => (f_X1_push L r4.2 a0 r5).bind fun σ6 => some σ6) else (f_X1_push L σ a0 a1).bind fun σ8 => some σ8) else a2.bind fun x9 => (f_X3_valueOf L σ x9 (((a1 - 10000).toUInt32 % 65536).toInt32)).bind fun r10 => (f_X1_push L σ a0 r10).bind fun σ11 => some σ11)
def ad_X1_work : ADT := fun O L σ as k => match as with
  | [.inr (.inr (.inl (ta0, some a0))), .inl a1, .inr (.inr (.inl (ta2, a2)))] => bif Nat.beq ta0 1 && (Nat.beq ta2 3 && true) then (f_X1_work L σ a0 a1 a2).bind fun σ2 => k none L σ2 else none
  | _ => none
abbrev cl_X1_work {O : Type} : CLT O := (clc 100 ad_X11_oneIf (clc 223 ad_X1_push (clc 222 ad_X1_pop (clc 216 ad_X1_apply (clc 241 ad_X3_valueOf cl0)))))
theorem hc_X1_work (G : GT) (l : Launch) {d : Nat} (hd : 3 ≤ d) {O : Type} : HCL G l (true, false) d (cl_X1_work (O := O)) := (hclc (ca_X11_oneIf G l (d := 1) (Nat.le_refl _)) (fun _ => rfl) (fun e => by cases e) (by omega) (hclc (ca_X1_push G l (d := 1) (Nat.le_refl _)) (fun _ => rfl) (fun e => by cases e) (by omega) (hclc (ca_X1_pop G l (d := 1) (Nat.le_refl _)) (fun _ => rfl) (fun e => by cases e) (by omega) (hclc (ca_X1_apply G l (d := 2) (Nat.le_refl _)) (fun _ => rfl) (fun e => by cases e) (by omega) (hclc (ca_X3_valueOf G l (d := 2) (Nat.le_refl _)) (fun _ => rfl) (fun e => by cases e) (by omega) hcl0)))))
theorem rt_X1_work : retOK (6, 0) none := ⟨fun h => absurd h (by decide), fun h => absurd h (by decide), fun _ => rfl⟩
set_option maxRecDepth 20000 in
theorem b_X1_work_55 {G : GT} {l : Launch} {d : Nat} {L0 : Lay} {σ0 : Sto} (hd : 3 ≤ d) : HF G l 1 "work" cX1_work 5 none d L0 σ0 (true, false) (dcV L0) 55 (A_X1_work_55 f_X1_work_55) := by
  intro lc st L σ o h hI
  unfold A_X1_work_55 at h
  split at h
  · obtain ⟨hq0, hA1⟩ := bif_s h
    obtain ⟨e0, hq1⟩ := beq_and hq0
    subst e0
    exact exs (sp := []) (K := k0) ok_X1_work rt_X1_work (by omega) (hc_X1_work G l hd) (hrV rfl) hk0 49 hA1 hI
  · cases h
set_option maxRecDepth 20000 in
theorem ca_X1_work (G : GT) (l : Launch) {d : Nat} (hd : 3 ≤ d) : CA G l 229 (true, false) d ad_X1_work := by
  intro O L σ as k o h hW hok
  unfold ad_X1_work at h
  split at h
  · obtain ⟨hq0, hA0⟩ := bif_s h
    obtain ⟨e0, hq1⟩ := beq_and hq0
    obtain ⟨e1, hq2⟩ := beq_and hq1
    subst e0
    subst e1
    obtain ⟨r, hr, hk⟩ := Option.bind_eq_some_iff.mp hA0
    exact ca_of (q := (dcV L) r) (by decide) rfl (Nat.le_of_ble_eq_true rfl) hk (fun _ => rfl) (fun e => by cases e) (exs (sp := [55]) (K := (kc 55 (A_X1_work_55 (f_X1_work_55)) k0)) (L0 := L) (σ0 := σ) ok_X1_work rt_X1_work (by omega) (hc_X1_work G l hd) (hrV rfl) (hkc (b_X1_work_55 hd) hk0) 49 hr (inv0 hW hok))
  · cases h
def tt_X1_valueOf (pc : Nat) : TI := bif Nat.blt pc 36 then (bif Nat.blt pc 17 then (bif Nat.blt pc 9 then (bif Nat.blt pc 2 then (bif Nat.blt pc 1 then (bif Nat.beq pc 0 then (.iload_n 1, 1, (1, 0, 0), 0, 0, []) else TN) else (bif Nat.beq pc 1 then (.iconst 0, 2, (0, 0, 0), 0, 0, []) else TN)) else (bif Nat.blt pc 3 then (bif Nat.beq pc 2 then (.iconst 2, 3, (0, 0, 0), 2, 0, []) else TN) else (bif Nat.blt pc 6 then (bif Nat.beq pc 3 then (.invokestatic 106, 6, (83, 3, 0), 0, 0, []) else TN) else (bif Nat.beq pc 6 then (.ifCond .ne 5, 9, (11, 0, 0), 0, 0, []) else TN)))) else (bif Nat.blt pc 12 then (bif Nat.blt pc 10 then (bif Nat.beq pc 9 then (.iconst 0, 10, (0, 0, 0), 0, 0, []) else TN) else (bif Nat.blt pc 11 then (bif Nat.beq pc 10 then (.ireturn, 11, (0, 0, 0), 0, 0, []) else TN) else (bif Nat.beq pc 11 then (.aload_n 0, 12, (0, 0, 0), 0, 0, []) else TN))) else (bif Nat.blt pc 13 then (bif Nat.beq pc 12 then (.iconst 0, 13, (0, 0, 0), 0, 0, []) else TN) else (bif Nat.blt pc 16 then (bif Nat.beq pc 13 then (.putfield 111, 16, (1, 7, 0), 0, 0, []) else TN) else (bif Nat.beq pc 16 then (.iload_n 1, 17, (1, 0, 0), 0, 0, []) else TN))))) else (bif Nat.blt pc 29 then (bif Nat.blt pc 24 then (bif Nat.blt pc 20 then (bif Nat.beq pc 17 then (.ifCond .ne 7, 20, (24, 0, 0), 0, 0, []) else TN) else (bif Nat.blt pc 21 then (bif Nat.beq pc 20 then (.iconst 0, 21, (0, 0, 0), 0, 0, []) else TN) else (bif Nat.beq pc 21 then (.goto 11, 24, (32, 0, 0), 0, 0, []) else TN))) else (bif Nat.blt pc 25 then (bif Nat.beq pc 24 then (.aload_n 0, 25, (0, 0, 0), 0, 0, []) else TN) else (bif Nat.blt pc 28 then (bif Nat.beq pc 25 then (.getfield 15, 28, (1, 2, 0), 0, 0, []) else TN) else (bif Nat.beq pc 28 then (.iload_n 1, 29, (1, 0, 0), 0, 0, []) else TN)))) else (bif Nat.blt pc 32 then (bif Nat.blt pc 30 then (bif Nat.beq pc 29 then (.iconst 1, 30, (0, 0, 0), 1, 0, []) else TN) else (bif Nat.blt pc 31 then (bif Nat.beq pc 30 then (.isub, 31, (0, 0, 0), 0, 0, []) else TN) else (bif Nat.beq pc 31 then (.iaload, 32, (0, 0, 0), 0, 0, []) else TN))) else (bif Nat.blt pc 33 then (bif Nat.beq pc 32 then (.istore_n 3, 33, (3, 0, 0), 0, 0, []) else TN) else (bif Nat.blt pc 34 then (bif Nat.beq pc 33 then (.iload_n 3, 34, (3, 0, 0), 0, 0, []) else TN) else (bif Nat.beq pc 34 then (.istore 4, 36, (4, 0, 0), 0, 0, []) else TN)))))) else (bif Nat.blt pc 57 then (bif Nat.blt pc 44 then (bif Nat.blt pc 39 then (bif Nat.blt pc 38 then (bif Nat.beq pc 36 then (.iload 4, 38, (4, 0, 0), 0, 0, []) else TN) else (bif Nat.beq pc 38 then (.aload_n 0, 39, (0, 0, 0), 0, 0, []) else TN)) else (bif Nat.blt pc 42 then (bif Nat.beq pc 39 then (.getfield 15, 42, (1, 2, 0), 0, 0, []) else TN) else (bif Nat.blt pc 43 then (bif Nat.beq pc 42 then (.iload_n 1, 43, (1, 0, 0), 0, 0, []) else TN) else (bif Nat.beq pc 43 then (.iaload, 44, (0, 0, 0), 0, 0, []) else TN)))) else (bif Nat.blt pc 50 then (bif Nat.blt pc 47 then (bif Nat.beq pc 44 then (.if_icmp .ge 31, 47, (75, 0, 0), 0, 0, []) else TN) else (bif Nat.blt pc 49 then (bif Nat.beq pc 47 then (.iload 4, 49, (4, 0, 0), 0, 0, []) else TN) else (bif Nat.beq pc 49 then (.aload_n 0, 50, (0, 0, 0), 0, 0, []) else TN))) else (bif Nat.blt pc 53 then (bif Nat.beq pc 50 then (.getfield 9, 53, (1, 0, 0), 0, 0, []) else TN) else (bif Nat.blt pc 54 then (bif Nat.beq pc 53 then (.arraylength, 54, (0, 0, 0), 0, 0, []) else TN) else (bif Nat.beq pc 54 then (.if_icmp .ge 21, 57, (75, 0, 0), 0, 0, []) else TN))))) else (bif Nat.blt pc 66 then (bif Nat.blt pc 62 then (bif Nat.blt pc 58 then (bif Nat.beq pc 57 then (.aload_n 0, 58, (0, 0, 0), 0, 0, []) else TN) else (bif Nat.blt pc 59 then (bif Nat.beq pc 58 then (.aload_n 0, 59, (0, 0, 0), 0, 0, []) else TN) else (bif Nat.beq pc 59 then (.getfield 9, 62, (1, 0, 0), 0, 0, []) else TN))) else (bif Nat.blt pc 64 then (bif Nat.beq pc 62 then (.iload 4, 64, (4, 0, 0), 0, 0, []) else TN) else (bif Nat.blt pc 65 then (bif Nat.beq pc 64 then (.iaload, 65, (0, 0, 0), 0, 0, []) else TN) else (bif Nat.beq pc 65 then (.aload_n 2, 66, (2, 0, 0), 0, 0, []) else TN)))) else (bif Nat.blt pc 75 then (bif Nat.blt pc 69 then (bif Nat.beq pc 66 then (.invokevirtual 114, 69, (229, 2, 1), 0, 0, []) else TN) else (bif Nat.blt pc 72 then (bif Nat.beq pc 69 then (.iinc 4 1, 72, (4, 0, 0), 1, 0, []) else TN) else (bif Nat.beq pc 72 then (.goto (-36), 75, (36, 0, 0), 0, 0, []) else TN))) else (bif Nat.blt pc 76 then (bif Nat.beq pc 75 then (.aload_n 0, 76, (0, 0, 0), 0, 0, []) else TN) else (bif Nat.blt pc 79 then (bif Nat.beq pc 76 then (.invokevirtual 118, 79, (222, 0, 1), 0, 0, []) else TN) else (bif Nat.beq pc 79 then (.ireturn, 80, (0, 0, 0), 0, 0, []) else TN))))))
def tb_X1_valueOf (pc : Nat) : TI := bif Nat.ble 80 pc then TN else tt_X1_valueOf pc
theorem ok_X1_valueOf : tOK 1 (decide ("valueOf" = "<init>")) cX1_valueOf tb_X1_valueOf := tOK_of 80 tn_of (by decide +kernel)
def f_X1_valueOf_75 (L : Lay) (σ : Sto) (a0 : Nat) : Option (Int32 × Sto) := (f_X1_pop L σ a0).bind fun r1 => some (r1.1, r1.2)
def A_X1_valueOf_75 (c : Lay → Sto → Nat → Option (Int32 × Sto)) (lc : List (Option AV)) (st : List AV) (L : Lay) (σ : Sto) : Option (Int32 × Sto) := match lc, st with
  | [some (.inr (.inr (.inl (ta0, some a0)))), _, _, _, _], [] => bif Nat.beq ta0 1 && true then c L σ a0 else none
  | _, _ => none
def f_X1_valueOf_36 : Nat → Lay → Sto → Nat → Int32 → Option Nat → Int32 → Int32 → Option (Int32 × Sto)
  | 0 => fun _ _ _ _ _ _ _ => none
  | k + 1 => fun L σ a0 a1 a2 a3 a4 => (σ.2.1 a0 2).bind fun x2 => (rI L σ x2 a1).bind fun v3 => (if v3 ≤ a4 then (f_X1_valueOf_75) L σ a0 else (σ.2.1 a0 0).bind fun x4 => (if (nI (L.2.1 x4)) ≤ a4 then (f_X1_valueOf_75) L σ a0 else (σ.2.1 a0 0).bind fun x5 => (rI L σ x5 a4).bind fun v6 => (f_X1_work L σ a0 v6 a2).bind fun σ7 => (f_X1_valueOf_36 k) L σ7 a0 a1 a2 a3 (a4 + 1)))
def A_X1_valueOf_36 (c : Lay → Sto → Nat → Int32 → Option Nat → Int32 → Int32 → Option (Int32 × Sto)) (lc : List (Option AV)) (st : List AV) (L : Lay) (σ : Sto) : Option (Int32 × Sto) := match lc, st with
  | [some (.inr (.inr (.inl (ta0, some a0)))), some (.inl a1), some (.inr (.inr (.inl (ta2, a2)))), some (.inl a3), some (.inl a4)], [] => bif Nat.beq ta0 1 && (Nat.beq ta2 3 && true) then c L σ a0 a1 a2 a3 a4 else none
  | _, _ => none
def f_X1_valueOf_32 (L : Lay) (σ : Sto) (a0 : Nat) (a1 : Int32) (a2 : Option Nat) (s0 : Int32) : Option (Int32 × Sto) := (f_X1_valueOf_36 FU) L σ a0 a1 a2 s0 s0
def A_X1_valueOf_32 (c : Lay → Sto → Nat → Int32 → Option Nat → Int32 → Option (Int32 × Sto)) (lc : List (Option AV)) (st : List AV) (L : Lay) (σ : Sto) : Option (Int32 × Sto) := match lc, st with
  | [some (.inr (.inr (.inl (ta0, some a0)))), some (.inl a1), some (.inr (.inr (.inl (ta2, a2)))), _, _], [.inl s0] => bif Nat.beq ta0 1 && (Nat.beq ta2 3 && true) then c L σ a0 a1 a2 s0 else none
  | _, _ => none
def f_X1_valueOf (L : Lay) (σ : Sto) (a0 : Nat) (a1 : Int32) (a2 : Option Nat) : Option (Int32 × Sto) := (f_X11_isWithin L σ a1 0 2).bind fun r8 => (if r8 = 0 then some (0, σ) else (putI σ a0 7 0).bind fun σ9 => (if a1 = 0 then (f_X1_valueOf_32) L σ9 a0 a1 a2 0 else (σ9.2.1 a0 2).bind fun x10 => (rI L σ9 x10 (a1 - 1)).bind fun v11 => (f_X1_valueOf_32) L σ9 a0 a1 a2 v11))
def ad_X1_valueOf : ADT := fun O L σ as k => match as with
  | [.inr (.inr (.inl (ta0, some a0))), .inl a1, .inr (.inr (.inl (ta2, a2)))] => bif Nat.beq ta0 1 && (Nat.beq ta2 3 && true) then (f_X1_valueOf L σ a0 a1 a2).bind fun r => k (some (vI r.1)) L r.2 else none
  | _ => none
abbrev cl_X1_valueOf {O : Type} : CLT O := (clc 222 ad_X1_pop (clc 229 ad_X1_work (clc 83 ad_X11_isWithin cl0)))
theorem hc_X1_valueOf (G : GT) (l : Launch) {d : Nat} (hd : 4 ≤ d) {O : Type} : HCL G l (true, false) d (cl_X1_valueOf (O := O)) := (hclc (ca_X1_pop G l (d := 1) (Nat.le_refl _)) (fun _ => rfl) (fun e => by cases e) (by omega) (hclc (ca_X1_work G l (d := 3) (Nat.le_refl _)) (fun _ => rfl) (fun e => by cases e) (by omega) (hclc (ca_X11_isWithin G l (d := 1) (Nat.le_refl _)) (fun _ => rfl) (fun e => by cases e) (by omega) hcl0)))
theorem rt_X1_valueOf : retOK (0, 0) (some .int) := ⟨fun _ => rfl, fun h => absurd h (by decide), fun h => absurd h (by decide)⟩
set_option maxRecDepth 20000 in
theorem b_X1_valueOf_75 {G : GT} {l : Launch} {d : Nat} {L0 : Lay} {σ0 : Sto} (hd : 4 ≤ d) : HF G l 1 "valueOf" cX1_valueOf 5 (some .int) d L0 σ0 (true, false) (dcI L0) 75 (A_X1_valueOf_75 f_X1_valueOf_75) := by
  intro lc st L σ o h hI
  unfold A_X1_valueOf_75 at h
  split at h
  · obtain ⟨hq0, hA1⟩ := bif_s h
    obtain ⟨e0, hq1⟩ := beq_and hq0
    subst e0
    exact exs (sp := []) (K := k0) ok_X1_valueOf rt_X1_valueOf (by omega) (hc_X1_valueOf G l hd) (hrI rfl) hk0 49 hA1 hI
  · cases h
set_option maxRecDepth 20000 in
theorem b_X1_valueOf_36 {G : GT} {l : Launch} {d : Nat} {L0 : Lay} {σ0 : Sto} (hd : 4 ≤ d) : ∀ k : Nat, HF G l 1 "valueOf" cX1_valueOf 5 (some .int) d L0 σ0 (true, false) (dcI L0) 36 (A_X1_valueOf_36 (f_X1_valueOf_36 k))
  | 0 => by
    intro lc st L σ o h hI
    unfold A_X1_valueOf_36 at h
    split at h
    · obtain ⟨_, hA1⟩ := bif_s h
      cases hA1
    · cases h
  | k + 1 => by
    have ih := b_X1_valueOf_36 (G := G) (l := l) (d := d) (L0 := L0) (σ0 := σ0) hd k
    intro lc st L σ o h hI
    unfold A_X1_valueOf_36 at h
    split at h
    · obtain ⟨hq0, hA1⟩ := bif_s h
      obtain ⟨e0, hq1⟩ := beq_and hq0
      obtain ⟨e1, hq2⟩ := beq_and hq1
      subst e0
      subst e1
      exact exs (sp := [36, 75]) (K := (kc 36 (A_X1_valueOf_36 (f_X1_valueOf_36 k)) (kc 75 (A_X1_valueOf_75 (f_X1_valueOf_75)) k0))) ok_X1_valueOf rt_X1_valueOf (by omega) (hc_X1_valueOf G l hd) (hrI rfl) (hkc ih (hkc (b_X1_valueOf_75 hd) hk0)) 49 hA1 hI
    · cases h
set_option maxRecDepth 20000 in
theorem b_X1_valueOf_32 {G : GT} {l : Launch} {d : Nat} {L0 : Lay} {σ0 : Sto} (hd : 4 ≤ d) : HF G l 1 "valueOf" cX1_valueOf 5 (some .int) d L0 σ0 (true, false) (dcI L0) 32 (A_X1_valueOf_32 f_X1_valueOf_32) := by
  intro lc st L σ o h hI
  unfold A_X1_valueOf_32 at h
  split at h
  · obtain ⟨hq0, hA1⟩ := bif_s h
    obtain ⟨e0, hq1⟩ := beq_and hq0
    obtain ⟨e1, hq2⟩ := beq_and hq1
    subst e0
    subst e1
    exact exs (sp := [36]) (K := (kc 36 (A_X1_valueOf_36 (f_X1_valueOf_36 FU)) k0)) ok_X1_valueOf rt_X1_valueOf (by omega) (hc_X1_valueOf G l hd) (hrI rfl) (hkc (b_X1_valueOf_36 hd FU) hk0) 49 hA1 hI
  · cases h
set_option maxRecDepth 20000 in
theorem ca_X1_valueOf (G : GT) (l : Launch) {d : Nat} (hd : 4 ≤ d) : CA G l 228 (true, false) d ad_X1_valueOf := by
  intro O L σ as k o h hW hok
  unfold ad_X1_valueOf at h
  split at h
  · obtain ⟨hq0, hA0⟩ := bif_s h
    obtain ⟨e0, hq1⟩ := beq_and hq0
    obtain ⟨e1, hq2⟩ := beq_and hq1
    subst e0
    subst e1
    obtain ⟨r, hr, hk⟩ := Option.bind_eq_some_iff.mp hA0
    exact ca_of (q := (dcI L) r) (by decide) rfl (Nat.le_of_ble_eq_true rfl) hk (fun _ => rfl) (fun e => by cases e) (exs (sp := [32]) (K := (kc 32 (A_X1_valueOf_32 (f_X1_valueOf_32)) k0)) (L0 := L) (σ0 := σ) ok_X1_valueOf rt_X1_valueOf (by omega) (hc_X1_valueOf G l hd) (hrI rfl) (hkc (b_X1_valueOf_32 hd) hk0) 49 hr (inv0 hW hok))
  · cases h
