set_option maxRecDepth 20000 in
theorem e_X12_init_176 (g : Lay → Sto → Nat → Option (Lay × Sto)) (L : Lay) (σ : Sto) (a0 : Nat) : ex tb_X12_init (spm [184]) (6, 0) (false, false) cl_X12_init (kc 184 (A_X12_init_184 g) k0) rkAV 242 176 [some (vR 12 (some a0))] [] L σ = (if (12 : Int32) = nI 12 then (al L σ 20 12 12).bind fun q58 => (putR q58.2.2 a0 31 (some q58.1)).bind fun σ59 => g q58.2.1 σ59 a0 else none) := rfl
set_option maxRecDepth 20000 in
theorem b_X12_init_176 {G : GT} {l : Launch} {d : Nat} {L0 : Lay} {σ0 : Sto} (hd : 1 ≤ d) : HF G l 12 "<init>" cX12_init 1 none d L0 σ0 (false, false) dcAV 176 (A_X12_init_176 f_X12_init_176) := by
  intro lc st L σ o h hI
  unfold A_X12_init_176 at h
  split at h
  · obtain ⟨hq0, hA1⟩ := bif_s h
    obtain ⟨e0, hq1⟩ := beq_and hq0
    subst e0
    unfold f_X12_init_176 at hA1
    have hb := b_X12_init_184 (G := G) (l := l) (L0 := L0) (σ0 := σ0) hd
    revert hA1 hb
    generalize f_X12_init_184 = g
    intro hA1 hb
    exact exs ok_X12_init rt_X12_init (by omega) (hc_X12_init G l hd) hrAV (hkc hb hk0) 242 ((e_X12_init_176 g _ _ _).trans hA1) hI
  · cases h
set_option maxRecDepth 20000 in
theorem e_X12_init_168 (g : Lay → Sto → Nat → Option (Lay × Sto)) (L : Lay) (σ : Sto) (a0 : Nat) : ex tb_X12_init (spm [176]) (6, 0) (false, false) cl_X12_init (kc 176 (A_X12_init_176 g) k0) rkAV 242 168 [some (vR 12 (some a0))] [] L σ = (if (12 : Int32) = nI 12 then (al L σ 20 12 12).bind fun q60 => (putR q60.2.2 a0 30 (some q60.1)).bind fun σ61 => g q60.2.1 σ61 a0 else none) := rfl
set_option maxRecDepth 20000 in
theorem b_X12_init_168 {G : GT} {l : Launch} {d : Nat} {L0 : Lay} {σ0 : Sto} (hd : 1 ≤ d) : HF G l 12 "<init>" cX12_init 1 none d L0 σ0 (false, false) dcAV 168 (A_X12_init_168 f_X12_init_168) := by
  intro lc st L σ o h hI
  unfold A_X12_init_168 at h
  split at h
  · obtain ⟨hq0, hA1⟩ := bif_s h
    obtain ⟨e0, hq1⟩ := beq_and hq0
    subst e0
    unfold f_X12_init_168 at hA1
    have hb := b_X12_init_176 (G := G) (l := l) (L0 := L0) (σ0 := σ0) hd
    revert hA1 hb
    generalize f_X12_init_176 = g
    intro hA1 hb
    exact exs ok_X12_init rt_X12_init (by omega) (hc_X12_init G l hd) hrAV (hkc hb hk0) 242 ((e_X12_init_168 g _ _ _).trans hA1) hI
  · cases h
set_option maxRecDepth 20000 in
theorem e_X12_init_161 (g : Lay → Sto → Nat → Option (Lay × Sto)) (L : Lay) (σ : Sto) (a0 : Nat) : ex tb_X12_init (spm [168]) (6, 0) (false, false) cl_X12_init (kc 168 (A_X12_init_168 g) k0) rkAV 242 161 [some (vR 12 (some a0))] [] L σ = (if (3 : Int32) = nI 3 then (al L σ 20 3 3).bind fun q62 => (putR q62.2.2 a0 28 (some q62.1)).bind fun σ63 => g q62.2.1 σ63 a0 else none) := rfl
set_option maxRecDepth 20000 in
theorem b_X12_init_161 {G : GT} {l : Launch} {d : Nat} {L0 : Lay} {σ0 : Sto} (hd : 1 ≤ d) : HF G l 12 "<init>" cX12_init 1 none d L0 σ0 (false, false) dcAV 161 (A_X12_init_161 f_X12_init_161) := by
  intro lc st L σ o h hI
  unfold A_X12_init_161 at h
  split at h
  · obtain ⟨hq0, hA1⟩ := bif_s h
    obtain ⟨e0, hq1⟩ := beq_and hq0
    subst e0
    unfold f_X12_init_161 at hA1
    have hb := b_X12_init_168 (G := G) (l := l) (L0 := L0) (σ0 := σ0) hd
    revert hA1 hb
    generalize f_X12_init_168 = g
    intro hA1 hb
    exact exs ok_X12_init rt_X12_init (by omega) (hc_X12_init G l hd) hrAV (hkc hb hk0) 242 ((e_X12_init_161 g _ _ _).trans hA1) hI
  · cases h
set_option maxRecDepth 20000 in
theorem e_X12_init_153 (g : Lay → Sto → Nat → Option (Lay × Sto)) (L : Lay) (σ : Sto) (a0 : Nat) : ex tb_X12_init (spm [161]) (6, 0) (false, false) cl_X12_init (kc 161 (A_X12_init_161 g) k0) rkAV 242 153 [some (vR 12 (some a0))] [] L σ = (if (108 : Int32) = nI 108 then (al L σ 20 108 108).bind fun q64 => (putR q64.2.2 a0 24 (some q64.1)).bind fun σ65 => g q64.2.1 σ65 a0 else none) := rfl
set_option maxRecDepth 20000 in
theorem b_X12_init_153 {G : GT} {l : Launch} {d : Nat} {L0 : Lay} {σ0 : Sto} (hd : 1 ≤ d) : HF G l 12 "<init>" cX12_init 1 none d L0 σ0 (false, false) dcAV 153 (A_X12_init_153 f_X12_init_153) := by
  intro lc st L σ o h hI
  unfold A_X12_init_153 at h
  split at h
  · obtain ⟨hq0, hA1⟩ := bif_s h
    obtain ⟨e0, hq1⟩ := beq_and hq0
    subst e0
    unfold f_X12_init_153 at hA1
    have hb := b_X12_init_161 (G := G) (l := l) (L0 := L0) (σ0 := σ0) hd
    revert hA1 hb
    generalize f_X12_init_161 = g
    intro hA1 hb
    exact exs ok_X12_init rt_X12_init (by omega) (hc_X12_init G l hd) hrAV (hkc hb hk0) 242 ((e_X12_init_153 g _ _ _).trans hA1) hI
  · cases h
set_option maxRecDepth 20000 in
theorem e_X12_init_145 (g : Lay → Sto → Nat → Option (Lay × Sto)) (L : Lay) (σ : Sto) (a0 : Nat) : ex tb_X12_init (spm [153]) (6, 0) (false, false) cl_X12_init (kc 153 (A_X12_init_153 g) k0) rkAV 242 145 [some (vR 12 (some a0))] [] L σ = (if (108 : Int32) = nI 108 then (al L σ 20 108 108).bind fun q66 => (putR q66.2.2 a0 23 (some q66.1)).bind fun σ67 => g q66.2.1 σ67 a0 else none) := rfl
set_option maxRecDepth 20000 in
theorem b_X12_init_145 {G : GT} {l : Launch} {d : Nat} {L0 : Lay} {σ0 : Sto} (hd : 1 ≤ d) : HF G l 12 "<init>" cX12_init 1 none d L0 σ0 (false, false) dcAV 145 (A_X12_init_145 f_X12_init_145) := by
  intro lc st L σ o h hI
  unfold A_X12_init_145 at h
  split at h
  · obtain ⟨hq0, hA1⟩ := bif_s h
    obtain ⟨e0, hq1⟩ := beq_and hq0
    subst e0
    unfold f_X12_init_145 at hA1
    have hb := b_X12_init_153 (G := G) (l := l) (L0 := L0) (σ0 := σ0) hd
    revert hA1 hb
    generalize f_X12_init_153 = g
    intro hA1 hb
    exact exs ok_X12_init rt_X12_init (by omega) (hc_X12_init G l hd) hrAV (hkc hb hk0) 242 ((e_X12_init_145 g _ _ _).trans hA1) hI
  · cases h
set_option maxRecDepth 20000 in
theorem e_X12_init_136 (g : Lay → Sto → Nat → Option (Lay × Sto)) (L : Lay) (σ : Sto) (a0 : Nat) : ex tb_X12_init (spm [145]) (6, 0) (false, false) cl_X12_init (kc 145 (A_X12_init_145 g) k0) rkAV 242 136 [some (vR 12 (some a0))] [] L σ = (if (480 : Int32) = nI 480 then (al L σ 20 480 480).bind fun q68 => (putR q68.2.2 a0 22 (some q68.1)).bind fun σ69 => g q68.2.1 σ69 a0 else none) := rfl
set_option maxRecDepth 20000 in
theorem b_X12_init_136 {G : GT} {l : Launch} {d : Nat} {L0 : Lay} {σ0 : Sto} (hd : 1 ≤ d) : HF G l 12 "<init>" cX12_init 1 none d L0 σ0 (false, false) dcAV 136 (A_X12_init_136 f_X12_init_136) := by
  intro lc st L σ o h hI
  unfold A_X12_init_136 at h
  split at h
  · obtain ⟨hq0, hA1⟩ := bif_s h
    obtain ⟨e0, hq1⟩ := beq_and hq0
    subst e0
    unfold f_X12_init_136 at hA1
    have hb := b_X12_init_145 (G := G) (l := l) (L0 := L0) (σ0 := σ0) hd
    revert hA1 hb
    generalize f_X12_init_145 = g
    intro hA1 hb
    exact exs ok_X12_init rt_X12_init (by omega) (hc_X12_init G l hd) hrAV (hkc hb hk0) 242 ((e_X12_init_136 g _ _ _).trans hA1) hI
  · cases h
set_option maxRecDepth 20000 in
theorem e_X12_init_127 (g : Lay → Sto → Nat → Option (Lay × Sto)) (L : Lay) (σ : Sto) (a0 : Nat) : ex tb_X12_init (spm [136]) (6, 0) (false, false) cl_X12_init (kc 136 (A_X12_init_136 g) k0) rkAV 242 127 [some (vR 12 (some a0))] [] L σ = (if (480 : Int32) = nI 480 then (al L σ 20 480 480).bind fun q70 => (putR q70.2.2 a0 21 (some q70.1)).bind fun σ71 => g q70.2.1 σ71 a0 else none) := rfl
set_option maxRecDepth 20000 in
theorem b_X12_init_127 {G : GT} {l : Launch} {d : Nat} {L0 : Lay} {σ0 : Sto} (hd : 1 ≤ d) : HF G l 12 "<init>" cX12_init 1 none d L0 σ0 (false, false) dcAV 127 (A_X12_init_127 f_X12_init_127) := by
  intro lc st L σ o h hI
  unfold A_X12_init_127 at h
  split at h
  · obtain ⟨hq0, hA1⟩ := bif_s h
    obtain ⟨e0, hq1⟩ := beq_and hq0
    subst e0
    unfold f_X12_init_127 at hA1
    have hb := b_X12_init_136 (G := G) (l := l) (L0 := L0) (σ0 := σ0) hd
    revert hA1 hb
    generalize f_X12_init_136 = g
    intro hA1 hb
    exact exs ok_X12_init rt_X12_init (by omega) (hc_X12_init G l hd) hrAV (hkc hb hk0) 242 ((e_X12_init_127 g _ _ _).trans hA1) hI
  · cases h
set_option maxRecDepth 20000 in
theorem e_X12_init_118 (g : Lay → Sto → Nat → Option (Lay × Sto)) (L : Lay) (σ : Sto) (a0 : Nat) : ex tb_X12_init (spm [127]) (6, 0) (false, false) cl_X12_init (kc 127 (A_X12_init_127 g) k0) rkAV 242 118 [some (vR 12 (some a0))] [] L σ = (if (480 : Int32) = nI 480 then (al L σ 20 480 480).bind fun q72 => (putR q72.2.2 a0 20 (some q72.1)).bind fun σ73 => g q72.2.1 σ73 a0 else none) := rfl
set_option maxRecDepth 20000 in
theorem b_X12_init_118 {G : GT} {l : Launch} {d : Nat} {L0 : Lay} {σ0 : Sto} (hd : 1 ≤ d) : HF G l 12 "<init>" cX12_init 1 none d L0 σ0 (false, false) dcAV 118 (A_X12_init_118 f_X12_init_118) := by
  intro lc st L σ o h hI
  unfold A_X12_init_118 at h
  split at h
  · obtain ⟨hq0, hA1⟩ := bif_s h
    obtain ⟨e0, hq1⟩ := beq_and hq0
    subst e0
    unfold f_X12_init_118 at hA1
    have hb := b_X12_init_127 (G := G) (l := l) (L0 := L0) (σ0 := σ0) hd
    revert hA1 hb
    generalize f_X12_init_127 = g
    intro hA1 hb
    exact exs ok_X12_init rt_X12_init (by omega) (hc_X12_init G l hd) hrAV (hkc hb hk0) 242 ((e_X12_init_118 g _ _ _).trans hA1) hI
  · cases h
set_option maxRecDepth 20000 in
theorem e_X12_init_110 (g : Lay → Sto → Nat → Option (Lay × Sto)) (L : Lay) (σ : Sto) (a0 : Nat) : ex tb_X12_init (spm [118]) (6, 0) (false, false) cl_X12_init (kc 118 (A_X12_init_118 g) k0) rkAV 242 110 [some (vR 12 (some a0))] [] L σ = (if (12 : Int32) = nI 12 then (al L σ 20 12 12).bind fun q74 => (putR q74.2.2 a0 19 (some q74.1)).bind fun σ75 => g q74.2.1 σ75 a0 else none) := rfl
set_option maxRecDepth 20000 in
theorem b_X12_init_110 {G : GT} {l : Launch} {d : Nat} {L0 : Lay} {σ0 : Sto} (hd : 1 ≤ d) : HF G l 12 "<init>" cX12_init 1 none d L0 σ0 (false, false) dcAV 110 (A_X12_init_110 f_X12_init_110) := by
  intro lc st L σ o h hI
  unfold A_X12_init_110 at h
  split at h
  · obtain ⟨hq0, hA1⟩ := bif_s h
    obtain ⟨e0, hq1⟩ := beq_and hq0
    subst e0
    unfold f_X12_init_110 at hA1
    have hb := b_X12_init_118 (G := G) (l := l) (L0 := L0) (σ0 := σ0) hd
    revert hA1 hb
    generalize f_X12_init_118 = g
    intro hA1 hb
    exact exs ok_X12_init rt_X12_init (by omega) (hc_X12_init G l hd) hrAV (hkc hb hk0) 242 ((e_X12_init_110 g _ _ _).trans hA1) hI
  · cases h
set_option maxRecDepth 20000 in
theorem e_X12_init_102 (g : Lay → Sto → Nat → Option (Lay × Sto)) (L : Lay) (σ : Sto) (a0 : Nat) : ex tb_X12_init (spm [110]) (6, 0) (false, false) cl_X12_init (kc 110 (A_X12_init_110 g) k0) rkAV 242 102 [some (vR 12 (some a0))] [] L σ = (if (12 : Int32) = nI 12 then (al L σ 20 12 12).bind fun q76 => (putR q76.2.2 a0 18 (some q76.1)).bind fun σ77 => g q76.2.1 σ77 a0 else none) := rfl
set_option maxRecDepth 20000 in
theorem b_X12_init_102 {G : GT} {l : Launch} {d : Nat} {L0 : Lay} {σ0 : Sto} (hd : 1 ≤ d) : HF G l 12 "<init>" cX12_init 1 none d L0 σ0 (false, false) dcAV 102 (A_X12_init_102 f_X12_init_102) := by
  intro lc st L σ o h hI
  unfold A_X12_init_102 at h
  split at h
  · obtain ⟨hq0, hA1⟩ := bif_s h
    obtain ⟨e0, hq1⟩ := beq_and hq0
    subst e0
    unfold f_X12_init_102 at hA1
    have hb := b_X12_init_110 (G := G) (l := l) (L0 := L0) (σ0 := σ0) hd
    revert hA1 hb
    generalize f_X12_init_110 = g
    intro hA1 hb
    exact exs ok_X12_init rt_X12_init (by omega) (hc_X12_init G l hd) hrAV (hkc hb hk0) 242 ((e_X12_init_102 g _ _ _).trans hA1) hI
  · cases h
set_option maxRecDepth 20000 in
theorem e_X12_init_94 (g : Lay → Sto → Nat → Option (Lay × Sto)) (L : Lay) (σ : Sto) (a0 : Nat) : ex tb_X12_init (spm [102]) (6, 0) (false, false) cl_X12_init (kc 102 (A_X12_init_102 g) k0) rkAV 242 94 [some (vR 12 (some a0))] [] L σ = (if (12 : Int32) = nI 12 then (al L σ 20 12 12).bind fun q78 => (putR q78.2.2 a0 17 (some q78.1)).bind fun σ79 => g q78.2.1 σ79 a0 else none) := rfl
set_option maxRecDepth 20000 in
theorem b_X12_init_94 {G : GT} {l : Launch} {d : Nat} {L0 : Lay} {σ0 : Sto} (hd : 1 ≤ d) : HF G l 12 "<init>" cX12_init 1 none d L0 σ0 (false, false) dcAV 94 (A_X12_init_94 f_X12_init_94) := by
  intro lc st L σ o h hI
  unfold A_X12_init_94 at h
  split at h
  · obtain ⟨hq0, hA1⟩ := bif_s h
    obtain ⟨e0, hq1⟩ := beq_and hq0
    subst e0
    unfold f_X12_init_94 at hA1
    have hb := b_X12_init_102 (G := G) (l := l) (L0 := L0) (σ0 := σ0) hd
    revert hA1 hb
    generalize f_X12_init_102 = g
    intro hA1 hb
    exact exs ok_X12_init rt_X12_init (by omega) (hc_X12_init G l hd) hrAV (hkc hb hk0) 242 ((e_X12_init_94 g _ _ _).trans hA1) hI
  · cases h
set_option maxRecDepth 20000 in
theorem e_X12_init_86 (g : Lay → Sto → Nat → Option (Lay × Sto)) (L : Lay) (σ : Sto) (a0 : Nat) : ex tb_X12_init (spm [94]) (6, 0) (false, false) cl_X12_init (kc 94 (A_X12_init_94 g) k0) rkAV 242 86 [some (vR 12 (some a0))] [] L σ = (if (40 : Int32) = nI 40 then (al L σ 20 40 40).bind fun q80 => (putR q80.2.2 a0 15 (some q80.1)).bind fun σ81 => g q80.2.1 σ81 a0 else none) := rfl
set_option maxRecDepth 20000 in
theorem b_X12_init_86 {G : GT} {l : Launch} {d : Nat} {L0 : Lay} {σ0 : Sto} (hd : 1 ≤ d) : HF G l 12 "<init>" cX12_init 1 none d L0 σ0 (false, false) dcAV 86 (A_X12_init_86 f_X12_init_86) := by
  intro lc st L σ o h hI
  unfold A_X12_init_86 at h
  split at h
  · obtain ⟨hq0, hA1⟩ := bif_s h
    obtain ⟨e0, hq1⟩ := beq_and hq0
    subst e0
    unfold f_X12_init_86 at hA1
    have hb := b_X12_init_94 (G := G) (l := l) (L0 := L0) (σ0 := σ0) hd
    revert hA1 hb
    generalize f_X12_init_94 = g
    intro hA1 hb
    exact exs ok_X12_init rt_X12_init (by omega) (hc_X12_init G l hd) hrAV (hkc hb hk0) 242 ((e_X12_init_86 g _ _ _).trans hA1) hI
  · cases h
set_option maxRecDepth 20000 in
theorem e_X12_init_78 (g : Lay → Sto → Nat → Option (Lay × Sto)) (L : Lay) (σ : Sto) (a0 : Nat) : ex tb_X12_init (spm [86]) (6, 0) (false, false) cl_X12_init (kc 86 (A_X12_init_86 g) k0) rkAV 242 78 [some (vR 12 (some a0))] [] L σ = (if (40 : Int32) = nI 40 then (al L σ 20 40 40).bind fun q82 => (putR q82.2.2 a0 14 (some q82.1)).bind fun σ83 => g q82.2.1 σ83 a0 else none) := rfl
set_option maxRecDepth 20000 in
theorem b_X12_init_78 {G : GT} {l : Launch} {d : Nat} {L0 : Lay} {σ0 : Sto} (hd : 1 ≤ d) : HF G l 12 "<init>" cX12_init 1 none d L0 σ0 (false, false) dcAV 78 (A_X12_init_78 f_X12_init_78) := by
  intro lc st L σ o h hI
  unfold A_X12_init_78 at h
  split at h
  · obtain ⟨hq0, hA1⟩ := bif_s h
    obtain ⟨e0, hq1⟩ := beq_and hq0
    subst e0
    unfold f_X12_init_78 at hA1
    have hb := b_X12_init_86 (G := G) (l := l) (L0 := L0) (σ0 := σ0) hd
    revert hA1 hb
    generalize f_X12_init_86 = g
    intro hA1 hb
    exact exs ok_X12_init rt_X12_init (by omega) (hc_X12_init G l hd) hrAV (hkc hb hk0) 242 ((e_X12_init_78 g _ _ _).trans hA1) hI
  · cases h
set_option maxRecDepth 20000 in
theorem e_X12_init_69 (g : Lay → Sto → Nat → Option (Lay × Sto)) (L : Lay) (σ : Sto) (a0 : Nat) : ex tb_X12_init (spm [78]) (6, 0) (false, false) cl_X12_init (kc 78 (A_X12_init_78 g) k0) rkAV 242 69 [some (vR 12 (some a0))] [] L σ = (if (280 : Int32) = nI 280 then (al L σ 20 280 280).bind fun q84 => (putR q84.2.2 a0 12 (some q84.1)).bind fun σ85 => g q84.2.1 σ85 a0 else none) := rfl
set_option maxRecDepth 20000 in
theorem b_X12_init_69 {G : GT} {l : Launch} {d : Nat} {L0 : Lay} {σ0 : Sto} (hd : 1 ≤ d) : HF G l 12 "<init>" cX12_init 1 none d L0 σ0 (false, false) dcAV 69 (A_X12_init_69 f_X12_init_69) := by
  intro lc st L σ o h hI
  unfold A_X12_init_69 at h
  split at h
  · obtain ⟨hq0, hA1⟩ := bif_s h
    obtain ⟨e0, hq1⟩ := beq_and hq0
    subst e0
    unfold f_X12_init_69 at hA1
    have hb := b_X12_init_78 (G := G) (l := l) (L0 := L0) (σ0 := σ0) hd
    revert hA1 hb
    generalize f_X12_init_78 = g
    intro hA1 hb
    exact exs ok_X12_init rt_X12_init (by omega) (hc_X12_init G l hd) hrAV (hkc hb hk0) 242 ((e_X12_init_69 g _ _ _).trans hA1) hI
  · cases h
set_option maxRecDepth 20000 in
theorem e_X12_init_60 (g : Lay → Sto → Nat → Option (Lay × Sto)) (L : Lay) (σ : Sto) (a0 : Nat) : ex tb_X12_init (spm [69]) (6, 0) (false, false) cl_X12_init (kc 69 (A_X12_init_69 g) k0) rkAV 242 60 [some (vR 12 (some a0))] [] L σ = (if (280 : Int32) = nI 280 then (al L σ 20 280 280).bind fun q86 => (putR q86.2.2 a0 11 (some q86.1)).bind fun σ87 => g q86.2.1 σ87 a0 else none) := rfl
set_option maxRecDepth 20000 in
theorem b_X12_init_60 {G : GT} {l : Launch} {d : Nat} {L0 : Lay} {σ0 : Sto} (hd : 1 ≤ d) : HF G l 12 "<init>" cX12_init 1 none d L0 σ0 (false, false) dcAV 60 (A_X12_init_60 f_X12_init_60) := by
  intro lc st L σ o h hI
  unfold A_X12_init_60 at h
  split at h
  · obtain ⟨hq0, hA1⟩ := bif_s h
    obtain ⟨e0, hq1⟩ := beq_and hq0
    subst e0
    unfold f_X12_init_60 at hA1
    have hb := b_X12_init_69 (G := G) (l := l) (L0 := L0) (σ0 := σ0) hd
    revert hA1 hb
    generalize f_X12_init_69 = g
    intro hA1 hb
    exact exs ok_X12_init rt_X12_init (by omega) (hc_X12_init G l hd) hrAV (hkc hb hk0) 242 ((e_X12_init_60 g _ _ _).trans hA1) hI
  · cases h
set_option maxRecDepth 20000 in
theorem e_X12_init_52 (g : Lay → Sto → Nat → Option (Lay × Sto)) (L : Lay) (σ : Sto) (a0 : Nat) : ex tb_X12_init (spm [60]) (6, 0) (false, false) cl_X12_init (kc 60 (A_X12_init_60 g) k0) rkAV 242 52 [some (vR 12 (some a0))] [] L σ = (if (40 : Int32) = nI 40 then (al L σ 20 40 40).bind fun q88 => (putR q88.2.2 a0 10 (some q88.1)).bind fun σ89 => g q88.2.1 σ89 a0 else none) := rfl
set_option maxRecDepth 20000 in
theorem b_X12_init_52 {G : GT} {l : Launch} {d : Nat} {L0 : Lay} {σ0 : Sto} (hd : 1 ≤ d) : HF G l 12 "<init>" cX12_init 1 none d L0 σ0 (false, false) dcAV 52 (A_X12_init_52 f_X12_init_52) := by
  intro lc st L σ o h hI
  unfold A_X12_init_52 at h
  split at h
  · obtain ⟨hq0, hA1⟩ := bif_s h
    obtain ⟨e0, hq1⟩ := beq_and hq0
    subst e0
    unfold f_X12_init_52 at hA1
    have hb := b_X12_init_60 (G := G) (l := l) (L0 := L0) (σ0 := σ0) hd
    revert hA1 hb
    generalize f_X12_init_60 = g
    intro hA1 hb
    exact exs ok_X12_init rt_X12_init (by omega) (hc_X12_init G l hd) hrAV (hkc hb hk0) 242 ((e_X12_init_52 g _ _ _).trans hA1) hI
  · cases h
set_option maxRecDepth 20000 in
theorem e_X12_init_44 (g : Lay → Sto → Nat → Option (Lay × Sto)) (L : Lay) (σ : Sto) (a0 : Nat) : ex tb_X12_init (spm [52]) (6, 0) (false, false) cl_X12_init (kc 52 (A_X12_init_52 g) k0) rkAV 242 44 [some (vR 12 (some a0))] [] L σ = (if (40 : Int32) = nI 40 then (al L σ 20 40 40).bind fun q90 => (putR q90.2.2 a0 9 (some q90.1)).bind fun σ91 => g q90.2.1 σ91 a0 else none) := rfl
set_option maxRecDepth 20000 in
theorem b_X12_init_44 {G : GT} {l : Launch} {d : Nat} {L0 : Lay} {σ0 : Sto} (hd : 1 ≤ d) : HF G l 12 "<init>" cX12_init 1 none d L0 σ0 (false, false) dcAV 44 (A_X12_init_44 f_X12_init_44) := by
  intro lc st L σ o h hI
  unfold A_X12_init_44 at h
  split at h
  · obtain ⟨hq0, hA1⟩ := bif_s h
    obtain ⟨e0, hq1⟩ := beq_and hq0
    subst e0
    unfold f_X12_init_44 at hA1
    have hb := b_X12_init_52 (G := G) (l := l) (L0 := L0) (σ0 := σ0) hd
    revert hA1 hb
    generalize f_X12_init_52 = g
    intro hA1 hb
    exact exs ok_X12_init rt_X12_init (by omega) (hc_X12_init G l hd) hrAV (hkc hb hk0) 242 ((e_X12_init_44 g _ _ _).trans hA1) hI
  · cases h
set_option maxRecDepth 20000 in
theorem e_X12_init_36 (g : Lay → Sto → Nat → Option (Lay × Sto)) (L : Lay) (σ : Sto) (a0 : Nat) : ex tb_X12_init (spm [44]) (6, 0) (false, false) cl_X12_init (kc 44 (A_X12_init_44 g) k0) rkAV 242 36 [some (vR 12 (some a0))] [] L σ = (if (40 : Int32) = nI 40 then (al L σ 20 40 40).bind fun q92 => (putR q92.2.2 a0 8 (some q92.1)).bind fun σ93 => g q92.2.1 σ93 a0 else none) := rfl
set_option maxRecDepth 20000 in
theorem b_X12_init_36 {G : GT} {l : Launch} {d : Nat} {L0 : Lay} {σ0 : Sto} (hd : 1 ≤ d) : HF G l 12 "<init>" cX12_init 1 none d L0 σ0 (false, false) dcAV 36 (A_X12_init_36 f_X12_init_36) := by
  intro lc st L σ o h hI
  unfold A_X12_init_36 at h
  split at h
  · obtain ⟨hq0, hA1⟩ := bif_s h
    obtain ⟨e0, hq1⟩ := beq_and hq0
    subst e0
    unfold f_X12_init_36 at hA1
    have hb := b_X12_init_44 (G := G) (l := l) (L0 := L0) (σ0 := σ0) hd
    revert hA1 hb
    generalize f_X12_init_44 = g
    intro hA1 hb
    exact exs ok_X12_init rt_X12_init (by omega) (hc_X12_init G l hd) hrAV (hkc hb hk0) 242 ((e_X12_init_36 g _ _ _).trans hA1) hI
  · cases h
set_option maxRecDepth 20000 in
theorem e_X12_init_28 (g : Lay → Sto → Nat → Option (Lay × Sto)) (L : Lay) (σ : Sto) (a0 : Nat) : ex tb_X12_init (spm [36]) (6, 0) (false, false) cl_X12_init (kc 36 (A_X12_init_36 g) k0) rkAV 242 28 [some (vR 12 (some a0))] [] L σ = (if (40 : Int32) = nI 40 then (al L σ 20 40 40).bind fun q94 => (putR q94.2.2 a0 7 (some q94.1)).bind fun σ95 => g q94.2.1 σ95 a0 else none) := rfl
set_option maxRecDepth 20000 in
theorem b_X12_init_28 {G : GT} {l : Launch} {d : Nat} {L0 : Lay} {σ0 : Sto} (hd : 1 ≤ d) : HF G l 12 "<init>" cX12_init 1 none d L0 σ0 (false, false) dcAV 28 (A_X12_init_28 f_X12_init_28) := by
  intro lc st L σ o h hI
  unfold A_X12_init_28 at h
  split at h
  · obtain ⟨hq0, hA1⟩ := bif_s h
    obtain ⟨e0, hq1⟩ := beq_and hq0
    subst e0
    unfold f_X12_init_28 at hA1
    have hb := b_X12_init_36 (G := G) (l := l) (L0 := L0) (σ0 := σ0) hd
    revert hA1 hb
    generalize f_X12_init_36 = g
    intro hA1 hb
    exact exs ok_X12_init rt_X12_init (by omega) (hc_X12_init G l hd) hrAV (hkc hb hk0) 242 ((e_X12_init_28 g _ _ _).trans hA1) hI
  · cases h
set_option maxRecDepth 20000 in
theorem e_X12_init_20 (g : Lay → Sto → Nat → Option (Lay × Sto)) (L : Lay) (σ : Sto) (a0 : Nat) : ex tb_X12_init (spm [28]) (6, 0) (false, false) cl_X12_init (kc 28 (A_X12_init_28 g) k0) rkAV 242 20 [some (vR 12 (some a0))] [] L σ = (if (40 : Int32) = nI 40 then (al L σ 20 40 40).bind fun q96 => (putR q96.2.2 a0 6 (some q96.1)).bind fun σ97 => g q96.2.1 σ97 a0 else none) := rfl
set_option maxRecDepth 20000 in
theorem b_X12_init_20 {G : GT} {l : Launch} {d : Nat} {L0 : Lay} {σ0 : Sto} (hd : 1 ≤ d) : HF G l 12 "<init>" cX12_init 1 none d L0 σ0 (false, false) dcAV 20 (A_X12_init_20 f_X12_init_20) := by
  intro lc st L σ o h hI
  unfold A_X12_init_20 at h
  split at h
  · obtain ⟨hq0, hA1⟩ := bif_s h
    obtain ⟨e0, hq1⟩ := beq_and hq0
    subst e0
    unfold f_X12_init_20 at hA1
    have hb := b_X12_init_28 (G := G) (l := l) (L0 := L0) (σ0 := σ0) hd
    revert hA1 hb
    generalize f_X12_init_28 = g
    intro hA1 hb
    exact exs ok_X12_init rt_X12_init (by omega) (hc_X12_init G l hd) hrAV (hkc hb hk0) 242 ((e_X12_init_20 g _ _ _).trans hA1) hI
  · cases h
set_option maxRecDepth 20000 in
theorem e_X12_init_12 (g : Lay → Sto → Nat → Option (Lay × Sto)) (L : Lay) (σ : Sto) (a0 : Nat) : ex tb_X12_init (spm [20]) (6, 0) (false, false) cl_X12_init (kc 20 (A_X12_init_20 g) k0) rkAV 242 12 [some (vR 12 (some a0))] [] L σ = (if (40 : Int32) = nI 40 then (al L σ 20 40 40).bind fun q98 => (putR q98.2.2 a0 5 (some q98.1)).bind fun σ99 => g q98.2.1 σ99 a0 else none) := rfl
set_option maxRecDepth 20000 in
theorem b_X12_init_12 {G : GT} {l : Launch} {d : Nat} {L0 : Lay} {σ0 : Sto} (hd : 1 ≤ d) : HF G l 12 "<init>" cX12_init 1 none d L0 σ0 (false, false) dcAV 12 (A_X12_init_12 f_X12_init_12) := by
  intro lc st L σ o h hI
  unfold A_X12_init_12 at h
  split at h
  · obtain ⟨hq0, hA1⟩ := bif_s h
    obtain ⟨e0, hq1⟩ := beq_and hq0
    subst e0
    unfold f_X12_init_12 at hA1
    have hb := b_X12_init_20 (G := G) (l := l) (L0 := L0) (σ0 := σ0) hd
    revert hA1 hb
    generalize f_X12_init_20 = g
    intro hA1 hb
    exact exs ok_X12_init rt_X12_init (by omega) (hc_X12_init G l hd) hrAV (hkc hb hk0) 242 ((e_X12_init_12 g _ _ _).trans hA1) hI
  · cases h
set_option maxRecDepth 20000 in
theorem e_X12_init_0 (g : Lay → Sto → Nat → Option (Lay × Sto)) (L : Lay) (σ : Sto) (a0 : Nat) : ex tb_X12_init (spm [12]) (6, 0) (false, false) cl_X12_init (kc 12 (A_X12_init_12 g) k0) rkAV 242 0 [some (vR 12 (some a0))] [] L σ = (if (6 : Int32) = nI 6 then (al L σ 20 6 6).bind fun q100 => (putR q100.2.2 a0 3 (some q100.1)).bind fun σ101 => g q100.2.1 σ101 a0 else none) := rfl
set_option maxRecDepth 20000 in
theorem ca_X12_init (G : GT) (l : Launch) {d : Nat} (hd : 1 ≤ d) : CA G l 148 (false, false) d ad_X12_init := by
  intro O L σ as k o h hW hok
  unfold ad_X12_init at h
  split at h
  · obtain ⟨hq0, hA0⟩ := bif_s h
    obtain ⟨e0, hq1⟩ := beq_and hq0
    subst e0
    obtain ⟨r, hr, hk⟩ := Option.bind_eq_some_iff.mp hA0
    unfold f_X12_init at hr
    have hb := b_X12_init_12 (G := G) (l := l) (L0 := L) (σ0 := σ) hd
    revert hr hb
    generalize f_X12_init_12 = g
    intro hr hb
    exact ca_of (q := dcAV r) (by decide) rfl (Nat.le_of_ble_eq_true rfl) hk (fun e => by cases e) (fun e => by cases e) (exs (L0 := L) (σ0 := σ) ok_X12_init rt_X12_init (by omega) (hc_X12_init G l hd) hrAV (hkc hb hk0) 242 ((e_X12_init_0 g _ _ _).trans hr) (inv0 hW hok))
  · cases h
