set_option maxRecDepth 20000 in
theorem b_X12_init_176 {G : GT} {l : Launch} {d : Nat} {L0 : Lay} {σ0 : Sto} (hd : 1 ≤ d) : HF G l 12 "<init>" cX12_init 1 none d L0 σ0 (false, false) dcAV 176 (A_X12_init_176 f_X12_init_176) := by
  intro lc st L σ o h hI
  unfold A_X12_init_176 at h
  split at h
  · obtain ⟨hq0, hA1⟩ := bif_s h
    obtain ⟨e0, hq1⟩ := beq_and hq0
    subst e0
    unfold f_X12_init_176 at hA1
    have hb := b_X12_init_184 (G := G) (l := l) (L0 := L0) (σ0 := σ0) hd
    revert hA1 hb
    generalize f_X12_init_184 = g
    intro hA1 hb
    exact exs (sp := [184]) (K := (kc 184 (A_X12_init_184 g) k0)) ok_X12_init rt_X12_init (by omega) (hc_X12_init G l hd) hrAV (hkc hb hk0) 242 hA1 hI
  · cases h
set_option maxRecDepth 20000 in
theorem b_X12_init_168 {G : GT} {l : Launch} {d : Nat} {L0 : Lay} {σ0 : Sto} (hd : 1 ≤ d) : HF G l 12 "<init>" cX12_init 1 none d L0 σ0 (false, false) dcAV 168 (A_X12_init_168 f_X12_init_168) := by
  intro lc st L σ o h hI
  unfold A_X12_init_168 at h
  split at h
  · obtain ⟨hq0, hA1⟩ := bif_s h
    obtain ⟨e0, hq1⟩ := beq_and hq0
    subst e0
    unfold f_X12_init_168 at hA1
    have hb := b_X12_init_176 (G := G) (l := l) (L0 := L0) (σ0 := σ0) hd
    revert hA1 hb
    generalize f_X12_init_176 = g
    intro hA1 hb
    exact exs (sp := [176]) (K := (kc 176 (A_X12_init_176 g) k0)) ok_X12_init rt_X12_init (by omega) (hc_X12_init G l hd) hrAV (hkc hb hk0) 242 hA1 hI
  · cases h
set_option maxRecDepth 20000 in
theorem b_X12_init_161 {G : GT} {l : Launch} {d : Nat} {L0 : Lay} {σ0 : Sto} (hd : 1 ≤ d) : HF G l 12 "<init>" cX12_init 1 none d L0 σ0 (false, false) dcAV 161 (A_X12_init_161 f_X12_init_161) := by
  intro lc st L σ o h hI
  unfold A_X12_init_161 at h
  split at h
  · obtain ⟨hq0, hA1⟩ := bif_s h
    obtain ⟨e0, hq1⟩ := beq_and hq0
    subst e0
    unfold f_X12_init_161 at hA1
    have hb := b_X12_init_168 (G := G) (l := l) (L0 := L0) (σ0 := σ0) hd
    revert hA1 hb
    generalize f_X12_init_168 = g
    intro hA1 hb
    exact exs (sp := [168]) (K := (kc 168 (A_X12_init_168 g) k0)) ok_X12_init rt_X12_init (by omega) (hc_X12_init G l hd) hrAV (hkc hb hk0) 242 hA1 hI
  · cases h
set_option maxRecDepth 20000 in
theorem b_X12_init_153 {G : GT} {l : Launch} {d : Nat} {L0 : Lay} {σ0 : Sto} (hd : 1 ≤ d) : HF G l 12 "<init>" cX12_init 1 none d L0 σ0 (false, false) dcAV 153 (A_X12_init_153 f_X12_init_153) := by
  intro lc st L σ o h hI
  unfold A_X12_init_153 at h
  split at h
  · obtain ⟨hq0, hA1⟩ := bif_s h
    obtain ⟨e0, hq1⟩ := beq_and hq0
    subst e0
    unfold f_X12_init_153 at hA1
    have hb := b_X12_init_161 (G := G) (l := l) (L0 := L0) (σ0 := σ0) hd
    revert hA1 hb
    generalize f_X12_init_161 = g
    intro hA1 hb
    exact exs (sp := [161]) (K := (kc 161 (A_X12_init_161 g) k0)) ok_X12_init rt_X12_init (by omega) (hc_X12_init G l hd) hrAV (hkc hb hk0) 242 hA1 hI
  · cases h
set_option maxRecDepth 20000 in
theorem b_X12_init_145 {G : GT} {l : Launch} {d : Nat} {L0 : Lay} {σ0 : Sto} (hd : 1 ≤ d) : HF G l 12 "<init>" cX12_init 1 none d L0 σ0 (false, false) dcAV 145 (A_X12_init_145 f_X12_init_145) := by
  intro lc st L σ o h hI
  unfold A_X12_init_145 at h
  split at h
  · obtain ⟨hq0, hA1⟩ := bif_s h
    obtain ⟨e0, hq1⟩ := beq_and hq0
    subst e0
    unfold f_X12_init_145 at hA1
    have hb := b_X12_init_153 (G := G) (l := l) (L0 := L0) (σ0 := σ0) hd
    revert hA1 hb
    generalize f_X12_init_153 = g
    intro hA1 hb
    exact exs (sp := [153]) (K := (kc 153 (A_X12_init_153 g) k0)) ok_X12_init rt_X12_init (by omega) (hc_X12_init G l hd) hrAV (hkc hb hk0) 242 hA1 hI
  · cases h
set_option maxRecDepth 20000 in
theorem b_X12_init_136 {G : GT} {l : Launch} {d : Nat} {L0 : Lay} {σ0 : Sto} (hd : 1 ≤ d) : HF G l 12 "<init>" cX12_init 1 none d L0 σ0 (false, false) dcAV 136 (A_X12_init_136 f_X12_init_136) := by
  intro lc st L σ o h hI
  unfold A_X12_init_136 at h
  split at h
  · obtain ⟨hq0, hA1⟩ := bif_s h
    obtain ⟨e0, hq1⟩ := beq_and hq0
    subst e0
    unfold f_X12_init_136 at hA1
    have hb := b_X12_init_145 (G := G) (l := l) (L0 := L0) (σ0 := σ0) hd
    revert hA1 hb
    generalize f_X12_init_145 = g
    intro hA1 hb
    exact exs (sp := [145]) (K := (kc 145 (A_X12_init_145 g) k0)) ok_X12_init rt_X12_init (by omega) (hc_X12_init G l hd) hrAV (hkc hb hk0) 242 hA1 hI
  · cases h
set_option maxRecDepth 20000 in
theorem b_X12_init_127 {G : GT} {l : Launch} {d : Nat} {L0 : Lay} {σ0 : Sto} (hd : 1 ≤ d) : HF G l 12 "<init>" cX12_init 1 none d L0 σ0 (false, false) dcAV 127 (A_X12_init_127 f_X12_init_127) := by
  intro lc st L σ o h hI
  unfold A_X12_init_127 at h
  split at h
  · obtain ⟨hq0, hA1⟩ := bif_s h
    obtain ⟨e0, hq1⟩ := beq_and hq0
    subst e0
    unfold f_X12_init_127 at hA1
    have hb := b_X12_init_136 (G := G) (l := l) (L0 := L0) (σ0 := σ0) hd
    revert hA1 hb
    generalize f_X12_init_136 = g
    intro hA1 hb
    exact exs (sp := [136]) (K := (kc 136 (A_X12_init_136 g) k0)) ok_X12_init rt_X12_init (by omega) (hc_X12_init G l hd) hrAV (hkc hb hk0) 242 hA1 hI
  · cases h
set_option maxRecDepth 20000 in
theorem b_X12_init_118 {G : GT} {l : Launch} {d : Nat} {L0 : Lay} {σ0 : Sto} (hd : 1 ≤ d) : HF G l 12 "<init>" cX12_init 1 none d L0 σ0 (false, false) dcAV 118 (A_X12_init_118 f_X12_init_118) := by
  intro lc st L σ o h hI
  unfold A_X12_init_118 at h
  split at h
  · obtain ⟨hq0, hA1⟩ := bif_s h
    obtain ⟨e0, hq1⟩ := beq_and hq0
    subst e0
    unfold f_X12_init_118 at hA1
    have hb := b_X12_init_127 (G := G) (l := l) (L0 := L0) (σ0 := σ0) hd
    revert hA1 hb
    generalize f_X12_init_127 = g
    intro hA1 hb
    exact exs (sp := [127]) (K := (kc 127 (A_X12_init_127 g) k0)) ok_X12_init rt_X12_init (by omega) (hc_X12_init G l hd) hrAV (hkc hb hk0) 242 hA1 hI
  · cases h
set_option maxRecDepth 20000 in
theorem b_X12_init_110 {G : GT} {l : Launch} {d : Nat} {L0 : Lay} {σ0 : Sto} (hd : 1 ≤ d) : HF G l 12 "<init>" cX12_init 1 none d L0 σ0 (false, false) dcAV 110 (A_X12_init_110 f_X12_init_110) := by
  intro lc st L σ o h hI
  unfold A_X12_init_110 at h
  split at h
  · obtain ⟨hq0, hA1⟩ := bif_s h
    obtain ⟨e0, hq1⟩ := beq_and hq0
    subst e0
    unfold f_X12_init_110 at hA1
    have hb := b_X12_init_118 (G := G) (l := l) (L0 := L0) (σ0 := σ0) hd
    revert hA1 hb
    generalize f_X12_init_118 = g
    intro hA1 hb
    exact exs (sp := [118]) (K := (kc 118 (A_X12_init_118 g) k0)) ok_X12_init rt_X12_init (by omega) (hc_X12_init G l hd) hrAV (hkc hb hk0) 242 hA1 hI
  · cases h
set_option maxRecDepth 20000 in
theorem b_X12_init_102 {G : GT} {l : Launch} {d : Nat} {L0 : Lay} {σ0 : Sto} (hd : 1 ≤ d) : HF G l 12 "<init>" cX12_init 1 none d L0 σ0 (false, false) dcAV 102 (A_X12_init_102 f_X12_init_102) := by
  intro lc st L σ o h hI
  unfold A_X12_init_102 at h
  split at h
  · obtain ⟨hq0, hA1⟩ := bif_s h
    obtain ⟨e0, hq1⟩ := beq_and hq0
    subst e0
    unfold f_X12_init_102 at hA1
    have hb := b_X12_init_110 (G := G) (l := l) (L0 := L0) (σ0 := σ0) hd
    revert hA1 hb
    generalize f_X12_init_110 = g
    intro hA1 hb
    exact exs (sp := [110]) (K := (kc 110 (A_X12_init_110 g) k0)) ok_X12_init rt_X12_init (by omega) (hc_X12_init G l hd) hrAV (hkc hb hk0) 242 hA1 hI
  · cases h
set_option maxRecDepth 20000 in
theorem b_X12_init_94 {G : GT} {l : Launch} {d : Nat} {L0 : Lay} {σ0 : Sto} (hd : 1 ≤ d) : HF G l 12 "<init>" cX12_init 1 none d L0 σ0 (false, false) dcAV 94 (A_X12_init_94 f_X12_init_94) := by
  intro lc st L σ o h hI
  unfold A_X12_init_94 at h
  split at h
  · obtain ⟨hq0, hA1⟩ := bif_s h
    obtain ⟨e0, hq1⟩ := beq_and hq0
    subst e0
    unfold f_X12_init_94 at hA1
    have hb := b_X12_init_102 (G := G) (l := l) (L0 := L0) (σ0 := σ0) hd
    revert hA1 hb
    generalize f_X12_init_102 = g
    intro hA1 hb
    exact exs (sp := [102]) (K := (kc 102 (A_X12_init_102 g) k0)) ok_X12_init rt_X12_init (by omega) (hc_X12_init G l hd) hrAV (hkc hb hk0) 242 hA1 hI
  · cases h
set_option maxRecDepth 20000 in
theorem b_X12_init_86 {G : GT} {l : Launch} {d : Nat} {L0 : Lay} {σ0 : Sto} (hd : 1 ≤ d) : HF G l 12 "<init>" cX12_init 1 none d L0 σ0 (false, false) dcAV 86 (A_X12_init_86 f_X12_init_86) := by
  intro lc st L σ o h hI
  unfold A_X12_init_86 at h
  split at h
  · obtain ⟨hq0, hA1⟩ := bif_s h
    obtain ⟨e0, hq1⟩ := beq_and hq0
    subst e0
    unfold f_X12_init_86 at hA1
    have hb := b_X12_init_94 (G := G) (l := l) (L0 := L0) (σ0 := σ0) hd
    revert hA1 hb
    generalize f_X12_init_94 = g
    intro hA1 hb
    exact exs (sp := [94]) (K := (kc 94 (A_X12_init_94 g) k0)) ok_X12_init rt_X12_init (by omega) (hc_X12_init G l hd) hrAV (hkc hb hk0) 242 hA1 hI
  · cases h
set_option maxRecDepth 20000 in
theorem b_X12_init_78 {G : GT} {l : Launch} {d : Nat} {L0 : Lay} {σ0 : Sto} (hd : 1 ≤ d) : HF G l 12 "<init>" cX12_init 1 none d L0 σ0 (false, false) dcAV 78 (A_X12_init_78 f_X12_init_78) := by
  intro lc st L σ o h hI
  unfold A_X12_init_78 at h
  split at h
  · obtain ⟨hq0, hA1⟩ := bif_s h
    obtain ⟨e0, hq1⟩ := beq_and hq0
    subst e0
    unfold f_X12_init_78 at hA1
    have hb := b_X12_init_86 (G := G) (l := l) (L0 := L0) (σ0 := σ0) hd
    revert hA1 hb
    generalize f_X12_init_86 = g
    intro hA1 hb
    exact exs (sp := [86]) (K := (kc 86 (A_X12_init_86 g) k0)) ok_X12_init rt_X12_init (by omega) (hc_X12_init G l hd) hrAV (hkc hb hk0) 242 hA1 hI
  · cases h
set_option maxRecDepth 20000 in
theorem b_X12_init_69 {G : GT} {l : Launch} {d : Nat} {L0 : Lay} {σ0 : Sto} (hd : 1 ≤ d) : HF G l 12 "<init>" cX12_init 1 none d L0 σ0 (false, false) dcAV 69 (A_X12_init_69 f_X12_init_69) := by
  intro lc st L σ o h hI
  unfold A_X12_init_69 at h
  split at h
  · obtain ⟨hq0, hA1⟩ := bif_s h
    obtain ⟨e0, hq1⟩ := beq_and hq0
    subst e0
    unfold f_X12_init_69 at hA1
    have hb := b_X12_init_78 (G := G) (l := l) (L0 := L0) (σ0 := σ0) hd
    revert hA1 hb
    generalize f_X12_init_78 = g
    intro hA1 hb
    exact exs (sp := [78]) (K := (kc 78 (A_X12_init_78 g) k0)) ok_X12_init rt_X12_init (by omega) (hc_X12_init G l hd) hrAV (hkc hb hk0) 242 hA1 hI
  · cases h
set_option maxRecDepth 20000 in
theorem b_X12_init_60 {G : GT} {l : Launch} {d : Nat} {L0 : Lay} {σ0 : Sto} (hd : 1 ≤ d) : HF G l 12 "<init>" cX12_init 1 none d L0 σ0 (false, false) dcAV 60 (A_X12_init_60 f_X12_init_60) := by
  intro lc st L σ o h hI
  unfold A_X12_init_60 at h
  split at h
  · obtain ⟨hq0, hA1⟩ := bif_s h
    obtain ⟨e0, hq1⟩ := beq_and hq0
    subst e0
    unfold f_X12_init_60 at hA1
    have hb := b_X12_init_69 (G := G) (l := l) (L0 := L0) (σ0 := σ0) hd
    revert hA1 hb
    generalize f_X12_init_69 = g
    intro hA1 hb
    exact exs (sp := [69]) (K := (kc 69 (A_X12_init_69 g) k0)) ok_X12_init rt_X12_init (by omega) (hc_X12_init G l hd) hrAV (hkc hb hk0) 242 hA1 hI
  · cases h
set_option maxRecDepth 20000 in
theorem b_X12_init_52 {G : GT} {l : Launch} {d : Nat} {L0 : Lay} {σ0 : Sto} (hd : 1 ≤ d) : HF G l 12 "<init>" cX12_init 1 none d L0 σ0 (false, false) dcAV 52 (A_X12_init_52 f_X12_init_52) := by
  intro lc st L σ o h hI
  unfold A_X12_init_52 at h
  split at h
  · obtain ⟨hq0, hA1⟩ := bif_s h
    obtain ⟨e0, hq1⟩ := beq_and hq0
    subst e0
    unfold f_X12_init_52 at hA1
    have hb := b_X12_init_60 (G := G) (l := l) (L0 := L0) (σ0 := σ0) hd
    revert hA1 hb
    generalize f_X12_init_60 = g
    intro hA1 hb
    exact exs (sp := [60]) (K := (kc 60 (A_X12_init_60 g) k0)) ok_X12_init rt_X12_init (by omega) (hc_X12_init G l hd) hrAV (hkc hb hk0) 242 hA1 hI
  · cases h
set_option maxRecDepth 20000 in
theorem b_X12_init_44 {G : GT} {l : Launch} {d : Nat} {L0 : Lay} {σ0 : Sto} (hd : 1 ≤ d) : HF G l 12 "<init>" cX12_init 1 none d L0 σ0 (false, false) dcAV 44 (A_X12_init_44 f_X12_init_44) := by
  intro lc st L σ o h hI
  unfold A_X12_init_44 at h
  split at h
  · obtain ⟨hq0, hA1⟩ := bif_s h
    obtain ⟨e0, hq1⟩ := beq_and hq0
    subst e0
    unfold f_X12_init_44 at hA1
    have hb := b_X12_init_52 (G := G) (l := l) (L0 := L0) (σ0 := σ0) hd
    revert hA1 hb
    generalize f_X12_init_52 = g
    intro hA1 hb
    exact exs (sp := [52]) (K := (kc 52 (A_X12_init_52 g) k0)) ok_X12_init rt_X12_init (by omega) (hc_X12_init G l hd) hrAV (hkc hb hk0) 242 hA1 hI
  · cases h
set_option maxRecDepth 20000 in
theorem b_X12_init_36 {G : GT} {l : Launch} {d : Nat} {L0 : Lay} {σ0 : Sto} (hd : 1 ≤ d) : HF G l 12 "<init>" cX12_init 1 none d L0 σ0 (false, false) dcAV 36 (A_X12_init_36 f_X12_init_36) := by
  intro lc st L σ o h hI
  unfold A_X12_init_36 at h
  split at h
  · obtain ⟨hq0, hA1⟩ := bif_s h
    obtain ⟨e0, hq1⟩ := beq_and hq0
    subst e0
    unfold f_X12_init_36 at hA1
    have hb := b_X12_init_44 (G := G) (l := l) (L0 := L0) (σ0 := σ0) hd
    revert hA1 hb
    generalize f_X12_init_44 = g
    intro hA1 hb
    exact exs (sp := [44]) (K := (kc 44 (A_X12_init_44 g) k0)) ok_X12_init rt_X12_init (by omega) (hc_X12_init G l hd) hrAV (hkc hb hk0) 242 hA1 hI
  · cases h
set_option maxRecDepth 20000 in
theorem b_X12_init_28 {G : GT} {l : Launch} {d : Nat} {L0 : Lay} {σ0 : Sto} (hd : 1 ≤ d) : HF G l 12 "<init>" cX12_init 1 none d L0 σ0 (false, false) dcAV 28 (A_X12_init_28 f_X12_init_28) := by
  intro lc st L σ o h hI
  unfold A_X12_init_28 at h
  split at h
  · obtain ⟨hq0, hA1⟩ := bif_s h
    obtain ⟨e0, hq1⟩ := beq_and hq0
    subst e0
    unfold f_X12_init_28 at hA1
    have hb := b_X12_init_36 (G := G) (l := l) (L0 := L0) (σ0 := σ0) hd
    revert hA1 hb
    generalize f_X12_init_36 = g
    intro hA1 hb
    exact exs (sp := [36]) (K := (kc 36 (A_X12_init_36 g) k0)) ok_X12_init rt_X12_init (by omega) (hc_X12_init G l hd) hrAV (hkc hb hk0) 242 hA1 hI
  · cases h
set_option maxRecDepth 20000 in
theorem b_X12_init_20 {G : GT} {l : Launch} {d : Nat} {L0 : Lay} {σ0 : Sto} (hd : 1 ≤ d) : HF G l 12 "<init>" cX12_init 1 none d L0 σ0 (false, false) dcAV 20 (A_X12_init_20 f_X12_init_20) := by
  intro lc st L σ o h hI
  unfold A_X12_init_20 at h
  split at h
  · obtain ⟨hq0, hA1⟩ := bif_s h
    obtain ⟨e0, hq1⟩ := beq_and hq0
    subst e0
    unfold f_X12_init_20 at hA1
    have hb := b_X12_init_28 (G := G) (l := l) (L0 := L0) (σ0 := σ0) hd
    revert hA1 hb
    generalize f_X12_init_28 = g
    intro hA1 hb
    exact exs (sp := [28]) (K := (kc 28 (A_X12_init_28 g) k0)) ok_X12_init rt_X12_init (by omega) (hc_X12_init G l hd) hrAV (hkc hb hk0) 242 hA1 hI
  · cases h
set_option maxRecDepth 20000 in
theorem b_X12_init_12 {G : GT} {l : Launch} {d : Nat} {L0 : Lay} {σ0 : Sto} (hd : 1 ≤ d) : HF G l 12 "<init>" cX12_init 1 none d L0 σ0 (false, false) dcAV 12 (A_X12_init_12 f_X12_init_12) := by
  intro lc st L σ o h hI
  unfold A_X12_init_12 at h
  split at h
  · obtain ⟨hq0, hA1⟩ := bif_s h
    obtain ⟨e0, hq1⟩ := beq_and hq0
    subst e0
    unfold f_X12_init_12 at hA1
    have hb := b_X12_init_20 (G := G) (l := l) (L0 := L0) (σ0 := σ0) hd
    revert hA1 hb
    generalize f_X12_init_20 = g
    intro hA1 hb
    exact exs (sp := [20]) (K := (kc 20 (A_X12_init_20 g) k0)) ok_X12_init rt_X12_init (by omega) (hc_X12_init G l hd) hrAV (hkc hb hk0) 242 hA1 hI
  · cases h
set_option maxRecDepth 20000 in
theorem ca_X12_init (G : GT) (l : Launch) {d : Nat} (hd : 1 ≤ d) : CA G l 148 (false, false) d ad_X12_init := by
  intro O L σ as k o h hW hok
  unfold ad_X12_init at h
  split at h
  · obtain ⟨hq0, hA0⟩ := bif_s h
    obtain ⟨e0, hq1⟩ := beq_and hq0
    subst e0
    obtain ⟨r, hr, hk⟩ := Option.bind_eq_some_iff.mp hA0
    unfold f_X12_init at hr
    have hb := b_X12_init_12 (G := G) (l := l) (L0 := L) (σ0 := σ) hd
    revert hr hb
    generalize f_X12_init_12 = g
    intro hr hb
    exact ca_of (q := dcAV r) (by decide) rfl (Nat.le_of_ble_eq_true rfl) hk (fun e => by cases e) (fun e => by cases e) (exs (sp := [12]) (K := (kc 12 (A_X12_init_12 g) k0)) (L0 := L) (σ0 := σ) ok_X12_init rt_X12_init (by omega) (hc_X12_init G l hd) hrAV (hkc hb hk0) 242 hr (inv0 hW hok))
  · cases h
