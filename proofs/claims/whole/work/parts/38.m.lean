set_option maxRecDepth 20000 in
theorem b_X12_init_192 {G : GT} {l : Launch} {d : Nat} {L0 : Lay} {σ0 : Sto} (hd : 1 ≤ d) : HF G l 12 "<init>" cX12_init 1 none d L0 σ0 (false, false) dcAV 192 (A_X12_init_192 f_X12_init_192) := by
  intro lc st L σ o h hI
  unfold A_X12_init_192 at h
  split at h
  · obtain ⟨hq0, hA1⟩ := bif_s h
    obtain ⟨e0, hq1⟩ := beq_and hq0
    subst e0
    unfold f_X12_init_192 at hA1
    have hb := b_X12_init_200 (G := G) (l := l) (L0 := L0) (σ0 := σ0) hd
    revert hA1 hb
    generalize f_X12_init_200 = g
    intro hA1 hb
    exact exs (sp := [200]) (K := (kc 200 (A_X12_init_200 g) k0)) ok_X12_init rt_X12_init (by omega) (hc_X12_init G l hd) hrAV (hkc hb hk0) 242 hA1 hI
  · cases h
