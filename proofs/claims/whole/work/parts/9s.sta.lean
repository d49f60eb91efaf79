/-! The law from its entry -/
theorem st_37 : (f_X11_init (pL iL 11 0 (nf 11)) (zS iS iL.2.2.1) 0).map (fun r => r.1.2.2.1) = some 37 := by decide +kernel
theorem st_sl : stL.2.2.2 ≤ 20000 := by decide +kernel
theorem st_KD : KD stL := ⟨by decide +kernel, by decide +kernel, by decide +kernel⟩
theorem st_gen (f g : Lay → Sto → Nat → Option (Lay × Sto)) {L : Lay} {σ : Sto} {z : Lay × Sto} (h : ((al L σ 11 0 (nf 11)).bind fun q => (f q.2.1 q.2.2 0).bind fun r => (al r.1 r.2 12 0 (nf 12)).bind fun p => g p.2.1 p.2.2 37) = some z) (h37 : (f (pL L 11 0 (nf 11)) (zS σ L.2.2.1) 0).map (fun r => r.1.2.2.1) = some 37) : ∃ r : Lay × Sto, f (pL L 11 0 (nf 11)) (zS σ L.2.2.1) 0 = some r ∧ r.1.2.2.1 = 37 ∧ g (pL r.1 12 0 (nf 12)) (zS r.2 37) 37 = some z := by
  have h : ((f (pL L 11 0 (nf 11)) (zS σ L.2.2.1) 0).bind fun r => g (pL r.1 12 0 (nf 12)) (zS r.2 r.1.2.2.1) 37) = some z := h
  obtain ⟨r, h1, h2⟩ := Option.bind_eq_some_iff.mp h
  rw [h1] at h37
  have h3 : r.1.2.2.1 = 37 := Option.some.inj h37
  rw [h3] at h2
  exact ⟨r, h1, h3, h2⟩
theorem st_two : ∃ r : Lay × Sto, f_X11_init (pL iL 11 0 (nf 11)) (zS iS iL.2.2.1) 0 = some r ∧ r.1.2.2.1 = 37 ∧ f_X12_init (pL r.1 12 0 (nf 12)) (zS r.2 37) 37 = some (stL, stS) := st_gen f_X11_init f_X12_init st_eq st_37
theorem kj_i1 : (75 - 2 < 280) ∧ (md 75).2.2.2.2.2.1 = 0 ∧ (md 75).2.2.2.2.2.2 = 2 := by decide +kernel
theorem kj_i2 : (148 - 2 < 280) ∧ (md 148).2.2.2.2.2.1 = 0 ∧ (md 148).2.2.2.2.2.2 = 2 := by decide +kernel
theorem kl_i1 : lkH 13 9 75 0 96 = true := by decide +kernel
theorem kl_i2 : lkH 13 12 148 0 1207 = true := by decide +kernel
theorem kn_1 : (13, 7, 11, 94) ∈ lkC := by decide +kernel
theorem kn_2 : (13, 10, 12, 1205) ∈ lkC := by decide +kernel
section
variable {G : GT} {p : Program} {l : Launch} {e : Env} {R : Room} {s : State} {m : MethodId} {args : Array Value} {below : List Frame} {meth : Method} {c : Code} {H : Heap} {locs : List Loc} {Q : State → Prop}
variable {nm : String} {ret : Option FieldType} {ls : Array Slot} {L : Lay} {σ : Sto}
/-- a constructor's call -/
theorem w_ini {j t z x i0 : Nat} {r : List AV} {L1 : Lay} {σ1 : Sto} {pc : Nat} (C : CX G p s m args meth c 13 nm code 4 ret) (hRf : 121 ≤ R.frames) (hRl : 28 + 60 * 120 ≤ R.locals) (hs : s.heap.size = G.1) (hj : (j - 2 < 280) ∧ (md j).2.2.2.2.2.1 = 0 ∧ (md j).2.2.2.2.2.2 = 2) (hf : lkH 13 i0 j 0 z = true) (hP : va_P G.2.1 vwCl (wof G L σ) H) (hS : va_S (fA G) s.heap H locs)
    (hM : Con G l j 120 L σ [vR t (some x)] (none, L1, σ1)) (hL : LE L L1) (hcat : catl r ≤ 8) (hls : ls.size = 4) (hr1 : L1.2.2.1 ≤ R.cells) (hr2 : L1.2.2.2 ≤ R.slots) (hdg : decode code pc = .ok (.invokespecial i0, 3))
    (kk : ∀ (H1 : Heap) (locs1 : List Loc), va_P G.2.1 vwCl (wof G L1 σ1) H1 → va_S (fA G) s.heap H1 locs1 → W p l e R s m args below meth c H1 locs1 L1.2.2.1 L1.2.2.2 Q (F0 m (pc + 3) ls (r.map (cv G)))) : W p l e R s m args below meth c H locs L.2.2.1 L.2.2.2 Q (F0 m pc ls (.ref (G.1 + x) :: r.map (cv G))) := by
  obtain ⟨j1, j2, j3⟩ := hj
  have b1 := hL.1
  have b2 := hL.2.1
  refine w_size (k := 0) (n := 0) hs hP hS (Nat.zero_le _) (fun hz => ?_)
  have hz : H.size = G.1 + L.2.2.1 := hz
  refine w_callR (as := [vR t (some x)]) (r := r) (mc := L1.2.2.1 - L.2.2.1) (ms := L1.2.2.2 - L.2.2.2) (k := 2) C hRf hRl j1 (lkH_ok hf) hP hS hz (Or.inr (Or.inr ⟨rfl, rfl, ?_, G.1 + x, [], rfl, rfl⟩)) j3 hM hcat hls rfl rfl ⟨?_, ?_⟩ hdg (fun H1 l1 a1 a2 => ?_)
  · rw [j2]
    rfl
  · show L.2.2.1 - 0 + (L1.2.2.1 - L.2.2.1) ≤ R.cells
    omega
  · show L.2.2.2 + (L1.2.2.2 - L.2.2.2) ≤ R.slots
    omega
  · have := kk H1 l1 a1 a2
    rw [show L.2.2.1 - 0 + (L1.2.2.1 - L.2.2.1) = L1.2.2.1 by omega, show L.2.2.2 + (L1.2.2.2 - L.2.2.2) = L1.2.2.2 by omega]
    exact this
end
theorem whole_start {p : Program} {e : Env} {s : State} {m : MethodId} {below : List Frame} {meth : Method} {c : Code} (l : Launch) (hflags : l.flags = flags0) {b L : Nat} {xs : Nat → Int32} (hL : L ≤ 3072) (C0 : lw_At p s m meth c b L xs) : W p l e room_1 s m #[Value.ref b] below meth c s.heap [] 0 0 (lw_Z below #[Value.ref b] s) (entryFrame m ([Value.ref b] : List Value).toArray 4) := by
  obtain ⟨hx, hb, hr, hml, hown, hts, hX, hbl, hlocks, hgv⟩ := id C0
  obtain ⟨G, hs, hKK⟩ := kk_start hts hgv
  have C : CX G p s m #[Value.ref b] meth c 13 meth.name code 4 ret := ⟨hx, hb, hml, hown, fun w hw => hts w (List.mem_filter.mp hw).1, hr, hlocks, rfl, hKK, by omega⟩
  obtain ⟨r, i1, i2, i3⟩ := st_two
  have hW0 : WT iL iS := fun x j y hx => absurd hx (Nat.not_lt_zero x)
  have hW1 : WT (pL iL 11 0 (nf 11)) (zS iS iL.2.2.1) := hW0.push 11 0 (nf 11)
  have ok1 : okl (pL iL 11 0 (nf 11)) [vR 11 (some 0)] := okl_cons.mpr ⟨fun y hy => by
    have e1 : (0 : Nat) = y := Option.some.inj hy
    subst e1
    exact ⟨by decide, rfl⟩, fun v hv => by cases hv⟩
  obtain ⟨u1, u2, u3⟩ := ca_use (q := (none, r.1, r.2)) (ca_X11_init G l (d := 120) (by omega)) (by show (f_X11_init (pL iL 11 0 (nf 11)) (zS iS iL.2.2.1) 0).bind (fun r => kr0 none r.1 r.2) = _; rw [i1]; rfl) hW1 ok1
  have u1 : LE (pL iL 11 0 (nf 11)) r.1 := u1
  have u2 : WT r.1 r.2 := u2
  have hW2 : WT (pL r.1 12 0 (nf 12)) (zS r.2 37) := by
    have := u2.push 12 0 (nf 12)
    rw [i2] at this
    exact this
  have k37 : (pL r.1 12 0 (nf 12)).1 37 = 12 := if_pos i2.symm
  have n38 : (pL r.1 12 0 (nf 12)).2.2.1 = 38 := congrArg (· + 1) i2
  have ok2 : okl (pL r.1 12 0 (nf 12)) [vR 12 (some 37)] := okl_cons.mpr ⟨fun y hy => by
    have e1 : (37 : Nat) = y := Option.some.inj hy
    subst e1
    exact ⟨by omega, k37⟩, fun v hv => by cases hv⟩
  obtain ⟨v1, v2, v3⟩ := ca_use (q := (none, stL, stS)) (ca_X12_init G l (d := 120) (by omega)) (by show (f_X12_init (pL r.1 12 0 (nf 12)) (zS r.2 37) 37).bind (fun r => kr0 none r.1 r.2) = _; rw [i3]; rfl) hW2 ok2
  have v1 : LE (pL r.1 12 0 (nf 12)) stL := v1
  have v2 : WT stL stS := v2
  have s2 : r.1.2.2.2 + nf 12 ≤ stL.2.2.2 := v1.2.1
  have s3 := st_sl
  have s4 := st_next
  have t3 : stL.2.2.1 ≤ 600000 := by
    rw [s4]
    exact Nat.le_of_ble_eq_true rfl
  have t4 : stL.2.2.2 ≤ 7302250 := Nat.le_trans s3 (Nat.le_of_ble_eq_true rfl)
  have t5 : r.1.2.2.2 + nf 12 ≤ 7302250 := Nat.le_trans s2 t4
  have t6 : r.1.2.2.2 ≤ 7302250 := Nat.le_trans (Nat.le_add_right _ _) t5
  have t7 : r.1.2.2.1 + 1 ≤ 600000 := by
    rw [i2]
    exact Nat.le_of_ble_eq_true rfl
  have t1 : stL.2.2.1 + 4 + 4 * 512 ≤ 600000 := by
    rw [s4]
    exact Nat.le_of_ble_eq_true rfl
  have t2 : stL.2.2.2 + 128 + 128 * 512 ≤ 7302250 := Nat.le_trans (Nat.add_le_add_right (Nat.add_le_add_right s3 _) _) (Nat.le_of_ble_eq_true rfl)
  have hP0 : va_P G.2.1 vwCl (wof G iL iS) s.heap := fun k q h => by
    have := (wof_lt h).1
    exact absurd this (Nat.not_lt_zero k)
  have hl := lv_entry ([.ref b]) (n := 4) (Nat.le_of_ble_eq_true rfl)
  rw [lg_entry_eq]
  generalize (lg_sl ([.ref b]) ++ List.replicate (4 - (lg_sl ([.ref b])).length) Slot.unset).toArray = ls at hl ⊢
  have hl : lv_has ls 4 [(0, .ref b)] := hl
  refine w_new (L := iL) (σ := iS) (k := 11) C hP0 va_S.rf hs kn_1 (Nat.le_of_ble_eq_true rfl) (Nat.le_of_ble_eq_true rfl) dl_0 (fun H1 p1 q1 => ?_)
  refine lv_dup hx hb dl_3 rfl ?_
  refine w_ini (R := room_1) (L := pL iL 11 0 (nf 11)) (σ := zS iS iL.2.2.1) (r := [vR 11 (some 0)]) (x := 0) (t := 11) C (Nat.le_of_ble_eq_true rfl) (Nat.le_of_ble_eq_true rfl) hs kj_i1 kl_i1 p1 q1 u3 u1 (Nat.le_of_ble_eq_true rfl) hl.1 (Nat.le_of_succ_le t7) t6 dl_4 (fun H2 l2 p2 q2 => ?_)
  refine lv_astore_n (lv' := [(1, .ref (G.1 + 0)), (0, .ref b)]) hx hb dl_7 rfl hl (by decide) rfl (fun ls hl => ?_)
  refine w_size (n := 0) (k := 0) hs p2 q2 (Nat.zero_le _) (fun hz => ?_)
  have hz : H2.size = G.1 + r.1.2.2.1 := hz
  refine w_new (L := r.1) (σ := r.2) (k := 12) C p2 q2 hz kn_2 t7 t5 dl_8 (fun H3 p3 q3 => ?_)
  rw [i2] at p3
  rw [i2]
  refine lv_dup hx hb dl_11 rfl ?_
  have K : W p l e room_1 s m #[Value.ref b] below meth c H3 l2 (pL r.1 12 0 (nf 12)).2.2.1 (pL r.1 12 0 (nf 12)).2.2.2 (lw_Z below #[Value.ref b] s) (F0 m (8 + 3 + 1) ls (.ref (G.1 + 37) :: [vR 12 (some 37)].map (cv G))) := by
    refine w_ini (R := room_1) (L := pL r.1 12 0 (nf 12)) (σ := zS r.2 37) (r := [vR 12 (some 37)]) (x := 37) (t := 12) C (Nat.le_of_ble_eq_true rfl) (Nat.le_of_ble_eq_true rfl) hs kj_i2 kl_i2 p3 q3 v3 v1 (Nat.le_of_ble_eq_true rfl) hl.1 t3 t4 dl_12 (fun H4 l4 p4 q4 => ?_)
    refine lv_astore_n (lv' := [(2, .ref (G.1 + 37)), (1, .ref (G.1 + 0)), (0, .ref b)]) hx hb dl_15 rfl hl (by decide) rfl (fun ls hl => ?_)
    refine lv_iconst (v := nI 0) hx hb dl_16 (by decide) ?_
    refine lv_istore_n (lv' := [(3, .int (nI 0)), (2, .ref (G.1 + 37)), (1, .ref (G.1 + 0)), (0, .ref b)]) hx hb dl_17 rfl hl (by decide) rfl (fun ls hl => ?_)
    exact w_loop C hs hX hbl hL 512 0 stL stS H4 l4 ls (by omega) (by omega) (by omega) st_IV v2 st_KD p4 q4 (lv_sub hl [3, 2, 1, 0] rfl) t1 t2
  have e1 : (pL r.1 12 0 (nf 12)).2.2.1 = 37 + 1 := n38
  have e2 : (pL r.1 12 0 (nf 12)).2.2.2 = r.1.2.2.2 + nf 12 := rfl
  rw [e1, e2] at K
  exact K
