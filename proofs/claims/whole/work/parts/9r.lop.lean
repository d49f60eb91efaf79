/-! THE CLAIM OUT OF ONE WALK OF THE LAW'S BODY. Your part is whole_start (and what it stands on); all else here is the same for every law, but numbers. -/
def R_law : String := "StrikeBallotsLaw"
def lw_P (b : Addr) (xs : List Int32) (args : Array Value) (s : State) : Prop := args = #[.ref b] ∧ s.IntsAt b xs ∧ xs.length ≤ 3072 ∧ (Jvm.Cond.and given_1 narrow_1).before args s = true
def lw_Q (_ : Array Value) (s : State) (o : Outcome) (t : State) : Prop := o = .returned (some (.int 1)) ∧ Framed s o t [] 600000 7302250
def lw_Z (below : List Frame) (a : Array Value) (s : State) : State → Prop := fun t => ∃ o, t.status = .running ∧ Ended t below o ∧ lw_Q a s o t
/-- the law's own end, with 1 on the stack, nothing written that was there before, its room as the claim has it -/
theorem lw_ret {p : Program} {l : Launch} {e : Env} {s : State} {m : MethodId} {below : List Frame} {meth : Method} {c : Code} {b : Nat} (hx : p.tables.exec = Jvm.exec) (hb : c.code = code) (hr : meth.sig.returnType = ret) (hlocks : meth.locks = false) {pc : Nat} {H : Heap} {ls : Array Slot} (hdg : decode code pc = .ok (.ireturn, 1)) : W p l e room_1 s m #[Value.ref b] below meth c H [] 600000 7302250 (lw_Z below #[Value.ref b] s) (F0 m pc ls [.int 1]) := by
  intro T hT X
  obtain ⟨fs, hret, hrun, hended, hW, hframe⟩ := X.leave (v := some (.int 1)) (hlocks := hlocks) (fun h => by rw [hr] at h; cases h)
  have hmeth' : T.vm.method? m = some meth := X.method'
  refine ⟨T.setFrames fs, ?_, .returned (some (.int 1)), hrun, hended, rfl, ⟨_, rfl⟩, hW, hframe⟩
  jvm_step X.here [X.here.top, hx, hb, hdg, hmeth', hr, ret, narrow_b1]
  (try refine ⟨rfl, ?_⟩); (try refine ⟨rfl, ?_⟩)
  first | (intro acts; rw [hret _ acts rfl rfl rfl]) | rw [hret _ _ rfl rfl rfl]
  exact Steps.refl _
/-- what holds at the law's entry: the machine, the code, the tables' words (any of lw_tbl by 'hts w (by decide +kernel)'), the script of L ints xs at the cell b, what the Statement gives of the start (any of its parts by flat_of_before) -/
def lw_At (p : Program) (s : State) (m : MethodId) (meth : Method) (c : Code) (b L : Nat) (xs : Nat → Int32) : Prop :=
  p.tables.exec = Jvm.exec ∧ c.code = code ∧ meth.sig.returnType = ret ∧ c.maxLocals = 4 ∧ s.vm.findClass R_law = some m.cls ∧ (∀ w ∈ lw_tbl, w.before #[Value.ref b] s = true) ∧ va_X b L xs s s.heap ∧ b < s.heap.size ∧ meth.locks = false ∧ (Jvm.Cond.and given_1 narrow_1).before #[Value.ref b] s = true
section
variable {G : GT} {p : Program} {l : Launch} {e : Env} {s : State} {m : MethodId} {below : List Frame} {meth : Method} {c : Code} {H : Heap} {locs : List Loc} {Q : State → Prop} {nm : String} {ls : Array Slot} {L : Lay} {σ : Sto} {b N i : Nat} {xs : Nat → Int32}
theorem and63 (x : Int32) : ∃ k, k < 64 ∧ x &&& 63 = nI k := by
  have h : (x &&& 63).toBitVec.toNat < 64 := by
    rw [Int32.toBitVec_and, BitVec.toNat_and]
    exact Nat.lt_of_le_of_lt Nat.and_le_right (by decide)
  obtain ⟨q, hq⟩ : ∃ q, q = (x &&& 63).toBitVec.toNat := ⟨_, rfl⟩
  rw [← hq] at h
  refine ⟨q, h, Int32.toBitVec_inj.mp (BitVec.eq_of_toNat_eq ?_)⟩
  rw [← hq]
  show q = (BitVec.ofNat 32 q).toNat
  rw [BitVec.toNat_ofNat, Nat.mod_eq_of_lt (by omega)]
theorem w_disp {k : Nat} (C : CX G p s m #[Value.ref b] meth c 13 nm code 4 ret) (hs : s.heap.size = G.1) (hX : va_X b N xs s s.heap) (hbl : b < s.heap.size) (hN : N ≤ 3072) (hIV : IV L σ) (hW : WT L σ) (hK : KD L) (hP : va_P G.2.1 vwCl (wof G L σ) H) (hS : va_S (fA G) s.heap H locs) (hl : LC G b i ls) (hr1 : L.2.2.1 + 4 ≤ 600000) (hr2 : L.2.2.2 + 128 ≤ 7302250) (hi : i + 6 ≤ N) (hk : k < 64) (kk : ∀ (L2 : Lay) (σ2 : Sto) (H2 : Heap) (locs2 : List Loc), IV L2 σ2 → WT L2 σ2 → KD L2 → L2.2.2.1 ≤ L.2.2.1 + 4 → L2.2.2.2 ≤ L.2.2.2 + 128 → va_P G.2.1 vwCl (wof G L2 σ2) H2 → va_S (fA G) s.heap H2 locs2 → W p l e room_1 s m #[Value.ref b] below meth c H2 locs2 L2.2.2.1 L2.2.2.2 Q (F0 m 1653 ls [])) : W p l e room_1 s m #[Value.ref b] below meth c H locs L.2.2.1 L.2.2.2 Q (F0 m 33 ls [.int (nI k)]) := by
  by_cases e0 : k = 0
  · subst e0
    exact lv_tableIn (off := 195) (tgt := 228) C.1 C.2.1 dl_33 (by decide) (by decide) (by decide +kernel) (by decide) (w_case (R := room_1) C (Nat.le_of_ble_eq_true rfl) (Nat.le_of_ble_eq_true rfl) hs hX hbl hN kc_branch (by omega) hK (oc_branch hIV hW hK (xs (i + 1))) hP hS hl hr1 hr2 kk)
  by_cases e1 : k = 1
  · subst e1
    exact lv_tableIn (off := 218) (tgt := 251) C.1 C.2.1 dl_33 (by decide) (by decide) (by decide +kernel) (by decide) (w_case (R := room_1) C (Nat.le_of_ble_eq_true rfl) (Nat.le_of_ble_eq_true rfl) hs hX hbl hN kc_isOf (by omega) hK (oc_isOf hIV hW hK (xs (i + 1)) (xs (i + 1 + 1))) hP hS hl hr1 hr2 kk)
  by_cases e2 : k = 2
  · subst e2
    exact lv_tableIn (off := 251) (tgt := 284) C.1 C.2.1 dl_33 (by decide) (by decide) (by decide +kernel) (by decide) (w_case (R := room_1) C (Nat.le_of_ble_eq_true rfl) (Nat.le_of_ble_eq_true rfl) hs hX hbl hN kc_member (by omega) hK (oc_member hIV hW hK (xs (i + 1)) (xs (i + 1 + 1)) (xs (i + 1 + 1 + 1)) (xs (i + 1 + 1 + 1 + 1))) hP hS hl hr1 hr2 kk)
  by_cases e3 : k = 3
  · subst e3
    exact lv_tableIn (off := 304) (tgt := 337) C.1 C.2.1 dl_33 (by decide) (by decide) (by decide +kernel) (by decide) (w_case (R := room_1) C (Nat.le_of_ble_eq_true rfl) (Nat.le_of_ble_eq_true rfl) hs hX hbl hN kc_move (by omega) hK (oc_move hIV hW hK (xs (i + 1)) (xs (i + 1 + 1))) hP hS hl hr1 hr2 kk)
  by_cases e4 : k = 4
  · subst e4
    exact lv_tableIn (off := 337) (tgt := 370) C.1 C.2.1 dl_33 (by decide) (by decide) (by decide +kernel) (by decide) (w_case (R := room_1) C (Nat.le_of_ble_eq_true rfl) (Nat.le_of_ble_eq_true rfl) hs hX hbl hN kc_leave (by omega) hK (oc_leave hIV hW hK (xs (i + 1))) hP hS hl hr1 hr2 kk)
  by_cases e5 : k = 5
  · subst e5
    exact lv_tableIn (off := 360) (tgt := 393) C.1 C.2.1 dl_33 (by decide) (by decide) (by decide +kernel) (by decide) (w_case (R := room_1) C (Nat.le_of_ble_eq_true rfl) (Nat.le_of_ble_eq_true rfl) hs hX hbl hN kc_of (by omega) hK (oc_of hIV hW hK (xs (i + 1)) (xs (i + 1 + 1))) hP hS hl hr1 hr2 kk)
  by_cases e6 : k = 6
  · subst e6
    exact lv_tableIn (off := 393) (tgt := 426) C.1 C.2.1 dl_33 (by decide) (by decide) (by decide +kernel) (by decide) (w_case (R := room_1) C (Nat.le_of_ble_eq_true rfl) (Nat.le_of_ble_eq_true rfl) hs hX hbl hN kc_told (by omega) hK (oc_told hIV hW hK (xs (i + 1)) (xs (i + 1 + 1))) hP hS hl hr1 hr2 kk)
  by_cases e7 : k = 7
  · subst e7
    exact lv_tableIn (off := 426) (tgt := 459) C.1 C.2.1 dl_33 (by decide) (by decide) (by decide +kernel) (by decide) (w_case (R := room_1) C (Nat.le_of_ble_eq_true rfl) (Nat.le_of_ble_eq_true rfl) hs hX hbl hN kc_line (by omega) hK (oc_line hIV hW hK (xs (i + 1)) (xs (i + 1 + 1))) hP hS hl hr1 hr2 kk)
  by_cases e8 : k = 8
  · subst e8
    exact lv_tableIn (off := 459) (tgt := 492) C.1 C.2.1 dl_33 (by decide) (by decide) (by decide +kernel) (by decide) (w_case (R := room_1) C (Nat.le_of_ble_eq_true rfl) (Nat.le_of_ble_eq_true rfl) hs hX hbl hN kc_roll (by omega) hK (oc_roll hIV hW hK (xs (i + 1)) (xs (i + 1 + 1))) hP hS hl hr1 hr2 kk)
  by_cases e9 : k = 9
  · subst e9
    exact lv_tableIn (off := 492) (tgt := 525) C.1 C.2.1 dl_33 (by decide) (by decide) (by decide +kernel) (by decide) (w_case (R := room_1) C (Nat.le_of_ble_eq_true rfl) (Nat.le_of_ble_eq_true rfl) hs hX hbl hN kc_wipe (by omega) hK (oc_wipe hIV hW hK) hP hS hl hr1 hr2 kk)
  by_cases e10 : k = 10
  · subst e10
    exact lv_tableIn (off := 505) (tgt := 538) C.1 C.2.1 dl_33 (by decide) (by decide) (by decide +kernel) (by decide) (w_case (R := room_1) C (Nat.le_of_ble_eq_true rfl) (Nat.le_of_ble_eq_true rfl) hs hX hbl hN kc_joined (by omega) hK (oc_joined hIV hW hK (xs (i + 1))) hP hS hl hr1 hr2 kk)
  by_cases e11 : k = 11
  · subst e11
    exact lv_tableIn (off := 528) (tgt := 561) C.1 C.2.1 dl_33 (by decide) (by decide) (by decide +kernel) (by decide) (w_case (R := room_1) C (Nat.le_of_ble_eq_true rfl) (Nat.le_of_ble_eq_true rfl) hs hX hbl hN kc_rolls (by omega) hK (oc_rolls hIV hW hK (xs (i + 1)) (xs (i + 1 + 1))) hP hS hl hr1 hr2 kk)
  by_cases e12 : k = 12
  · subst e12
    exact lv_tableIn (off := 561) (tgt := 594) C.1 C.2.1 dl_33 (by decide) (by decide) (by decide +kernel) (by decide) (w_case (R := room_1) C (Nat.le_of_ble_eq_true rfl) (Nat.le_of_ble_eq_true rfl) hs hX hbl hN kc_days (by omega) hK (oc_days hIV hW hK (xs (i + 1))) hP hS hl hr1 hr2 kk)
  by_cases e13 : k = 13
  · subst e13
    exact lv_tableIn (off := 584) (tgt := 617) C.1 C.2.1 dl_33 (by decide) (by decide) (by decide +kernel) (by decide) (w_case (R := room_1) C (Nat.le_of_ble_eq_true rfl) (Nat.le_of_ble_eq_true rfl) hs hX hbl hN kc_open (by omega) hK (oc_open hIV hW hK (xs (i + 1))) hP hS hl hr1 hr2 kk)
  by_cases e14 : k = 14
  · subst e14
    exact lv_tableIn (off := 607) (tgt := 640) C.1 C.2.1 dl_33 (by decide) (by decide) (by decide +kernel) (by decide) (w_case (R := room_1) C (Nat.le_of_ble_eq_true rfl) (Nat.le_of_ble_eq_true rfl) hs hX hbl hN kc_send (by omega) hK (oc_send hIV hW hK (xs (i + 1)) (xs (i + 1 + 1))) hP hS hl hr1 hr2 kk)
  by_cases e15 : k = 15
  · subst e15
    exact lv_tableIn (off := 640) (tgt := 673) C.1 C.2.1 dl_33 (by decide) (by decide) (by decide +kernel) (by decide) (w_case (R := room_1) C (Nat.le_of_ble_eq_true rfl) (Nat.le_of_ble_eq_true rfl) hs hX hbl hN kc_sendAll (by omega) hK (oc_sendAll hIV hW hK (xs (i + 1))) hP hS hl hr1 hr2 kk)
  by_cases e16 : k = 16
  · subst e16
    exact lv_tableIn (off := 663) (tgt := 696) C.1 C.2.1 dl_33 (by decide) (by decide) (by decide +kernel) (by decide) (w_case (R := room_1) C (Nat.le_of_ble_eq_true rfl) (Nat.le_of_ble_eq_true rfl) hs hX hbl hN kc_back (by omega) hK (oc_back hIV hW hK (xs (i + 1)) (xs (i + 1 + 1)) (xs (i + 1 + 1 + 1))) hP hS hl hr1 hr2 kk)
  by_cases e17 : k = 17
  · subst e17
    exact lv_tableIn (off := 706) (tgt := 739) C.1 C.2.1 dl_33 (by decide) (by decide) (by decide +kernel) (by decide) (w_case (R := room_1) C (Nat.le_of_ble_eq_true rfl) (Nat.le_of_ble_eq_true rfl) hs hX hbl hN kc_close (by omega) hK (oc_close hIV hW hK (xs (i + 1))) hP hS hl hr1 hr2 kk)
  by_cases e18 : k = 18
  · subst e18
    exact lv_tableIn (off := 729) (tgt := 762) C.1 C.2.1 dl_33 (by decide) (by decide) (by decide +kernel) (by decide) (w_case (R := room_1) C (Nat.le_of_ble_eq_true rfl) (Nat.le_of_ble_eq_true rfl) hs hX hbl hN kc_name (by omega) hK (oc_name hIV hW hK (xs (i + 1)) (xs (i + 1 + 1)) (xs (i + 1 + 1 + 1))) hP hS hl hr1 hr2 kk)
  by_cases e19 : k = 19
  · subst e19
    exact lv_tableIn (off := 772) (tgt := 805) C.1 C.2.1 dl_33 (by decide) (by decide) (by decide +kernel) (by decide) (w_case (R := room_1) C (Nat.le_of_ble_eq_true rfl) (Nat.le_of_ble_eq_true rfl) hs hX hbl hN kc_about (by omega) hK (oc_about hIV hW hK (xs (i + 1)) (xs (i + 1 + 1))) hP hS hl hr1 hr2 kk)
  by_cases e20 : k = 20
  · subst e20
    exact lv_tableIn (off := 805) (tgt := 838) C.1 C.2.1 dl_33 (by decide) (by decide) (by decide +kernel) (by decide) (w_case (R := room_1) C (Nat.le_of_ble_eq_true rfl) (Nat.le_of_ble_eq_true rfl) hs hX hbl hN kc_parcels (by omega) hK (oc_parcels hIV hW hK (xs (i + 1))) hP hS hl hr1 hr2 kk)
  by_cases e21 : k = 21
  · subst e21
    exact lv_tableIn (off := 828) (tgt := 861) C.1 C.2.1 dl_33 (by decide) (by decide) (by decide +kernel) (by decide) (w_case (R := room_1) C (Nat.le_of_ble_eq_true rfl) (Nat.le_of_ble_eq_true rfl) hs hX hbl hN kc_parcel (by omega) hK (oc_parcel hIV hW hK (xs (i + 1)) (xs (i + 1 + 1)) (xs (i + 1 + 1 + 1))) hP hS hl hr1 hr2 kk)
  by_cases e22 : k = 22
  · subst e22
    exact lv_tableIn (off := 871) (tgt := 904) C.1 C.2.1 dl_33 (by decide) (by decide) (by decide +kernel) (by decide) (w_case (R := room_1) C (Nat.le_of_ble_eq_true rfl) (Nat.le_of_ble_eq_true rfl) hs hX hbl hN kc_feed (by omega) hK (oc_feed hIV hW hK (xs (i + 1)) (xs (i + 1 + 1)) (xs (i + 1 + 1 + 1))) hP hS hl hr1 hr2 kk)
  by_cases e23 : k = 23
  · subst e23
    exact lv_tableIn (off := 914) (tgt := 947) C.1 C.2.1 dl_33 (by decide) (by decide) (by decide +kernel) (by decide) (w_case (R := room_1) C (Nat.le_of_ble_eq_true rfl) (Nat.le_of_ble_eq_true rfl) hs hX hbl hN kc_trim (by omega) hK (oc_trim hIV hW hK (xs (i + 1))) hP hS hl hr1 hr2 kk)
  by_cases e24 : k = 24
  · subst e24
    exact lv_tableIn (off := 937) (tgt := 970) C.1 C.2.1 dl_33 (by decide) (by decide) (by decide +kernel) (by decide) (w_case (R := room_1) C (Nat.le_of_ble_eq_true rfl) (Nat.le_of_ble_eq_true rfl) hs hX hbl hN kc_law (by omega) hK (oc_law hIV hW hK) hP hS hl hr1 hr2 kk)
  by_cases e25 : k = 25
  · subst e25
    exact lv_tableIn (off := 950) (tgt := 983) C.1 C.2.1 dl_33 (by decide) (by decide) (by decide +kernel) (by decide) (w_case (R := room_1) C (Nat.le_of_ble_eq_true rfl) (Nat.le_of_ble_eq_true rfl) hs hX hbl hN kc_says (by omega) hK (oc_says hIV hW hK (xs (i + 1)) (xs (i + 1 + 1)) (xs (i + 1 + 1 + 1))) hP hS hl hr1 hr2 kk)
  by_cases e26 : k = 26
  · subst e26
    exact lv_tableIn (off := 993) (tgt := 1026) C.1 C.2.1 dl_33 (by decide) (by decide) (by decide +kernel) (by decide) (w_case (R := room_1) C (Nat.le_of_ble_eq_true rfl) (Nat.le_of_ble_eq_true rfl) hs hX hbl hN kc_stands (by omega) hK (oc_stands hIV hW hK (xs (i + 1)) (xs (i + 1 + 1))) hP hS hl hr1 hr2 kk)
  by_cases e27 : k = 27
  · subst e27
    exact lv_tableIn (off := 1026) (tgt := 1059) C.1 C.2.1 dl_33 (by decide) (by decide) (by decide +kernel) (by decide) (w_case (R := room_1) C (Nat.le_of_ble_eq_true rfl) (Nat.le_of_ble_eq_true rfl) hs hX hbl hN kc_lives (by omega) hK (oc_lives hIV hW hK (xs (i + 1)) (xs (i + 1 + 1))) hP hS hl hr1 hr2 kk)
  by_cases e28 : k = 28
  · subst e28
    exact lv_tableIn (off := 1059) (tgt := 1092) C.1 C.2.1 dl_33 (by decide) (by decide) (by decide +kernel) (by decide) (w_case (R := room_1) C (Nat.le_of_ble_eq_true rfl) (Nat.le_of_ble_eq_true rfl) hs hX hbl hN kc_cure (by omega) hK (oc_cure hIV hW hK (xs (i + 1))) hP hS hl hr1 hr2 kk)
  by_cases e29 : k = 29
  · subst e29
    exact lv_tableIn (off := 1082) (tgt := 1115) C.1 C.2.1 dl_33 (by decide) (by decide) (by decide +kernel) (by decide) (w_case (R := room_1) C (Nat.le_of_ble_eq_true rfl) (Nat.le_of_ble_eq_true rfl) hs hX hbl hN kc_notice (by omega) hK (oc_notice hIV hW hK (xs (i + 1)) (xs (i + 1 + 1)) (xs (i + 1 + 1 + 1)) (xs (i + 1 + 1 + 1 + 1))) hP hS hl hr1 hr2 kk)
  by_cases e30 : k = 30
  · subst e30
    exact lv_tableIn (off := 1135) (tgt := 1168) C.1 C.2.1 dl_33 (by decide) (by decide) (by decide +kernel) (by decide) (w_case (R := room_1) C (Nat.le_of_ble_eq_true rfl) (Nat.le_of_ble_eq_true rfl) hs hX hbl hN kc_noticed (by omega) hK (oc_noticed hIV hW hK (xs (i + 1)) (xs (i + 1 + 1))) hP hS hl hr1 hr2 kk)
  by_cases e31 : k = 31
  · subst e31
    exact lv_tableIn (off := 1168) (tgt := 1201) C.1 C.2.1 dl_33 (by decide) (by decide) (by decide +kernel) (by decide) (w_case (R := room_1) C (Nat.le_of_ble_eq_true rfl) (Nat.le_of_ble_eq_true rfl) hs hX hbl hN kc_holds (by omega) hK (oc_holds hIV hW hK (xs (i + 1))) hP hS hl hr1 hr2 kk)
  by_cases e32 : k = 32
  · subst e32
    exact lv_tableIn (off := 1191) (tgt := 1224) C.1 C.2.1 dl_33 (by decide) (by decide) (by decide +kernel) (by decide) (w_case (R := room_1) C (Nat.le_of_ble_eq_true rfl) (Nat.le_of_ble_eq_true rfl) hs hX hbl hN kc_harm (by omega) hK (oc_harm hIV hW hK (xs (i + 1)) (xs (i + 1 + 1))) hP hS hl hr1 hr2 kk)
  by_cases e33 : k = 33
  · subst e33
    exact lv_tableIn (off := 1224) (tgt := 1257) C.1 C.2.1 dl_33 (by decide) (by decide) (by decide +kernel) (by decide) (w_case (R := room_1) C (Nat.le_of_ble_eq_true rfl) (Nat.le_of_ble_eq_true rfl) hs hX hbl hN kc_lay (by omega) hK (oc_lay hIV hW hK (xs (i + 1))) hP hS hl hr1 hr2 kk)
  by_cases e34 : k = 34
  · subst e34
    exact lv_tableIn (off := 1247) (tgt := 1280) C.1 C.2.1 dl_33 (by decide) (by decide) (by decide +kernel) (by decide) (w_case (R := room_1) C (Nat.le_of_ble_eq_true rfl) (Nat.le_of_ble_eq_true rfl) hs hX hbl hN kc_rule (by omega) hK (oc_rule hIV hW hK (xs (i + 1)) (xs (i + 1 + 1))) hP hS hl hr1 hr2 kk)
  by_cases e35 : k = 35
  · subst e35
    exact lv_tableIn (off := 1280) (tgt := 1313) C.1 C.2.1 dl_33 (by decide) (by decide) (by decide +kernel) (by decide) (w_case (R := room_1) C (Nat.le_of_ble_eq_true rfl) (Nat.le_of_ble_eq_true rfl) hs hX hbl hN kc_plan (by omega) hK (oc_plan hIV hW hK (xs (i + 1)) (xs (i + 1 + 1))) hP hS hl hr1 hr2 kk)
  by_cases e36 : k = 36
  · subst e36
    exact lv_tableIn (off := 1313) (tgt := 1346) C.1 C.2.1 dl_33 (by decide) (by decide) (by decide +kernel) (by decide) (w_case (R := room_1) C (Nat.le_of_ble_eq_true rfl) (Nat.le_of_ble_eq_true rfl) hs hX hbl hN kc_planned (by omega) hK (oc_planned hIV hW hK (xs (i + 1)) (xs (i + 1 + 1))) hP hS hl hr1 hr2 kk)
  by_cases e37 : k = 37
  · subst e37
    exact lv_tableIn (off := 1346) (tgt := 1379) C.1 C.2.1 dl_33 (by decide) (by decide) (by decide +kernel) (by decide) (w_case (R := room_1) C (Nat.le_of_ble_eq_true rfl) (Nat.le_of_ble_eq_true rfl) hs hX hbl hN kc_cost (by omega) hK (oc_cost hIV hW hK (xs (i + 1))) hP hS hl hr1 hr2 kk)
  by_cases e38 : k = 38
  · subst e38
    exact lv_tableIn (off := 1369) (tgt := 1402) C.1 C.2.1 dl_33 (by decide) (by decide) (by decide +kernel) (by decide) (w_case (R := room_1) C (Nat.le_of_ble_eq_true rfl) (Nat.le_of_ble_eq_true rfl) hs hX hbl hN kc_tell (by omega) hK (oc_tell hIV hW hK (xs (i + 1))) hP hS hl hr1 hr2 kk)
  by_cases e39 : k = 39
  · subst e39
    exact lv_tableIn (off := 1392) (tgt := 1425) C.1 C.2.1 dl_33 (by decide) (by decide) (by decide +kernel) (by decide) (w_case (R := room_1) C (Nat.le_of_ble_eq_true rfl) (Nat.le_of_ble_eq_true rfl) hs hX hbl hN kc_check (by omega) hK (oc_check hIV hW hK (xs (i + 1)) (xs (i + 1 + 1))) hP hS hl hr1 hr2 kk)
  by_cases e40 : k = 40
  · subst e40
    exact lv_tableIn (off := 1425) (tgt := 1458) C.1 C.2.1 dl_33 (by decide) (by decide) (by decide +kernel) (by decide) (w_case (R := room_1) C (Nat.le_of_ble_eq_true rfl) (Nat.le_of_ble_eq_true rfl) hs hX hbl hN kc_docked (by omega) hK (oc_docked hIV hW hK (xs (i + 1)) (xs (i + 1 + 1))) hP hS hl hr1 hr2 kk)
  by_cases e41 : k = 41
  · subst e41
    exact lv_tableIn (off := 1458) (tgt := 1491) C.1 C.2.1 dl_33 (by decide) (by decide) (by decide +kernel) (by decide) (w_case (R := room_1) C (Nat.le_of_ble_eq_true rfl) (Nat.le_of_ble_eq_true rfl) hs hX hbl hN kc_sheet (by omega) hK (oc_sheet hIV hW hK (xs (i + 1)) (xs (i + 1 + 1))) hP hS hl hr1 hr2 kk)
  by_cases e42 : k = 42
  · subst e42
    exact lv_tableIn (off := 1491) (tgt := 1524) C.1 C.2.1 dl_33 (by decide) (by decide) (by decide +kernel) (by decide) (w_case (R := room_1) C (Nat.le_of_ble_eq_true rfl) (Nat.le_of_ble_eq_true rfl) hs hX hbl hN kc_mark (by omega) hK (oc_mark hIV hW hK (xs (i + 1)) (xs (i + 1 + 1)) (xs (i + 1 + 1 + 1))) hP hS hl hr1 hr2 kk)
  by_cases e43 : k = 43
  · subst e43
    exact lv_tableIn (off := 1534) (tgt := 1567) C.1 C.2.1 dl_33 (by decide) (by decide) (by decide +kernel) (by decide) (w_case (R := room_1) C (Nat.le_of_ble_eq_true rfl) (Nat.le_of_ble_eq_true rfl) hs hX hbl hN kc_copy (by omega) hK (oc_copy hIV hW hK (xs (i + 1)) (xs (i + 1 + 1)) (xs (i + 1 + 1 + 1)) (xs (i + 1 + 1 + 1 + 1)) (xs (i + 1 + 1 + 1 + 1 + 1))) hP hS hl hr1 hr2 kk)
  by_cases e44 : k = 44
  · subst e44
    exact lv_tableIn (off := 1597) (tgt := 1630) C.1 C.2.1 dl_33 (by decide) (by decide) (by decide +kernel) (by decide) (w_case (R := room_1) C (Nat.le_of_ble_eq_true rfl) (Nat.le_of_ble_eq_true rfl) hs hX hbl hN kc_count (by omega) hK (oc_count hIV hW hK (xs (i + 1))) hP hS hl hr1 hr2 kk)
  have h44 : (44 : Int) < (nI k).toInt := by
    rw [nI_toInt (by omega)]
    omega
  exact lv_tableOut (tgt := 1653) C.1 C.2.1 dl_33 (Or.inr h44) (by decide) (kk L σ H locs hIV hW hK (by omega) (by omega) hP hS)
theorem w_iter (C : CX G p s m #[Value.ref b] meth c 13 nm code 4 ret) (hs : s.heap.size = G.1) (hX : va_X b N xs s s.heap) (hbl : b < s.heap.size) (hN : N ≤ 3072) (hIV : IV L σ) (hW : WT L σ) (hK : KD L) (hP : va_P G.2.1 vwCl (wof G L σ) H) (hS : va_S (fA G) s.heap H locs) (hl : LC G b i ls) (hr1 : L.2.2.1 + 4 ≤ 600000) (hr2 : L.2.2.2 + 128 ≤ 7302250) (hi : i ≤ 6000) (kk : i + 6 ≤ N → ∀ (L2 : Lay) (σ2 : Sto) (H2 : Heap) (locs2 : List Loc) (ls2 : Array Slot), IV L2 σ2 → WT L2 σ2 → KD L2 → L2.2.2.1 ≤ L.2.2.1 + 4 → L2.2.2.2 ≤ L.2.2.2 + 128 → va_P G.2.1 vwCl (wof G L2 σ2) H2 → va_S (fA G) s.heap H2 locs2 → LC G b (i + 6) ls2 → W p l e room_1 s m #[Value.ref b] below meth c H2 locs2 L2.2.2.1 L2.2.2.2 (lw_Z below #[Value.ref b] s) (F0 m 18 ls2 [])) : W p l e room_1 s m #[Value.ref b] below meth c H locs L.2.2.1 L.2.2.2 (lw_Z below #[Value.ref b] s) (F0 m 18 ls []) := by
  have hx := C.1
  have hb := C.2.1
  have hbA : ¬ fA G b := fun u => by
    have u : G.1 ≤ b := u
    omega
  refine lv_iload_n hx hb dl_18 rfl (lv_at hl 3 rfl) ?_
  refine lv_aload_n hx hb dl_19 rfl (lv_at hl 0 rfl) ?_
  refine va_slen hx hb hX hbl hbA hS dl_20 ?_
  refine lv_bipush (v := nI 6) hx hb dl_21 (by decide) ?_
  refine lv_isub hx hb dl_23 ?_
  refine lv_icmp_gt (tgt := 1659) hx hb dl_24 (by decide) (fun _ => ?_) (fun u => ?_)
  · refine lv_iconst (v := 1) hx hb dl_1659 (by decide) ?_
    refine va_forget (fun q hq => ?_) ?_
    · rw [hs]
      exact hS.2.2 q hq
    · refine W.widen (k := 600000) (n := 7302250) (by omega) (by omega) ?_
      exact lw_ret hx hb C.2.2.2.2.2.1 C.2.2.2.2.2.2.1 dl_1660
  · have h6 : i + 6 ≤ N := by
      have u : ¬ (nI N - nI 6) < nI i := u
      rw [Int32.lt_iff_toInt_lt, pk_sub_toInt (by omega) (by omega), nI_toInt (by omega)] at u
      omega
    have e1 : (nI i).toNatClampNeg = i := nI_clamp (by omega)
    refine lv_aload_n hx hb dl_27 rfl (lv_at hl 0 rfl) ?_
    refine lv_iload_n hx hb dl_28 rfl (lv_at hl 3 rfl) ?_
    refine va_sld hx hb hX hbl hbA hS (fun v => ?_) dl_29 ?_
    · rcases v with v | v
      · exact nI_pos (by omega) v
      · rw [e1] at v
        omega
    refine lv_bipush (v := 63) hx hb dl_30 (by decide) ?_
    refine lv_iand hx hb dl_32 ?_
    obtain ⟨k, hk, ek⟩ := and63 (xs (nI i).toNatClampNeg)
    rw [ek]
    refine w_disp C hs hX hbl hN hIV hW hK hP hS hl hr1 hr2 h6 hk (fun L2 σ2 H2 locs2 a1 a2 a3 a4 a5 a6 a7 => ?_)
    refine lv_iinc (v := nI (i + 6)) (lv' := [(3, .int (nI (i + 6))), (0, .ref b), (1, .ref (G.1 + 0)), (2, .ref (G.1 + 37))]) hx hb dl_1653 hl (k := 3) rfl (nI_add i 6) (by decide) rfl (fun ls2 hl2 => ?_)
    refine lv_goto (tgt := 18) hx hb dl_1656 (by decide) ?_
    exact kk h6 L2 σ2 H2 locs2 ls2 a1 a2 a3 a4 a5 a6 a7 (lv_sub hl2 [1, 2, 3, 0] rfl)
theorem w_loop (C : CX G p s m #[Value.ref b] meth c 13 nm code 4 ret) (hs : s.heap.size = G.1) (hX : va_X b N xs s s.heap) (hbl : b < s.heap.size) (hN : N ≤ 3072) : ∀ (f i : Nat) (L : Lay) (σ : Sto) (H : Heap) (locs : List Loc) (ls : Array Slot), N < i + 6 + 6 * f → i ≤ 6000 → i + 6 * f ≤ 6000 → IV L σ → WT L σ → KD L → va_P G.2.1 vwCl (wof G L σ) H → va_S (fA G) s.heap H locs → LC G b i ls → L.2.2.1 + 4 + 4 * f ≤ 600000 → L.2.2.2 + 128 + 128 * f ≤ 7302250 → W p l e room_1 s m #[Value.ref b] below meth c H locs L.2.2.1 L.2.2.2 (lw_Z below #[Value.ref b] s) (F0 m 18 ls []) := by
  intro f
  induction f with
  | zero =>
    intro i L σ H locs ls h1 h2 h3 hIV hW hK hP hS hl hr1 hr2
    exact w_iter C hs hX hbl hN hIV hW hK hP hS hl (by omega) (by omega) h2 (fun h6 => by omega)
  | succ f ih =>
    intro i L σ H locs ls h1 h2 h3 hIV hW hK hP hS hl hr1 hr2
    exact w_iter C hs hX hbl hN hIV hW hK hP hS hl (by omega) (by omega) h2 (fun h6 L2 σ2 H2 locs2 ls2 a1 a2 a3 a4 a5 a6 a7 a8 => ih (i + 6) L2 σ2 H2 locs2 ls2 (by omega) (by omega) (by omega) a1 a2 a3 a6 a7 a8 (by omega) (by omega))
end
