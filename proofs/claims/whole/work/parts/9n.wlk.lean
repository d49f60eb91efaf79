/-! The law's walk: calls, loads, one case -/
section
variable {G : GT} {p : Program} {l : Launch} {e : Env} {R : Room} {s : State} {m : MethodId} {args : Array Value} {below : List Frame} {meth : Method} {c : Code} {H : Heap} {locs : List Loc} {cells slots mc ms : Nat} {Q : State → Prop}
variable {on : Nat} {nm : String} {cd : ByteArray} {nL : Nat} {ret : Option FieldType} {pc i : Nat} {ls : Array Slot} {rest st0 : List Value} {L : Lay} {σ σ' : Sto} {x : Nat} {q : RES} {a : Array Value}
theorem w_callR {j n z : Nat} {as : List AV} {r : List AV} {k : Nat} {ins : Instr} (C : CX G p s m args meth c on nm cd nL ret) {d' : Nat} (hRf : d' + 1 ≤ R.frames) (hRl : 28 + 60 * d' ≤ R.locals) (hj : j - 2 < 280) (hf : (on, i, j, n, z) ∈ lkM) (hP : va_P G.2.1 vwCl (wof G L σ) H) (hS : va_S (fA G) s.heap H locs) (hz : H.size = G.1 + L.2.2.1)
    (hkind : (k = 1 ∧ ins = .invokestatic i ∧ (md j).2.2.2.2.2.1 = as.length) ∨ (k = 0 ∧ ins = .invokevirtual i ∧ (md j).2.2.2.2.2.1 + 1 = as.length ∧ ∃ (o : Nat) (as' : List AV) (cell : Cell), as.map (cv G) = .ref o :: as'.map (cv G) ∧ as.length = as'.length + 1 ∧ H[o]? = some cell ∧ cell.vm.isStatics = false ∧ s.vm.findClass (md j).1.cls = some cell.cls) ∨ (k = 2 ∧ ins = .invokespecial i ∧ (md j).2.2.2.2.2.1 + 1 = as.length ∧ ∃ (o : Nat) (as' : List AV), as.map (cv G) = .ref o :: as'.map (cv G) ∧ as.length = as'.length + 1)) (hk : (md j).2.2.2.2.2.2 = k)
    (hM : Con G l j d' L σ as q) (hcat : catl r ≤ 8) (hls : ls.size = nL) (hmc : mc = q.2.1.2.2.1 - L.2.2.1) (hms : ms = q.2.1.2.2.2 - L.2.2.2) (hroom : cells + mc ≤ R.cells ∧ slots + ms ≤ R.slots) (hdg : decode cd pc = .ok (ins, 3))
    (kk : ∀ (H1 : Heap) (locs1 : List Loc), va_P G.2.1 vwCl (wof G q.2.1 q.2.2) H1 → va_S (fA G) s.heap H1 locs1 → W p l e R s m args below meth c H1 locs1 (cells + mc) (slots + ms) Q (F0 m (pc + 3) ls ((psh q.1 r).map (cv G)))) : W p l e R s m args below meth c H locs cells slots Q (F0 m pc ls ((as.reverse ++ r).map (cv G))) := by
  obtain ⟨hx1, hb, hml, hown, hts, hr, hlk, hnm, hK, hB⟩ := C
  obtain ⟨m1, m2, m3, m4, m5, m6, m7, m8, m9, m10⟩ := md_facts hj
  have hl := List.all_eq_true.mp lkM_ok _ hf
  simp only [ckM] at hl
  have hpre : ∀ U : State, U.heap = H → s.WarmedH U.vm → va_Pc (as.map (cv G)) (Pcon G L σ) (as.map (cv G)).toArray U := fun U hU hW => ⟨rfl, by rw [hU]; exact hz, by rw [hU]; exact hP, by rw [hU]; exact KK.warm hW hS.2.1 hK⟩
  have hws : ∀ w ∈ (Cond.code (md j).1 (md j).2.1 (md j).2.2.1 (md j).2.2.2.1 :: tw), ∀ (a' : Array Value) (U : State), s.WarmedH U.vm → w.before a' U = true := pay_in hts (tw_good (fun w hw => by
    rcases List.mem_cons.mp hw with rfl | hw
    · exact m1
    · exact hw))
  have hlen : ∀ n, (md j).2.2.2.2.2.1 = n → ∀ sig, parseMethodDescriptor (md j).1.desc = some sig → n = sig.parameters.length := fun n hn sig hs => by
    rw [hs] at m5
    rw [← hn]
    exact (Option.some.inj m5).symm
  have hfr : (rmd d' L q.2.1).frames + 1 ≤ R.frames := hRf
  have hlo : 8 + ((md j).2.2.1 + 11) + (rmd d' L q.2.1).locals ≤ R.locals := by
    show 8 + ((md j).2.2.1 + 11) + 60 * d' ≤ R.locals
    omega
  have hrm : 2 * (F0 m pc ls ((as.reverse ++ r).map (cv G))).monitorRoom + ((r.map (cv G)).map fun v => v.category).sum ≤ 8 := lv_room (by rw [catl_sum]; exact hcat)
  have hS1 : CallFix p m c cd nL s args tw (cnm on) := ⟨hx1, hb, hml, hown, hts⟩
  have hcode : Cond.code (md j).1 (md j).2.1 (md j).2.2.1 (md j).2.2.2.1 ∈ (Cond.code (md j).1 (md j).2.1 (md j).2.2.1 (md j).2.2.2.1 :: tw) := List.mem_cons_self
  have key : va_Run p l e R s m args below meth c H locs cells slots (q.2.1.2.2.1 - L.2.2.1) (q.2.1.2.2.2 - L.2.2.2) (F0 m pc ls ((as.reverse ++ r).map (cv G))) (r.map (cv G)) (Qcon G q (as.map (cv G)).toArray) (fA G) := by
    subst hmc
    subst hms
    rcases hkind with ⟨rfl, rfl, hn⟩ | ⟨rfl, rfl, hn, o, as', cell, ho, hlen2, hc1, hc2, hc3⟩ | ⟨rfl, rfl, hn, o, as', ho, hlen2⟩
    · by_cases hnn : Nat.beq n 0 = true
      · rw [hnn] at hl
        exact va_runS (As := as.map (cv G)) hS1 hM ⟨⟨rfl, rfl, hfr, hlo, hws, hcode, hts _ m1, hts _ m2, m4, hlen _ hn, hts _ (gAt_mem hl)⟩, hts _ (m7 hk)⟩ ⟨blind _ _ _ _, hpre⟩ rfl (by simp) hls (by simp) hrm hdg hroom
      · rw [Bool.not_eq_true] at hnn
        rw [hnn] at hl
        exact va_runSN (As := as.map (cv G)) hS1 hM ⟨⟨⟨rfl, rfl, hfr, hlo, hws, hcode⟩, hts _ m1, hts _ m2, m4, hlen _ hn, va_Nw.use rfl (hK.2.1 _ (nAt_mem hl))⟩, hts _ (m7 hk), trivial⟩ ⟨blind _ _ _ _, hpre⟩ rfl (by simp) hls (by simp) hrm hdg hroom
    · unfold Con at hM
      rw [ho] at hpre hM ⊢
      have hst : (F0 m pc ls ((as.reverse ++ r).map (cv G))).stack = (as'.map (cv G)).reverse ++ .ref o :: r.map (cv G) := by
        show (as.reverse ++ r).map (cv G) = _
        rw [List.map_append, List.map_reverse, ho]
        simp
      by_cases hnn : Nat.beq n 0 = true
      · rw [hnn] at hl
        exact va_runV (C := (md j).1.cls) (As := as'.map (cv G)) hS1 hM ⟨⟨rfl, rfl, hfr, hlo, hws, hcode, hts _ m1, hts _ m2, m4, hlen _ (by omega), hts _ (gAt_mem hl)⟩, hts _ (m8 (by omega)), hts _ (m9 hk)⟩ ⟨blind _ _ _ _, ⟨cell, hc1, hc2, hc3⟩, hpre⟩ rfl (show _ = as'.length by simp) hls hst hrm hdg hroom
      · rw [Bool.not_eq_true] at hnn
        rw [hnn] at hl
        exact va_runVN (C := (md j).1.cls) (As := as'.map (cv G)) hS1 hM ⟨⟨⟨rfl, rfl, hfr, hlo, hws, hcode⟩, hts _ m1, hts _ m2, m4, hlen _ (by omega), va_Nw.use rfl (hK.2.1 _ (nAt_mem hl))⟩, hts _ (m8 (by omega)), hts _ (m9 hk)⟩ ⟨blind _ _ _ _, ⟨cell, hc1, hc2, hc3⟩, hpre⟩ rfl (show _ = as'.length by simp) hls hst hrm hdg hroom
    · unfold Con at hM
      rw [ho] at hpre hM ⊢
      obtain ⟨hi1, hi2⟩ := m10 hk
      have hst : (F0 m pc ls ((as.reverse ++ r).map (cv G))).stack = (as'.map (cv G)).reverse ++ .ref o :: r.map (cv G) := by
        show (as.reverse ++ r).map (cv G) = _
        rw [List.map_append, List.map_reverse, ho]
        simp
      rw [hi2] at hM hws hcode m1
      by_cases hnn : Nat.beq n 0 = true
      · rw [hnn] at hl
        exact va_runI (As := as'.map (cv G)) hS1 hM ⟨⟨rfl, rfl, hfr, hlo, hws, hcode, hts _ m1, hts _ m2, m4, hlen _ (by omega), hts _ (gAt_mem hl)⟩, hi1, hts _ (m8 (by omega))⟩ ⟨blind _ _ _ _, hpre⟩ rfl (show _ = as'.length by simp) hls hst hrm hdg hroom
      · rw [Bool.not_eq_true] at hnn
        rw [hnn] at hl
        exact va_runIN (As := as'.map (cv G)) hS1 hM ⟨⟨⟨rfl, rfl, hfr, hlo, hws, hcode⟩, hts _ m1, hts _ m2, m4, hlen _ (by omega), va_Nw.use rfl (hK.2.1 _ (nAt_mem hl))⟩, hi1, hts _ (m8 (by omega))⟩ ⟨blind _ _ _ _, hpre⟩ rfl (show _ = as'.length by simp) hls hst hrm hdg hroom
  subst hmc
  subst hms
  refine w_run key hS (fun H1 l1 a b => ?_)
  have := kk H1 l1 a b
  rw [psh_map] at this
  exact this
end
/-- the ints of the script from a on -/
def ars (xs : Nat → Int32) : Nat → Nat → List Int32
  | 0, _ => []
  | k + 1, a => xs a :: ars xs k (a + 1)
theorem ars_len (xs : Nat → Int32) : ∀ k a, (ars xs k a).length = k
  | 0, _ => rfl
  | k + 1, a => congrArg (· + 1) (ars_len xs k (a + 1))
def ckd (pc : Nat) (ins : Instr) (n : Nat) : Bool := decide (decode code pc = .ok (ins, n))
theorem ckd_ok {pc n : Nat} {ins : Instr} (h : ckd pc ins n = true) : decode code pc = .ok (ins, n) := of_decide_eq_true h
def ckl : Nat → Nat → Nat → Bool
  | 0, _, _ => true
  | k + 1, P, j => (ckd P (.aload_n 0) 1 && ckd (P + 1) (.iload_n 3) 1 && ckd (P + 2) (.iconst (Int.ofNat j)) 1 && ckd (P + 3) .iadd 1 && ckd (P + 4) .iaload 1) && ckl k (P + 5) (j + 1)
def ckc (P n iX iM : Nat) : Bool := (ckd P (.aload_n 1) 1 && ckl n (P + 1) 1 && ckd (P + 1 + 5 * n) (.invokevirtual iX) 3) && (ckd (P + 1 + 5 * n + 3) (.aload_n 2) 1 && ckl n (P + 1 + 5 * n + 3 + 1) 1 && ckd (P + 1 + 5 * n + 3 + 1 + 5 * n) (.invokevirtual iM) 3 && ckd (P + 1 + 5 * n + 3 + 1 + 5 * n + 3) (.if_icmp .eq (1653 - Int.ofNat (P + 1 + 5 * n + 3 + 1 + 5 * n + 3))) 3)
def ckj (j n t : Nat) : Bool := Nat.blt (j - 2) 280 && Nat.beq (md j).2.2.2.2.2.1 n && Nat.beq (md j).2.2.2.2.2.2 0 && decide ((md j).1.cls = (cK t).1)
def lkH (o i j n z : Nat) : Bool := lkM.any (fun q => Nat.beq q.1 o && Nat.beq q.2.1 i && Nat.beq q.2.2.1 j && Nat.beq q.2.2.2.1 n && Nat.beq q.2.2.2.2 z)
theorem lkH_ok {o i j n z : Nat} (h : lkH o i j n z = true) : (o, i, j, n, z) ∈ lkM := by
  obtain ⟨q, hq, hh⟩ := List.any_eq_true.mp h
  simp only [Bool.and_eq_true] at hh
  obtain ⟨⟨⟨⟨h1, h2⟩, h3⟩, h4⟩, h5⟩ := hh
  obtain ⟨q1, q2, q3, q4, q5⟩ := q
  rw [← Nat.eq_of_beq_eq_true h1, ← Nat.eq_of_beq_eq_true h2, ← Nat.eq_of_beq_eq_true h3, ← Nat.eq_of_beq_eq_true h4, ← Nat.eq_of_beq_eq_true h5]
  exact hq
def ckop (P n iX iM j1 j2 z1 z2 : Nat) : Bool := ckc P n iX iM && (ckj j1 n 11 && ckj j2 n 12 && lkH 13 iX j1 0 z1 && lkH 13 iM j2 0 z2)
section
variable {G : GT} {p : Program} {l : Launch} {e : Env} {R : Room} {s : State} {m : MethodId} {args : Array Value} {below : List Frame} {meth : Method} {c : Code} {H : Heap} {locs : List Loc} {cells slots : Nat} {Q : State → Prop}
variable {nm : String} {ret : Option FieldType} {ls : Array Slot} {L : Lay} {σ : Sto} {b N i : Nat} {xs : Nat → Int32}
def LC (G : GT) (b i : Nat) (ls : Array Slot) : Prop := lv_has ls 4 [(0, .ref b), (1, .ref (G.1 + 0)), (2, .ref (G.1 + 37)), (3, .int (nI i))]
theorem w_lds (hx : p.tables.exec = Jvm.exec) (hb : c.code = code) (hX : va_X b N xs s s.heap) (hbl : b < s.heap.size) (hbA : ¬ fA G b) (hS : va_S (fA G) s.heap H locs) (hl : LC G b i ls) (hN : N ≤ 3072) (k : Nat) : ∀ (P j : Nat) (rest : List Value), i + j + k ≤ N → ckl k P j = true → W p l e R s m args below meth c H locs cells slots Q (F0 m (P + 5 * k) ls (((ars xs k (i + j)).map Value.int).reverse ++ rest)) → W p l e R s m args below meth c H locs cells slots Q (F0 m P ls rest) := by
  induction k with
  | zero =>
    intro P j rest _ _ kk
    rw [Nat.mul_zero, Nat.add_zero] at kk
    exact kk
  | succ k ih =>
    intro P j rest hk hd kk
    have hd : ((ckd P (.aload_n 0) 1 && ckd (P + 1) (.iload_n 3) 1 && ckd (P + 2) (.iconst (Int.ofNat j)) 1 && ckd (P + 3) .iadd 1 && ckd (P + 4) .iaload 1) && ckl k (P + 5) (j + 1)) = true := hd
    simp only [Bool.and_eq_true] at hd
    obtain ⟨⟨⟨⟨⟨d0, d1⟩, d2⟩, d3⟩, d4⟩, d5⟩ := hd
    refine lv_aload_n hx hb (ckd_ok d0) rfl (lv_at hl 0 rfl) ?_
    refine lv_iload_n hx hb (ckd_ok d1) rfl (lv_at hl 3 rfl) ?_
    refine lv_iconst (v := nI j) hx hb (ckd_ok d2) (by rfl) ?_
    refine lv_iadd hx hb (ckd_ok d3) ?_
    rw [nI_add]
    have e1 : (nI (i + j)).toNatClampNeg = i + j := nI_clamp (by omega)
    refine va_sld hx hb hX hbl hbA hS (fun u => ?_) (ckd_ok d4) ?_
    · rcases u with u | u
      · exact nI_pos (by omega) u
      · rw [e1] at u
        omega
    rw [e1]
    refine ih (P + 5) (j + 1) (.int (xs (i + j)) :: rest) (by omega) d5 ?_
    have e2 : ((ars xs (k + 1) (i + j)).map Value.int).reverse ++ rest = ((ars xs k (i + (j + 1))).map Value.int).reverse ++ (.int (xs (i + j)) :: rest) := by
      show ((Value.int (xs (i + j)) :: (ars xs k (i + j + 1)).map Value.int).reverse ++ rest) = _
      rw [List.reverse_cons, List.append_assoc]
      rfl
    rw [e2, show P + 5 * (k + 1) = P + 5 + 5 * k by omega] at kk
    exact kk
theorem map_vI (G : GT) (ys : List Int32) : (ys.map vI).map (cv G) = ys.map Value.int := by
  rw [List.map_map]
  rfl
theorem st_X (G : GT) (ys : List Int32) (r : List AV) : ((aX ys).reverse ++ r).map (cv G) = (ys.map Value.int).reverse ++ (.ref (G.1 + 0) :: r.map (cv G)) := by
  unfold aX
  rw [List.reverse_cons, List.append_assoc, List.map_append, List.map_reverse, map_vI]
  rfl
theorem st_M (G : GT) (ys : List Int32) (r : List AV) : ((aM ys).reverse ++ r).map (cv G) = (ys.map Value.int).reverse ++ (.ref (G.1 + 37) :: r.map (cv G)) := by
  unfold aM
  rw [List.reverse_cons, List.append_assoc, List.map_append, List.map_reverse, map_vI]
  rfl
/-- one call on an object of the law -/
theorem w_inv {j n t z x i0 : Nat} {ys : List Int32} {r : List AV} {v : Int32} {L1 : Lay} {σ1 : Sto} {pc : Nat} (C : CX G p s m args meth c 13 nm code 4 ret) (hRf : 121 ≤ R.frames) (hRl : 28 + 60 * 120 ≤ R.locals) (hs : s.heap.size = G.1) (hj : ckj j n t = true) (ht : t < 13) (hn : ys.length = n) (hf : (13, i0, j, 0, z) ∈ lkM) (hP : va_P G.2.1 vwCl (wof G L σ) H) (hS : va_S (fA G) s.heap H locs) (hx : x < L.2.2.1) (hk : L.1 x = t)
    (hM : Con G l j 120 L σ (vR t (some x) :: ys.map vI) (some (vI v), L1, σ1)) (hL : LE L L1) (hcat : catl r ≤ 8) (hls : ls.size = 4) (hr1 : L1.2.2.1 ≤ R.cells) (hr2 : L1.2.2.2 ≤ R.slots) (hdg : ckd pc (.invokevirtual i0) 3 = true)
    (kk : ∀ (H1 : Heap) (locs1 : List Loc), va_P G.2.1 vwCl (wof G L1 σ1) H1 → va_S (fA G) s.heap H1 locs1 → W p l e R s m args below meth c H1 locs1 L1.2.2.1 L1.2.2.2 Q (F0 m (pc + 3) ls (.int v :: r.map (cv G)))) : W p l e R s m args below meth c H locs L.2.2.1 L.2.2.2 Q (F0 m pc ls (((vR t (some x) :: ys.map vI).reverse ++ r).map (cv G))) := by
  simp only [ckj, Bool.and_eq_true, decide_eq_true_eq] at hj
  obtain ⟨⟨⟨j1, j2⟩, j3⟩, j4⟩ := hj
  have j2 := Nat.eq_of_beq_eq_true j2
  have j3 := Nat.eq_of_beq_eq_true j3
  have b1 := hL.1
  have b2 := hL.2.1
  refine w_size (k := 0) (n := 0) hs hP hS (Nat.zero_le _) (fun hz => ?_)
  have hz : H.size = G.1 + L.2.2.1 := hz
  obtain ⟨c1, -⟩ := CK_ok t ht
  obtain ⟨cell, g1, g2, g3⟩ := va_recv (q0 := x) C.2.2.2.2.2.2.2.2.1.1 hP c1 (by rw [wof_at hx, cE_obj hk ht])
  refine w_callR (mc := L1.2.2.1 - L.2.2.1) (ms := L1.2.2.2 - L.2.2.2) (k := 0) C hRf hRl (Nat.blt_eq.mp j1) hf hP hS hz (Or.inr (Or.inl ⟨rfl, rfl, ?_, G.1 + x, ys.map vI, cell, rfl, rfl, g1, g2, ?_⟩)) j3 hM hcat hls rfl rfl ⟨?_, ?_⟩ (ckd_ok hdg) (fun H1 l1 a1 a2 => ?_)
  · rw [j2, List.length_cons, List.length_map, hn]
  · rw [j4]
    exact g3
  · show L.2.2.1 - 0 + (L1.2.2.1 - L.2.2.1) ≤ R.cells
    omega
  · show L.2.2.2 + (L1.2.2.2 - L.2.2.2) ≤ R.slots
    omega
  · have := kk H1 l1 a1 a2
    rw [show L.2.2.1 - 0 + (L1.2.2.1 - L.2.2.1) = L1.2.2.1 by omega, show L.2.2.2 + (L1.2.2.2 - L.2.2.2) = L1.2.2.2 by omega]
    exact this
theorem i1653 (a : Nat) : (a : Int) + (1653 - Int.ofNat a) = ((1653 : Nat) : Int) := by
  show (a : Int) + (1653 - (a : Int)) = 1653
  omega
/-- one case of the switch -/
theorem w_case {P n iX iM j1 j2 z1 z2 : Nat} (C : CX G p s m args meth c 13 nm code 4 ret) (hRf : 121 ≤ R.frames) (hRl : 28 + 60 * 120 ≤ R.locals) (hs : s.heap.size = G.1) (hX : va_X b N xs s s.heap) (hbl : b < s.heap.size) (hN : N ≤ 3072) (hck : ckop P n iX iM j1 j2 z1 z2 = true) (hn : i + 1 + n ≤ N) (hK : KD L) (hop : OPC G l L σ j1 j2 (ars xs n (i + 1))) (hP : va_P G.2.1 vwCl (wof G L σ) H) (hS : va_S (fA G) s.heap H locs) (hl : LC G b i ls) (hr1 : L.2.2.1 + 4 ≤ R.cells) (hr2 : L.2.2.2 + 128 ≤ R.slots)
    (kk : ∀ (L2 : Lay) (σ2 : Sto) (H2 : Heap) (locs2 : List Loc), IV L2 σ2 → WT L2 σ2 → KD L2 → L2.2.2.1 ≤ L.2.2.1 + 4 → L2.2.2.2 ≤ L.2.2.2 + 128 → va_P G.2.1 vwCl (wof G L2 σ2) H2 → va_S (fA G) s.heap H2 locs2 → W p l e R s m args below meth c H2 locs2 L2.2.2.1 L2.2.2.2 Q (F0 m 1653 ls [])) : W p l e R s m args below meth c H locs L.2.2.1 L.2.2.2 Q (F0 m P ls []) := by
  obtain ⟨v, L1, σ1, L2, σ2, ⟨o1, o2, o3⟩, ⟨q1, q2, q3⟩, o4, o5, o6⟩ := hop
  have hbA : ¬ fA G b := fun u => by
    have u : G.1 ≤ b := u
    omega
  simp only [ckop, ckc, Bool.and_eq_true] at hck
  obtain ⟨⟨⟨⟨d1, d2⟩, d3⟩, ⟨⟨⟨d4, d5⟩, d6⟩, d7⟩⟩, ⟨⟨⟨d8, d9⟩, d10⟩, d11⟩⟩ := hck
  have hx := C.1
  have hb := C.2.1
  have hK1 := hK.le o2
  have k80 := hK.1
  have k81 := hK1.1
  have b3 := q2.1
  have b4 := q2.2.1
  refine lv_aload_n hx hb (ckd_ok d1) rfl (lv_at hl 1 rfl) ?_
  refine w_lds hx hb hX hbl hbA hS hl hN n (P + 1) 1 [.ref (G.1 + 0)] hn d2 ?_
  have e1 := st_X G (ars xs n (i + 1)) []
  rw [show [Value.ref (G.1 + 0)] = .ref (G.1 + 0) :: ([] : List AV).map (cv G) from rfl, ← e1]
  refine w_inv (L1 := L1) (σ1 := σ1) C hRf hRl hs d8 (by omega) (ars_len _ _ _) (lkH_ok d10) hP hS (by omega) hK.2.1 o1 o2 (Nat.zero_le _) hl.1 (by omega) (by omega) d3 (fun H1 l1 a1 a2 => ?_)
  refine lv_aload_n hx hb (ckd_ok d4) rfl (lv_at hl 2 rfl) ?_
  refine w_lds hx hb hX hbl hbA a2 hl hN n (P + 1 + 5 * n + 3 + 1) 1 _ hn d5 ?_
  have e2 := st_M G (ars xs n (i + 1)) [vI v]
  rw [show Value.ref (G.1 + 37) :: Value.int v :: ([] : List AV).map (cv G) = .ref (G.1 + 37) :: ([vI v] : List AV).map (cv G) from rfl, ← e2]
  refine w_inv (L1 := L2) (σ1 := σ2) C hRf hRl hs d9 (by omega) (ars_len _ _ _) (lkH_ok d11) a1 a2 (by omega) hK1.2.2 q1 q2 (Nat.le_of_ble_eq_true rfl) hl.1 (by omega) (by omega) d6 (fun H2 l2 c1 c2 => ?_)
  refine lv_icmp_eq (x := v) (y := v) (rest := []) (tgt := 1653) hx hb (ckd_ok d7) (i1653 _) (fun _ => ?_) (fun u => absurd rfl u)
  exact kk L2 σ2 H2 l2 o4 q3 (hK1.le q2) o5 o6 c1 c2
end
