/-! Calls by contract -/
abbrev RES : Type := Option AV × Lay × Sto
def rmd (d : Nat) (L0 L1 : Lay) : Room := { frames := d, cells := L1.2.2.1 - L0.2.2.1, slots := L1.2.2.2 - L0.2.2.2, locals := 60 * d }
def Qcon (G : GT) (q : RES) : Array Value → State → Outcome → State → Prop := fun _ st o t => o = .returned (q.1.map (cv G)) ∧ va_P G.2.1 vwCl (wof G q.2.1 q.2.2) t.heap ∧ va_F (fA G) st t
def Pcon (G : GT) (L : Lay) (σ : Sto) : State → Prop := fun U => U.heap.size = G.1 + L.2.2.1 ∧ va_P G.2.1 vwCl (wof G L σ) U.heap ∧ KK G U U.heap
def Con (G : GT) (l : Launch) (j d : Nat) (L : Lay) (σ : Sto) (as : List AV) (q : RES) : Prop :=
  Met l (md j).1 (.code (md j).1 (md j).2.1 (md j).2.2.1 (md j).2.2.2.1 :: tw) (rmd d L q.2.1) (va_Pc (as.map (cv G)) (Pcon G L σ)) (Qcon G q) (q.2.1.2.2.1 - L.2.2.1) (q.2.1.2.2.2 - L.2.2.2) (fA G)
theorem mdl_len : mdl.length = 280 := by decide +kernel
theorem md_mem {j : Nat} (h : j - 2 < 280) : md j ∈ mdl := by
  unfold md
  rw [List.getD_eq_getElem?_getD, List.getElem?_eq_getElem (by rw [mdl_len]; exact h)]
  exact List.getElem_mem _
theorem md_facts {j : Nat} (h : j - 2 < 280) : Cond.code (md j).1 (md j).2.1 (md j).2.2.1 (md j).2.2.2.1 ∈ tw ∧ Cond.initialized (md j).1.cls ∈ tw ∧ plainName (md j).1.cls = true ∧ ((md j).1.cls ≠ "java/lang/invoke/MethodHandle" ∧ (md j).1.cls ≠ "java/lang/invoke/VarHandle") ∧ (parseMethodDescriptor (md j).1.desc).map (fun d => d.parameters.length) = some (md j).2.2.2.2.2.1 ∧ (md j).2.2.1 ≤ 9 ∧ ((md j).2.2.2.2.2.2 = 1 → Cond.static (md j).1 ∈ tw) ∧ ((md j).2.2.2.2.2.2 ≠ 1 → Cond.instanceMethod (md j).1 ∈ tw) ∧ ((md j).2.2.2.2.2.2 = 0 → Cond.selects (md j).1.cls (md j).1 (md j).1 ∈ tw) ∧ ((md j).2.2.2.2.2.2 = 2 → (md j).1.name = "<init>" ∧ (md j).2.2.2.1 = none) := by
  have hm := md_mem h
  have h1 := mcw _ hm
  have h2 := mdl_ok _ hm
  generalize md j = q at h1 h2 ⊢
  obtain ⟨y, cc, n, r, ⟨z0, z1, z2, z3⟩, na, k⟩ := q
  simp only [ckD, Bool.and_eq_true, decide_eq_true_eq] at h2
  obtain ⟨⟨⟨⟨⟨⟨a1, a2⟩, a3⟩, a4⟩, a5⟩, a6⟩, a7⟩ := h2
  refine ⟨h1, gAt_mem a1, a2, ⟨a3.1, a3.2.1⟩, a3.2.2, a4, ?_, ?_, ?_, ?_⟩
  · rintro rfl
    exact gAt_mem a5
  · intro hk
    have : Nat.beq k 1 = false := by
      cases hb : Nat.beq k 1 with
      | false => rfl
      | true => exact absurd (Nat.eq_of_beq_eq_true hb) hk
    rw [this] at a5
    exact gAt_mem a5
  · rintro rfl
    exact gAt_mem a6
  · rintro rfl
    simpa using a7
theorem blind (G : GT) (L : Lay) (σ : Sto) (av : List Value) : FrameBlind (va_Pc av (Pcon G L σ)) := by
  intro a U g mk h
  obtain ⟨h0, h1, h2, h3⟩ := h
  exact ⟨h0, h1, h2, KK.same (s := U) (U := U.calling g mk a) rfl h3⟩
theorem catl_sum (G : GT) : ∀ r : List AV, ((r.map (cv G)).map fun v => v.category).sum = catl r
  | [] => rfl
  | .inl _ :: r => by simp [catl, cv, Value.category, ← catl_sum G r]; omega
  | .inr (.inl _) :: r => by simp [catl, cv, Value.category, ← catl_sum G r]; omega
  | .inr (.inr (.inl q)) :: r => by simp [catl, cv, cat_rf, ← catl_sum G r]; omega
  | .inr (.inr (.inr q)) :: r => by simp [catl, cv, cat_rf, ← catl_sum G r]; omega
theorem psh_map (G : GT) (r : Option AV) (l : List AV) : (psh r l).map (cv G) = (r.map (cv G)).toList ++ l.map (cv G) := by cases r <;> rfl
theorem spl_spec : ∀ {n : Nat} {acc st as r : List AV}, spl n acc st = some (as, r) → ∃ b, b.length = n ∧ as = b.reverse ++ acc ∧ st = b ++ r
  | 0, acc, st, as, r, h => by
    simp only [spl, Option.some.injEq, Prod.mk.injEq] at h
    exact ⟨[], rfl, h.1.symm, h.2⟩
  | n + 1, acc, [], as, r, h => by simp [spl] at h
  | n + 1, acc, x :: st, as, r, h => by
    obtain ⟨b, h1, h2, h3⟩ := spl_spec (n := n) (acc := x :: acc) (st := st) h
    exact ⟨x :: b, congrArg (· + 1) h1, by rw [h2]; simp, by rw [h3]; rfl⟩
section
variable {G : GT} {p : Program} {l : Launch} {e : Env} {R : Room} {s : State} {m : MethodId} {args : Array Value} {below : List Frame} {meth : Method} {c : Code} {H : Heap} {locs : List Loc} {cells slots mc ms : Nat} {Q : State → Prop}
variable {on : Nat} {nm : String} {cd : ByteArray} {nL : Nat} {ret : Option FieldType} {pc i : Nat} {ls : Array Slot} {rest st0 : List Value} {L : Lay} {σ σ' : Sto} {x : Nat} {q : RES} {a : Array Value}
theorem w_run (hr : va_Run p l e R s m args below meth c H locs cells slots mc ms (F0 m pc ls st0) rest (Qcon G q a) (fA G)) (hS : va_S (fA G) s.heap H locs)
    (kk : ∀ (H1 : Heap) (locs1 : List Loc), va_P G.2.1 vwCl (wof G q.2.1 q.2.2) H1 → va_S (fA G) s.heap H1 locs1 → W p l e R s m args below meth c H1 locs1 (cells + mc) (slots + ms) Q (F0 m (pc + 3) ls ((q.1.map (cv G)).toList ++ rest))) : W p l e R s m args below meth c H locs cells slots Q (F0 m pc ls st0) := by
  intro T hT X
  obtain ⟨v, st₀, t, T', L1, h0, X', hL, e1, e2, ⟨hv, hP1, hz, hk⟩, st⟩ := hr T hT X
  have hv : v = q.1.map (cv G) := by injection hv
  subst hv
  rw [h0] at hz hk
  obtain ⟨t2, a1, b1⟩ := kk T'.heap (locs ++ L1) (by rw [e1]; exact hP1)
    ⟨Nat.le_trans hS.1 (by rw [e1]; exact hz), fun q h1 h2 => by rw [e1, hk q (Nat.lt_of_lt_of_le h1 hS.1) h2]; exact hS.2.1 q h1 h2, fun q hq => by
      rcases List.mem_append.mp hq with h | h
      · exact hS.2.2 q h
      · exact hL q h⟩ T' rfl X'
  exact ⟨t2, st t2 a1, b1⟩
theorem w_call {j n z d : Nat} {L0 L1 : Lay} {as : List AV} {r : List AV} {k : Nat} {ins : Instr} (C : CX G p s m args meth c on nm cd nL ret) (hR : R = rmd d L0 L1) {d' : Nat} (hd : d' + 1 ≤ d) (hj : j - 2 < 280) (hf : (on, i, j, n, z) ∈ lkM) (hP : va_P G.2.1 vwCl (wof G L σ) H) (hS : va_S (fA G) s.heap H locs) (hz : H.size = G.1 + L.2.2.1)
    (hkind : (k = 1 ∧ ins = .invokestatic i ∧ (md j).2.2.2.2.2.1 = as.length) ∨ (k = 0 ∧ ins = .invokevirtual i ∧ (md j).2.2.2.2.2.1 + 1 = as.length ∧ ∃ (o : Nat) (as' : List AV) (cell : Cell), as.map (cv G) = .ref o :: as'.map (cv G) ∧ as.length = as'.length + 1 ∧ H[o]? = some cell ∧ cell.vm.isStatics = false ∧ s.vm.findClass (md j).1.cls = some cell.cls) ∨ (k = 2 ∧ ins = .invokespecial i ∧ (md j).2.2.2.2.2.1 + 1 = as.length ∧ ∃ (o : Nat) (as' : List AV), as.map (cv G) = .ref o :: as'.map (cv G) ∧ as.length = as'.length + 1)) (hk : (md j).2.2.2.2.2.2 = k)
    (hM : Con G l j d' L σ as q) (hcat : catl r ≤ 8) (hls : ls.size = nL) (hmc : mc = q.2.1.2.2.1 - L.2.2.1) (hms : ms = q.2.1.2.2.2 - L.2.2.2) (hroom : cells + mc ≤ R.cells ∧ slots + ms ≤ R.slots) (hdg : decode cd pc = .ok (ins, 3))
    (kk : ∀ (H1 : Heap) (locs1 : List Loc), va_P G.2.1 vwCl (wof G q.2.1 q.2.2) H1 → va_S (fA G) s.heap H1 locs1 → W p l e R s m args below meth c H1 locs1 (cells + mc) (slots + ms) Q (F0 m (pc + 3) ls ((psh q.1 r).map (cv G)))) : W p l e R s m args below meth c H locs cells slots Q (F0 m pc ls ((as.reverse ++ r).map (cv G))) := by
  obtain ⟨hx1, hb, hml, hown, hts, hr, hlk, hnm, hK, hB⟩ := C
  obtain ⟨m1, m2, m3, m4, m5, m6, m7, m8, m9, m10⟩ := md_facts hj
  have hl := List.all_eq_true.mp lkM_ok _ hf
  simp only [ckM] at hl
  have hpre : ∀ U : State, U.heap = H → s.WarmedH U.vm → va_Pc (as.map (cv G)) (Pcon G L σ) (as.map (cv G)).toArray U := fun U hU hW => ⟨rfl, by rw [hU]; exact hz, by rw [hU]; exact hP, by rw [hU]; exact KK.warm hW hS.2.1 hK⟩
  have hws : ∀ w ∈ (Cond.code (md j).1 (md j).2.1 (md j).2.2.1 (md j).2.2.2.1 :: tw), ∀ (a' : Array Value) (U : State), s.WarmedH U.vm → w.before a' U = true := pay_in hts (tw_good (fun w hw => by
    rcases List.mem_cons.mp hw with rfl | hw
    · exact m1
    · exact hw))
  have hlen : ∀ n, (md j).2.2.2.2.2.1 = n → ∀ sig, parseMethodDescriptor (md j).1.desc = some sig → n = sig.parameters.length := fun n hn sig hs => by
    rw [hs] at m5
    rw [← hn]
    exact (Option.some.inj m5).symm
  have hfr : (rmd d' L q.2.1).frames + 1 ≤ R.frames := by rw [hR]; exact hd
  have hlo : 8 + ((md j).2.2.1 + 11) + (rmd d' L q.2.1).locals ≤ R.locals := by
    rw [hR]
    show 8 + ((md j).2.2.1 + 11) + 60 * d' ≤ 60 * d
    omega
  have hrm : 2 * (F0 m pc ls ((as.reverse ++ r).map (cv G))).monitorRoom + ((r.map (cv G)).map fun v => v.category).sum ≤ 8 := lv_room (by rw [catl_sum]; exact hcat)
  have hS1 : CallFix p m c cd nL s args tw (cnm on) := ⟨hx1, hb, hml, hown, hts⟩
  have hcode : Cond.code (md j).1 (md j).2.1 (md j).2.2.1 (md j).2.2.2.1 ∈ (Cond.code (md j).1 (md j).2.1 (md j).2.2.1 (md j).2.2.2.1 :: tw) := List.mem_cons_self
  have key : va_Run p l e R s m args below meth c H locs cells slots (q.2.1.2.2.1 - L.2.2.1) (q.2.1.2.2.2 - L.2.2.2) (F0 m pc ls ((as.reverse ++ r).map (cv G))) (r.map (cv G)) (Qcon G q (as.map (cv G)).toArray) (fA G) := by
    subst hmc
    subst hms
    rcases hkind with ⟨rfl, rfl, hn⟩ | ⟨rfl, rfl, hn, o, as', cell, ho, hlen2, hc1, hc2, hc3⟩ | ⟨rfl, rfl, hn, o, as', ho, hlen2⟩
    · by_cases hnn : Nat.beq n 0 = true
      · rw [hnn] at hl
        exact va_runS (As := as.map (cv G)) hS1 hM ⟨⟨rfl, rfl, hfr, hlo, hws, hcode, hts _ m1, hts _ m2, m4, hlen _ hn, hts _ (gAt_mem hl)⟩, hts _ (m7 hk)⟩ ⟨blind _ _ _ _, hpre⟩ rfl (by simp) hls (by simp) hrm hdg hroom
      · rw [Bool.not_eq_true] at hnn
        rw [hnn] at hl
        exact va_runSN (As := as.map (cv G)) hS1 hM ⟨⟨⟨rfl, rfl, hfr, hlo, hws, hcode⟩, hts _ m1, hts _ m2, m4, hlen _ hn, va_Nw.use rfl (hK.2.1 _ (nAt_mem hl))⟩, hts _ (m7 hk), trivial⟩ ⟨blind _ _ _ _, hpre⟩ rfl (by simp) hls (by simp) hrm hdg hroom
    · unfold Con at hM
      rw [ho] at hpre hM ⊢
      have hst : (F0 m pc ls ((as.reverse ++ r).map (cv G))).stack = (as'.map (cv G)).reverse ++ .ref o :: r.map (cv G) := by
        show (as.reverse ++ r).map (cv G) = _
        rw [List.map_append, List.map_reverse, ho]
        simp
      by_cases hnn : Nat.beq n 0 = true
      · rw [hnn] at hl
        exact va_runV (C := (md j).1.cls) (As := as'.map (cv G)) hS1 hM ⟨⟨rfl, rfl, hfr, hlo, hws, hcode, hts _ m1, hts _ m2, m4, hlen _ (by omega), hts _ (gAt_mem hl)⟩, hts _ (m8 (by omega)), hts _ (m9 hk)⟩ ⟨blind _ _ _ _, ⟨cell, hc1, hc2, hc3⟩, hpre⟩ rfl (show _ = as'.length by simp) hls hst hrm hdg hroom
      · rw [Bool.not_eq_true] at hnn
        rw [hnn] at hl
        exact va_runVN (C := (md j).1.cls) (As := as'.map (cv G)) hS1 hM ⟨⟨⟨rfl, rfl, hfr, hlo, hws, hcode⟩, hts _ m1, hts _ m2, m4, hlen _ (by omega), va_Nw.use rfl (hK.2.1 _ (nAt_mem hl))⟩, hts _ (m8 (by omega)), hts _ (m9 hk)⟩ ⟨blind _ _ _ _, ⟨cell, hc1, hc2, hc3⟩, hpre⟩ rfl (show _ = as'.length by simp) hls hst hrm hdg hroom
    · unfold Con at hM
      rw [ho] at hpre hM ⊢
      obtain ⟨hi1, hi2⟩ := m10 hk
      have hst : (F0 m pc ls ((as.reverse ++ r).map (cv G))).stack = (as'.map (cv G)).reverse ++ .ref o :: r.map (cv G) := by
        show (as.reverse ++ r).map (cv G) = _
        rw [List.map_append, List.map_reverse, ho]
        simp
      rw [hi2] at hM hws hcode m1
      by_cases hnn : Nat.beq n 0 = true
      · rw [hnn] at hl
        exact va_runI (As := as'.map (cv G)) hS1 hM ⟨⟨rfl, rfl, hfr, hlo, hws, hcode, hts _ m1, hts _ m2, m4, hlen _ (by omega), hts _ (gAt_mem hl)⟩, hi1, hts _ (m8 (by omega))⟩ ⟨blind _ _ _ _, hpre⟩ rfl (show _ = as'.length by simp) hls hst hrm hdg hroom
      · rw [Bool.not_eq_true] at hnn
        rw [hnn] at hl
        exact va_runIN (As := as'.map (cv G)) hS1 hM ⟨⟨⟨rfl, rfl, hfr, hlo, hws, hcode⟩, hts _ m1, hts _ m2, m4, hlen _ (by omega), va_Nw.use rfl (hK.2.1 _ (nAt_mem hl))⟩, hi1, hts _ (m8 (by omega))⟩ ⟨blind _ _ _ _, hpre⟩ rfl (show _ = as'.length by simp) hls hst hrm hdg hroom
  subst hmc
  subst hms
  refine w_run key hS (fun H1 l1 a b => ?_)
  have := kk H1 l1 a b
  rw [psh_map] at this
  exact this
end
