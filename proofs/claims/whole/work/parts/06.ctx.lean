/-! What holds at a method's start, and how locals stand -/
def tysG (G : GT) : List (ClassId × FieldType) := [(G.2.2.1 20, .int), (G.2.2.1 21, .short), (G.2.2.1 22, .boolean), (G.2.2.1 23, .object RX2), (G.2.2.1 24, .object RX0), (G.2.2.1 25, .object RX4)]
def stq (w : Nat) : Nat × Nat × String := match w with
  | 0 => (1, 25, "epmxbrynvd")
  | 1 => (1, 104, "alc")
  | 2 => (1, 43, "stands")
  | 3 => (1, 49, "notice")
  | 4 => (1, 51, "life")
  | 5 => (12, 328, "stands")
  | 6 => (12, 334, "notice")
  | _ => (12, 336, "life")
def KR (G : GT) (U : State) : Prop := ∀ w, w < 8 → ∃ k, G.2.2.2 0 w = some k ∧ vk_R (cnm (stq w).1) (stq w).2.1 (stq w).2.2 k U
def KC1 (G : GT) (U : State) (H : Heap) (w : Nat) : Prop := ∃ k v, G.2.2.2 0 w = some k ∧ G.2.2.2 1 w = some v ∧ va_O "java/lang/String" k (fA G) U H ∧ va_OF "java/lang/String" "coder" "B" (.int 0) k (fA G) U H ∧ va_OF "java/lang/String" "value" "[B" (.ref v) k (fA G) U H ∧ va_T .byte v (cal 1 w).length (fun j => .int (cnth (cal 1 w) j)) (fA G) U H
def KC2 (G : GT) (U : State) (H : Heap) (w : Nat) : Prop := ∃ t, G.2.2.2 2 w = some t ∧ va_Z (gsn (w + 2)).1 (gsn (w + 2)).2.1 (gsn (w + 2)).2.2 (.ref t) (fA G) U H ∧ va_T .int t (cal 2 w).length (fun j => .int (cnth (cal 2 w) j)) (fA G) U H
def KC (G : GT) (U : State) (H : Heap) : Prop := (∀ w, w < 8 → KC1 G U H w) ∧ (∀ w, w < 2 → KC2 G U H w) ∧ va_Z (gsn 0).1 (gsn 0).2.1 (gsn 0).2.2 (.int 1) (fA G) U H ∧ va_Z (gsn 1).1 (gsn 1).2.1 (gsn 1).2.2 (va_rf (G.2.2.2 3 0)) (fA G) U H
def KK (G : GT) (U : State) (H : Heap) : Prop := va_K G.2.1 vwCl (tysG G) U ∧ (∀ w ∈ nst, va_Nw w U) ∧ (va_AO RX2 U ∧ va_AO RX0 U ∧ va_AO RX4 U) ∧ KR G U ∧ KC G U H
theorem KC.moved {G : GT} {u U : State} {H H1 : Heap} (hvm : u.vm.Alike U.vm) (hq : ∀ a : Nat, a < H.size → ¬ fA G a → H1[a]? = H[a]?) (h : KC G u H) : KC G U H1 := by
  refine ⟨fun w hw => ?_, fun w hw => ?_, (va_Z.moved hvm h.2.2.1).kept hq, (va_Z.moved hvm h.2.2.2).kept hq⟩
  · obtain ⟨k, v, a, b, c, d, e, f⟩ := h.1 w hw
    exact ⟨k, v, a, b, (va_O.moved hvm c).kept hq, (va_OF.moved hvm d).kept hq, (va_OF.moved hvm e).kept hq, (va_T.moved hvm f).kept hq⟩
  · obtain ⟨t, a, b, c⟩ := h.2.1 w hw
    exact ⟨t, a, (va_Z.moved hvm b).kept hq, (va_T.moved hvm c).kept hq⟩
theorem nst_warm {s U : State} (hW : s.WarmedH U.vm) {w : Cond} (hw : w ∈ nst) (h : va_Nw w s) : va_Nw w U := by
  have hi := (List.mem_filter.mp hw).2
  cases w <;> first | (exact va_Nw.warmF hW h) | (exact va_Nw.warmM hW h) | (cases hi)
theorem nst_same {s U : State} (hv : s.vm = U.vm) {w : Cond} (hw : w ∈ nst) (h : va_Nw w s) : va_Nw w U := by
  have hi := (List.mem_filter.mp hw).2
  cases w <;> first | (exact va_Nw.same rfl hv h) | (cases hi)
theorem KK.warm {G : GT} {s U : State} {H H1 : Heap} (hW : s.WarmedH U.vm) (hq : ∀ a : Nat, a < H.size → ¬ fA G a → H1[a]? = H[a]?) (h : KK G s H) : KK G U H1 :=
  ⟨va_K.moved hW.alike h.1, fun w hw => nst_warm hW hw (h.2.1 w hw), ⟨va_AO.moved hW.alike h.2.2.1.1, va_AO.moved hW.alike h.2.2.1.2.1, va_AO.moved hW.alike h.2.2.1.2.2⟩, fun w hw => by obtain ⟨k, a, b⟩ := h.2.2.2.1 w hw; exact ⟨k, a, vk_R.warm hW b⟩, KC.moved hW.alike hq h.2.2.2.2⟩
theorem KK.same {G : GT} {s U : State} {H : Heap} (hv : s.vm = U.vm) (h : KK G s H) : KK G U H :=
  have hA : s.vm.Alike U.vm := hv ▸ Vm.Alike.refl s.vm
  ⟨va_K.moved hA h.1, fun w hw => nst_same hv hw (h.2.1 w hw), ⟨va_AO.moved hA h.2.2.1.1, va_AO.moved hA h.2.2.1.2.1, va_AO.moved hA h.2.2.1.2.2⟩, fun w hw => by obtain ⟨k, a, b⟩ := h.2.2.2.1 w hw; exact ⟨k, a, vk_R.same hv.symm b⟩, KC.moved hA (fun _ _ _ => rfl) h.2.2.2.2⟩
def CX (G : GT) (p : Program) (s : State) (m : MethodId) (args : Array Value) (meth : Method) (c : Code) (on : Nat) (nm : String) (cd : ByteArray) (nL : Nat) (ret : Option FieldType) : Prop :=
  p.tables.exec = Jvm.exec ∧ c.code = cd ∧ c.maxLocals = nL ∧ s.vm.findClass (cnm on) = some m.cls ∧ (∀ w ∈ tw, w.before args s = true) ∧ meth.sig.returnType = ret ∧ meth.locks = false ∧ meth.name = nm ∧ KK G s s.heap ∧ G.1 ≤ s.heap.size
def LR (G : GT) (ls : Array Slot) (nL : Nat) (lc : List (Option AV)) : Prop := ls.size = nL ∧ lv_wf ls ∧ lc.length = nL ∧ ∀ i v, lget lc i = some v → ls[i]? = some (.val (cv G v))
def lsl (G : GT) (lc : List (Option AV)) : List (Nat × Value) := (List.range lc.length).filterMap (fun i => (lget lc i).map (fun v => (i, cv G v)))
theorem lget_lt : ∀ {lc : List (Option AV)} {i : Nat} {v : AV}, lget lc i = some v → i < lc.length
  | [], _, _, h => by simp [lget] at h
  | _ :: _, 0, _, _ => Nat.succ_pos _
  | _ :: r, i + 1, v, h => Nat.succ_lt_succ (lget_lt (lc := r) (i := i) (v := v) h)
theorem lput_len : ∀ (lc : List (Option AV)) (i : Nat) (v : AV), (lput lc i v).length = lc.length
  | [], _, _ => rfl
  | _ :: _, 0, _ => rfl
  | _ :: r, i + 1, v => congrArg (· + 1) (lput_len r i v)
theorem lclr_len : ∀ (lc : List (Option AV)) (i : Nat), (lclr lc i).length = lc.length
  | [], _ => rfl
  | _ :: _, 0 => rfl
  | _ :: r, i + 1 => congrArg (· + 1) (lclr_len r i)
theorem lget_lput : ∀ {lc : List (Option AV)} {i j : Nat} {v w : AV}, lget (lput lc i v) j = some w → (j = i ∧ w = v) ∨ (j ≠ i ∧ lget lc j = some w)
  | [], _, _, _, _, h => by simp [lput, lget] at h
  | _ :: _, 0, 0, v, w, h => Or.inl ⟨rfl, (Option.some.inj h).symm⟩
  | _ :: _, 0, _ + 1, _, _, h => Or.inr ⟨Nat.succ_ne_zero _, h⟩
  | _ :: _, _ + 1, 0, _, _, h => Or.inr ⟨(Nat.succ_ne_zero _).symm, h⟩
  | _ :: r, i + 1, j + 1, v, w, h => by
    rcases lget_lput (lc := r) (i := i) (j := j) (v := v) (w := w) h with ⟨a, b⟩ | ⟨a, b⟩
    · exact Or.inl ⟨congrArg (· + 1) a, b⟩
    · exact Or.inr ⟨fun e => a (Nat.succ.inj e), b⟩
theorem lget_lclr : ∀ {lc : List (Option AV)} {i j : Nat} {w : AV}, lget (lclr lc i) j = some w → j ≠ i ∧ lget lc j = some w
  | [], _, _, _, h => by simp [lclr, lget] at h
  | _ :: _, 0, 0, w, h => by simp [lclr, lget] at h
  | _ :: _, 0, _ + 1, _, h => ⟨Nat.succ_ne_zero _, h⟩
  | _ :: _, _ + 1, 0, _, h => ⟨(Nat.succ_ne_zero _).symm, h⟩
  | _ :: r, i + 1, j + 1, w, h => by
    obtain ⟨a, b⟩ := lget_lclr (lc := r) (i := i) (j := j) (w := w) h
    exact ⟨fun e => a (Nat.succ.inj e), b⟩
theorem lsl_mem {G : GT} {lc : List (Option AV)} {i : Nat} {v : AV} (h : lget lc i = some v) : (i, cv G v) ∈ lsl G lc :=
  List.mem_filterMap.mpr ⟨i, List.mem_range.mpr (lget_lt h), by rw [h]; rfl⟩
theorem lsl_of {G : GT} {lc : List (Option AV)} {q : Nat × Value} (h : q ∈ lsl G lc) : ∃ v, lget lc q.1 = some v ∧ q.2 = cv G v := by
  obtain ⟨i, -, hi⟩ := List.mem_filterMap.mp h
  cases hv : lget lc i with
  | none => rw [hv] at hi; cases hi
  | some v =>
    rw [hv] at hi
    cases hi
    exact ⟨v, hv, rfl⟩
theorem LR.has {G : GT} {ls : Array Slot} {nL : Nat} {lc : List (Option AV)} (h : LR G ls nL lc) : lv_has ls nL (lsl G lc) :=
  ⟨h.1, h.2.1, fun q hq => by
    obtain ⟨v, a, b⟩ := lsl_of hq
    rw [b]
    exact h.2.2.2 _ _ a⟩
theorem cat_rf (o : Option Nat) : (va_rf o).category = 1 := by cases o <;> rfl
theorem cat_cv (G : GT) (v : AV) : (cv G v).category = 2 → ∃ x, v = .inr (.inl x) := by
  match v with
  | .inl x => intro h; simp [cv, Value.category] at h
  | .inr (.inl x) => exact fun _ => ⟨x, rfl⟩
  | .inr (.inr (.inl q)) => intro h; rw [show cv G (.inr (.inr (.inl q))) = va_rf (q.2.map (G.1 + ·)) from rfl, cat_rf] at h; cases h
  | .inr (.inr (.inr q)) => intro h; rw [show cv G (.inr (.inr (.inr q))) = va_rf (G.2.2.2 q.1 q.2) from rfl, cat_rf] at h; cases h
theorem LR.put {G : GT} {ls' : Array Slot} {nL : Nat} {lc : List (Option AV)} {i : Nat} {v : AV} (hlen : lc.length = nL) (hw : lwid lc i = false)
    (h : lv_has ls' nL ((i, cv G v) :: (lsl G lc).filter (fun q => !(q.1 == i) && !(q.1 + 1 == i && q.2.category == 2)))) : LR G ls' nL (lput lc i v) := by
  refine ⟨h.1, h.2.1, (lput_len _ _ _).trans hlen, fun j w hj => ?_⟩
  rcases lget_lput hj with ⟨rfl, rfl⟩ | ⟨hne, hg⟩
  · exact h.2.2 _ List.mem_cons_self
  · refine h.2.2 (j, cv G w) (List.mem_cons_of_mem _ (List.mem_filter.mpr ⟨lsl_mem hg, ?_⟩))
    have h2 : ¬ (j + 1 = i ∧ (cv G w).category = 2) := by
      rintro ⟨rfl, hc⟩
      obtain ⟨x, rfl⟩ := cat_cv G w hc
      simp [lwid, lwd, hg] at hw
    simp only [Bool.and_eq_true, Bool.not_eq_true', beq_eq_false_iff_ne, ne_eq, Bool.and_eq_false_iff]
    refine ⟨hne, ?_⟩
    by_cases e : j + 1 = i
    · exact Or.inr (fun q => h2 ⟨e, q⟩)
    · exact Or.inl e
theorem LR.put2 {G : GT} {ls' : Array Slot} {nL : Nat} {lc : List (Option AV)} {i : Nat} {x : Int64} (hlen : lc.length = nL) (hw : lwid lc i = false)
    (h : lv_has ls' nL ((i, Value.long x) :: (lsl G lc).filter (fun q => !(q.1 == i) && (!(q.1 == i + 1) && !(q.1 + 1 == i && q.2.category == 2))))) : LR G ls' nL (lclr (lput lc i (vJ x)) (i + 1)) := by
  refine ⟨h.1, h.2.1, ((lclr_len _ _).trans (lput_len _ _ _)).trans hlen, fun j w hj => ?_⟩
  obtain ⟨hn2, hj⟩ := lget_lclr hj
  rcases lget_lput hj with ⟨rfl, rfl⟩ | ⟨hne, hg⟩
  · exact h.2.2 _ List.mem_cons_self
  · refine h.2.2 (j, cv G w) (List.mem_cons_of_mem _ (List.mem_filter.mpr ⟨lsl_mem hg, ?_⟩))
    have h2 : ¬ (j + 1 = i ∧ (cv G w).category = 2) := by
      rintro ⟨rfl, hc⟩
      obtain ⟨x, rfl⟩ := cat_cv G w hc
      simp [lwid, lwd, hg] at hw
    simp only [Bool.and_eq_true, Bool.not_eq_true', beq_eq_false_iff_ne, ne_eq, Bool.and_eq_false_iff]
    refine ⟨hne, hn2, ?_⟩
    by_cases e : j + 1 = i
    · exact Or.inr (fun q => h2 ⟨e, q⟩)
    · exact Or.inl e
theorem okc.put {L : Lay} {lc : List (Option AV)} {i : Nat} {v : AV} (h : okc L lc) (hv : okv L v) : okc L (lput lc i v) := by
  intro j w hj
  rcases lget_lput hj with ⟨rfl, rfl⟩ | ⟨-, hg⟩
  · exact hv
  · exact h j w hg
theorem okc.clr {L : Lay} {lc : List (Option AV)} {i : Nat} (h : okc L lc) : okc L (lclr lc i) := fun j w hj => h j w (lget_lclr hj).2
