/-! One step of the pure machine is one of the machine -/
def AW (G : GT) (l : Launch) (on : Nat) (nm : String) (cd : ByteArray) (nL : Nat) (ret : Option FieldType) (d : Nat) (L0 : Lay) (q : RES) (pc : Nat) (lc : List (Option AV)) (st : List AV) (L : Lay) (σ : Sto) : Prop :=
  ∀ (p : Program) (e : Env) (s : State) (m : MethodId) (args : Array Value) (below : List Frame) (meth : Method) (c : Code) (H : Heap) (locs : List Loc) (ls : Array Slot), CX G p s m args meth c on nm cd nL ret → s.heap.size = G.1 + L0.2.2.1 → va_P G.2.1 vwCl (wof G L σ) H → va_S (fA G) s.heap H locs → LR G ls nL lc →
    W p l e (rmd d L0 q.2.1) s m args below meth c H locs (L.2.2.1 - L0.2.2.1) (L.2.2.2 - L0.2.2.2) (MQ below (Qcon G q) args s (q.2.1.2.2.1 - L0.2.2.1) (q.2.1.2.2.2 - L0.2.2.2) (fA G)) (F0 m pc ls (st.map (cv G)))
def SG (G : GT) (l : Launch) (on : Nat) (nm : String) (cd : ByteArray) (nL : Nat) (ret : Option FieldType) (d : Nat) (L0 : Lay) (q : RES) (pc : Nat) (lc : List (Option AV)) (st : List AV) (L : Lay) (σ : Sto) : Prop :=
  LE L q.2.1 ∧ WT q.2.1 q.2.2 ∧ (∀ v, q.1 = some v → okv q.2.1 v) ∧ AW G l on nm cd nL ret d L0 q pc lc st L σ
def INV (L0 : Lay) (σ0 : Sto) (fl : Bool × Bool) (lc : List (Option AV)) (st : List AV) (L : Lay) (σ : Sto) : Prop :=
  LE L0 L ∧ WT L σ ∧ okc L lc ∧ okl L st ∧ (fl.1 = true → L = L0) ∧ (fl.2 = true → σ = σ0)
section
variable {G : GT} {l : Launch} {on : Nat} {nm : String} {cd : ByteArray} {nL : Nat} {ret : Option FieldType} {d : Nat} {L0 : Lay} {σ0 : Sto} {fl : Bool × Bool} {q : RES} {pc pc' : Nat} {lc : List (Option AV)} {st st' : List AV} {L : Lay} {σ σ' : Sto}
theorem sg_same (h : SG G l on nm cd nL ret d L0 q pc' lc st' L σ) (hw : ∀ (p : Program) (e : Env) (R : Room) (s : State) (m : MethodId) (args : Array Value) (below : List Frame) (meth : Method) (c : Code) (H : Heap) (locs : List Loc) (cells slots : Nat) (Q : State → Prop) (ls : Array Slot), CX G p s m args meth c on nm cd nL ret → va_P G.2.1 vwCl (wof G L σ) H → va_S (fA G) s.heap H locs → LR G ls nL lc → W p l e R s m args below meth c H locs cells slots Q (F0 m pc' ls (st'.map (cv G))) → W p l e R s m args below meth c H locs cells slots Q (F0 m pc ls (st.map (cv G)))) : SG G l on nm cd nL ret d L0 q pc lc st L σ :=
  ⟨h.1, h.2.1, h.2.2.1, fun p e s m args below meth c H locs ls C hs hP hS hl => hw p e _ s m args below meth c H locs _ _ _ ls C hP hS hl (h.2.2.2 p e s m args below meth c H locs ls C hs hP hS hl)⟩
/-- a step that changes the locals -/
theorem sg_loc {lc' : List (Option AV)} (h : SG G l on nm cd nL ret d L0 q pc' lc' st' L σ) (hw : ∀ (p : Program) (e : Env) (R : Room) (s : State) (m : MethodId) (args : Array Value) (below : List Frame) (meth : Method) (c : Code) (H : Heap) (locs : List Loc) (cells slots : Nat) (Q : State → Prop) (ls : Array Slot), CX G p s m args meth c on nm cd nL ret → LR G ls nL lc → (∀ ls', LR G ls' nL lc' → W p l e R s m args below meth c H locs cells slots Q (F0 m pc' ls' (st'.map (cv G)))) → W p l e R s m args below meth c H locs cells slots Q (F0 m pc ls (st.map (cv G)))) : SG G l on nm cd nL ret d L0 q pc lc st L σ :=
  ⟨h.1, h.2.1, h.2.2.1, fun p e s m args below meth c H locs ls C hs hP hS hl => hw p e _ s m args below meth c H locs _ _ _ ls C hl (fun ls' hl' => h.2.2.2 p e s m args below meth c H locs ls' C hs hP hS hl')⟩
/-- a step that writes -/
theorem sg_put (h : SG G l on nm cd nL ret d L0 q pc' lc st' L σ') (hw : ∀ (p : Program) (e : Env) (R : Room) (s : State) (m : MethodId) (args : Array Value) (below : List Frame) (meth : Method) (c : Code) (H : Heap) (locs : List Loc) (cells slots : Nat) (Q : State → Prop) (ls : Array Slot), CX G p s m args meth c on nm cd nL ret → va_P G.2.1 vwCl (wof G L σ) H → va_S (fA G) s.heap H locs → (∀ (H1 : Heap) (locs1 : List Loc), va_P G.2.1 vwCl (wof G L σ') H1 → va_S (fA G) s.heap H1 locs1 → W p l e R s m args below meth c H1 locs1 cells slots Q (F0 m pc' ls (st'.map (cv G)))) → W p l e R s m args below meth c H locs cells slots Q (F0 m pc ls (st.map (cv G)))) : SG G l on nm cd nL ret d L0 q pc lc st L σ :=
  ⟨h.1, h.2.1, h.2.2.1, fun p e s m args below meth c H locs ls C hs hP hS hl => hw p e _ s m args below meth c H locs _ _ _ ls C hP hS (fun H1 l1 a b => h.2.2.2 p e s m args below meth c H1 l1 ls C hs a b hl)⟩
/-- a step that makes a cell -/
theorem sg_new {k n w : Nat} (h0 : LE L0 L) (h : SG G l on nm cd nL ret d L0 q pc' lc st' (pL L k n w) (zS σ L.2.2.1)) (hw : ∀ (p : Program) (e : Env) (R : Room) (s : State) (m : MethodId) (args : Array Value) (below : List Frame) (meth : Method) (c : Code) (H : Heap) (locs : List Loc) (cells slots : Nat) (Q : State → Prop) (ls : Array Slot), CX G p s m args meth c on nm cd nL ret → va_P G.2.1 vwCl (wof G L σ) H → va_S (fA G) s.heap H locs → H.size = G.1 + L.2.2.1 → cells + 1 ≤ R.cells → slots + w ≤ R.slots → (∀ H1 : Heap, va_P G.2.1 vwCl (wof G (pL L k n w) (zS σ L.2.2.1)) H1 → va_S (fA G) s.heap H1 locs → W p l e R s m args below meth c H1 locs (cells + 1) (slots + w) Q (F0 m pc' ls (st'.map (cv G)))) → W p l e R s m args below meth c H locs cells slots Q (F0 m pc ls (st.map (cv G)))) : SG G l on nm cd nL ret d L0 q pc lc st L σ := by
  have hLE := (LE.push L k n w).tr h.1
  refine ⟨hLE, h.2.1, h.2.2.1, fun p e s m args below meth c H locs ls C hs hP hS hl => ?_⟩
  have h1 : L0.2.2.1 ≤ L.2.2.1 := h0.1
  have h2 : L0.2.2.2 ≤ L.2.2.2 := h0.2.1
  have h3 : L.2.2.1 + 1 ≤ q.2.1.2.2.1 := h.1.1
  have h4 : L.2.2.2 + w ≤ q.2.1.2.2.2 := h.1.2.1
  refine w_size (k := 0) hs hP hS h1 (fun hz => ?_)
  refine hw p e _ s m args below meth c H locs _ _ _ ls C hP hS hz (show _ ≤ q.2.1.2.2.1 - L0.2.2.1 by omega) (show _ ≤ q.2.1.2.2.2 - L0.2.2.2 by omega) (fun H1 a b => ?_)
  have := h.2.2.2 p e s m args below meth c H1 locs ls C hs a b hl
  rw [show (pL L k n w).2.2.1 - L0.2.2.1 = L.2.2.1 - L0.2.2.1 + 1 from (show L.2.2.1 + 1 - L0.2.2.1 = _ by omega), show (pL L k n w).2.2.2 - L0.2.2.2 = L.2.2.2 - L0.2.2.2 + w from (show L.2.2.2 + w - L0.2.2.2 = _ by omega)] at this
  exact this
theorem cv_ref (x : Nat) (t : Nat) : cv G (vR t (some x)) = .ref (G.1 + x) := rfl
theorem okl_cons {v : AV} {r : List AV} : okl L (v :: r) ↔ okv L v ∧ okl L r := List.forall_mem_cons
theorem INV.stk {st' : List AV} (h : INV L0 σ0 fl lc st L σ) (h' : okl L st') : INV L0 σ0 fl lc st' L σ := ⟨h.1, h.2.1, h.2.2.1, h', h.2.2.2.2⟩
theorem INV.loc {lc' : List (Option AV)} {st' : List AV} (h : INV L0 σ0 fl lc st L σ) (h1 : okc L lc') (h' : okl L st') : INV L0 σ0 fl lc' st' L σ := ⟨h.1, h.2.1, h1, h', h.2.2.2.2⟩
theorem INV.put {st' : List AV} (h : INV L0 σ0 fl lc st L σ) (h1 : WT L σ') (h' : okl L st') (hf : fl.2 = false) : INV L0 σ0 fl lc st' L σ' := ⟨h.1, h1, h.2.2.1, h', h.2.2.2.2.1, fun e => by rw [hf] at e; cases e⟩
theorem INV.new {st' : List AV} {k n w : Nat} (h : INV L0 σ0 fl lc st L σ) (h' : okl (pL L k n w) st') (hf1 : fl.1 = false) (hf : fl.2 = false) : INV L0 σ0 fl lc st' (pL L k n w) (zS σ L.2.2.1) := ⟨h.1.tr (LE.push _ _ _ _), h.2.1.push _ _ _, h.2.2.1.mono (LE.push _ _ _ _), h', fun e => (by rw [hf1] at e; cases e), fun e => (by rw [hf] at e; cases e)⟩
theorem okv_int (x : Int32) : okv L (.inl x) := trivial
theorem okv_long (x : Int64) : okv L (.inr (.inl x)) := trivial
theorem okv_fval {k j x : Nat} (hW : WT L σ) (hx : x < L.2.2.1) (hk : L.1 x = k) (h13 : k < 13) : okv L (fval k j σ x) := by
  unfold fval
  split
  · trivial
  · trivial
  · rename_i t ht
    intro y hy
    exact (hW x j y hx hy).1 t (by rw [hk]; exact h13) (by rw [hk]; exact ht)
theorem WT.fput {k j x : Nat} {v : AV} (hW : WT L σ) (hk : L.1 x = k) (hk13 : k < 13) (hv : okv L v) (h : fput k j σ x v = some σ') : WT L σ' := by
  unfold Jvm.Pilot.@@N@@.fput at h
  split at h
  · by_cases hn : Nat.beq (fnc k j) 0 = true
    · rw [hn] at h
      cases h
      exact hW
    · rw [Bool.not_eq_true] at hn
      rw [hn] at h
      simp only [cond_false] at h
      obtain ⟨u, -, h⟩ := Option.bind_eq_some_iff.mp h
      cases h
      exact hW
  · cases h
    exact hW
  · rename_i t q0 h0
    by_cases hq : Nat.beq q0.1 t = true
    · rw [hq] at h
      cases h
      have ht := Nat.eq_of_beq_eq_true hq
      refine hW.sR (fun y hy => ⟨fun t' _ h2 => ?_, fun h2 => ?_⟩)
      · rw [hk, h0] at h2
        have : t = t' := by omega
        subst this
        rw [← ht]
        exact hv y hy
      · omega
    · rw [Bool.not_eq_true] at hq
      rw [hq] at h
      cases h
  · cases h
end
