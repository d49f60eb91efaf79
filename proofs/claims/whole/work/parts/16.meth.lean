/-! From runs of the pure machine to contracts -/
def lca : List AV → List (Option AV)
  | [] => []
  | .inr (.inl x) :: r => some (vJ x) :: none :: lca r
  | .inl x :: r => some (vI x) :: lca r
  | .inr (.inr x) :: r => some (.inr (.inr x)) :: lca r
def pad : Nat → List (Option AV) → List (Option AV)
  | 0, _ => []
  | n + 1, [] => none :: pad n []
  | n + 1, x :: r => x :: pad n r
theorem pad_len : ∀ (n : Nat) (l : List (Option AV)), (pad n l).length = n
  | 0, _ => rfl
  | n + 1, [] => congrArg (· + 1) (pad_len n [])
  | n + 1, _ :: r => congrArg (· + 1) (pad_len n r)
theorem lget_nil (i : Nat) : lget [] i = none := by cases i <;> rfl
theorem lget_pad : ∀ {n : Nat} {l : List (Option AV)} {i : Nat} {v : AV}, lget (pad n l) i = some v → lget l i = some v
  | 0, _, i, v, h => by simp [pad, lget_nil] at h
  | n + 1, [], 0, v, h => by simp [pad, lget] at h
  | n + 1, [], i + 1, v, h => by
    have := lget_pad (n := n) (l := []) (i := i) (v := v) h
    rw [lget_nil] at this
    cases this
  | n + 1, x :: r, 0, v, h => h
  | n + 1, x :: r, i + 1, v, h => lget_pad (n := n) (l := r) (i := i) (v := v) h
theorem cat1_i (G : GT) (x : Int32) : (cv G (.inl x)).category = 1 := rfl
theorem cat1_r (G : GT) (x : (Nat × Option Nat) ⊕ (Nat × Nat)) : (cv G (.inr (.inr x))).category = 1 := by
  rcases cv_rn G x with e | ⟨y, e⟩ <;> rw [e] <;> rfl
theorem lget_lca (G : GT) : ∀ {as : List AV} {i k : Nat} {v : AV}, lget (lca as) i = some v → (k + i, cv G v) ∈ lv_args k (as.map (cv G))
  | [], i, k, v, h => by simp [lca, lget_nil] at h
  | .inr (.inl x) :: r, i, k, v, h => by
    have e : (cv G (.inr (.inl x))).category = 2 := rfl
    simp only [List.map_cons, lv_args, e, if_true]
    match i, h with
    | 0, h => cases h; exact List.mem_cons_self
    | 1, h => simp [lca, lget] at h
    | i + 2, h =>
      have := lget_lca G (as := r) (i := i) (k := k + 2) h
      rw [show k + (i + 2) = k + 2 + i by omega]
      exact List.mem_cons_of_mem _ this
  | .inl x :: r, i, k, v, h => by
    simp only [List.map_cons, lv_args, cat1_i, if_neg (show ¬ (1 = 2) by decide)]
    match i, h with
    | 0, h => cases h; exact List.mem_cons_self
    | i + 1, h =>
      have := lget_lca G (as := r) (i := i) (k := k + 1) h
      rw [show k + (i + 1) = k + 1 + i by omega]
      exact List.mem_cons_of_mem _ this
  | .inr (.inr x) :: r, i, k, v, h => by
    simp only [List.map_cons, lv_args, cat1_r, if_neg (show ¬ (1 = 2) by decide)]
    match i, h with
    | 0, h => cases h; exact List.mem_cons_self
    | i + 1, h =>
      have := lget_lca G (as := r) (i := i) (k := k + 1) h
      rw [show k + (i + 1) = k + 1 + i by omega]
      exact List.mem_cons_of_mem _ this
theorem lca_len (G : GT) : ∀ as : List AV, (lg_sl (as.map (cv G))).length = (lca as).length
  | [] => rfl
  | .inr (.inl x) :: r => by have e : (cv G (.inr (.inl x))).category = 2 := rfl
                             simp [lg_sl, lca, e]; have := lca_len G r; simp [lg_sl] at this; omega
  | .inl x :: r => by simp [lg_sl, lca, cat1_i]; have := lca_len G r; simp [lg_sl] at this; omega
  | .inr (.inr x) :: r => by simp [lg_sl, lca, cat1_r]; have := lca_len G r; simp [lg_sl] at this; omega
theorem okc_lca {L : Lay} : ∀ {as : List AV}, okl L as → okc L (lca as)
  | [], _ => fun i v h => by simp [lca, lget_nil] at h
  | .inr (.inl x) :: r, h => fun i v hi => by
    match i, hi with
    | 0, hi => cases hi; trivial
    | 1, hi => simp [lca, lget] at hi
    | i + 2, hi => exact okc_lca (okl_cons.mp h).2 i v hi
  | .inl x :: r, h => fun i v hi => by
    match i, hi with
    | 0, hi => cases hi; trivial
    | i + 1, hi => exact okc_lca (okl_cons.mp h).2 i v hi
  | .inr (.inr x) :: r, h => fun i v hi => by
    match i, hi with
    | 0, hi => cases hi; exact (okl_cons.mp h).1
    | i + 1, hi => exact okc_lca (okl_cons.mp h).2 i v hi
def HCL (G : GT) (l : Launch) (fl : Bool × Bool) (d : Nat) {O : Type} (cl : CLT O) : Prop := ∀ j L σ as k o, cl j L σ as k = some o → WT L σ → okl L as → ∃ r L' σ', k r L' σ' = some o ∧ LE L L' ∧ WT L' σ' ∧ (∀ v, r = some v → okv L' v) ∧ (fl.1 = true → L' = L) ∧ (fl.2 = true → σ' = σ) ∧ ∃ d', d' + 1 ≤ d ∧ Con G l j d' L σ as (r, L', σ')
abbrev ADT : Type 1 := (O : Type) → Lay → Sto → List AV → RKT O → Option O
/-- what a method's adapter promises: j its number, d the depth that it needs -/
def CA (G : GT) (l : Launch) (j : Nat) (fl : Bool × Bool) (d : Nat) (a : ADT) : Prop := ∀ O L σ as k o, a O L σ as k = some o → WT L σ → okl L as → ∃ r L' σ', k r L' σ' = some o ∧ LE L L' ∧ WT L' σ' ∧ (∀ v, r = some v → okv L' v) ∧ (fl.1 = true → L' = L) ∧ (fl.2 = true → σ' = σ) ∧ Con G l j d L σ as (r, L', σ')
def cl0 {O : Type} : CLT O := fun _ _ _ _ _ => none
def clc {O : Type} (j : Nat) (a : ADT) (cl : CLT O) : CLT O := fun i L σ as k => bif Nat.beq i j then a O L σ as k else cl i L σ as k
theorem hcl0 {G : GT} {l : Launch} {fl : Bool × Bool} {d : Nat} {O : Type} : HCL G l fl d (cl0 (O := O)) := fun _ _ _ _ _ _ h => by cases h
theorem hclc {G : GT} {l : Launch} {fl : Bool × Bool} {d : Nat} {O : Type} {j d' : Nat} {fl' : Bool × Bool} {a : ADT} {cl : CLT O} (h : CA G l j fl' d' a) (hf1 : fl.1 = true → fl'.1 = true) (hf2 : fl.2 = true → fl'.2 = true) (hd : d' + 1 ≤ d) (hr : HCL G l fl d cl) : HCL G l fl d (clc j a cl) := by
  intro i L σ as k o hc hW hok
  unfold clc at hc
  cases hb : Nat.beq i j with
  | true =>
    rw [hb] at hc
    obtain rfl := Nat.eq_of_beq_eq_true hb
    obtain ⟨r, L', σ', h1, h2, h3, h4, h5, h6, h7⟩ := h O L σ as k o hc hW hok
    exact ⟨r, L', σ', h1, h2, h3, h4, fun e => h5 (hf1 e), fun e => h6 (hf2 e), d', hd, h7⟩
  | false =>
    rw [hb] at hc
    exact hr i L σ as k o hc hW hok
def HR (fl : Bool × Bool) (L0 : Lay) (σ0 : Sto) {O : Type} (Rk : RKT O) (dec : O → RES) : Prop := ∀ r L σ o, (fl.1 = true → L = L0) → (fl.2 = true → σ = σ0) → Rk r L σ = some o → dec o = (r, L, σ)
theorem ex_sound {O : Type} {tb : Nat → TI} {sp : Nat → Bool} {rt : Nat × Nat} {cl : CLT O} {Rk : RKT O} {K : GOT O} {dec : O → RES} {G : GT} {l : Launch} {on : Nat} {nm : String} {cd : ByteArray} {nL : Nat} {ret : Option FieldType} {d : Nat} {L0 : Lay} {σ0 : Sto} {fl : Bool × Bool}
    (HT : tOK on (decide (nm = "<init>")) cd tb) (hrt : retOK rt ret) (hd : 1 ≤ d) (hcl : HCL G l fl d cl) (hR : HR fl L0 σ0 Rk dec)
    (hK : ∀ pc lc st L σ o, sp pc = true → K pc lc st L σ = some o → INV L0 σ0 fl lc st L σ → SG G l on nm cd nL ret d L0 (dec o) pc lc st L σ) :
    ∀ (n : Nat) {pc : Nat} {lc : List (Option AV)} {st : List AV} {L : Lay} {σ : Sto} {o : O}, ex tb sp rt fl cl K Rk n pc lc st L σ = some o → INV L0 σ0 fl lc st L σ → SG G l on nm cd nL ret d L0 (dec o) pc lc st L σ
  | 0, _, _, _, _, _, _, h, _ => by cases h
  | n + 1, pc, lc, st, L, σ, o, h, hI => by
    refine stp_sound HT hd (fun pc lc st L σ o h hI => ?_) hcl hR hrt h hI
    cases hs : sp pc with
    | true =>
      rw [hs] at h
      exact hK pc lc st L σ o hs h hI
    | false =>
      rw [hs] at h
      exact ex_sound HT hrt hd hcl hR hK n h hI
/-- a method's contract out of its run from the entry -/
theorem con_of {G : GT} {l : Launch} {j on d : Nat} {L : Lay} {σ : Sto} {as : List AV} {q : RES} (hj : j - 2 < 280) (hon : cnm on = (md j).1.cls) (hlen : (lca as).length ≤ (md j).2.2.1)
    (h : SG G l on (md j).1.name (md j).2.1 (md j).2.2.1 (md j).2.2.2.1 d L q 0 (pad (md j).2.2.1 (lca as)) [] L σ) : LE L q.2.1 ∧ WT q.2.1 q.2.2 ∧ (∀ v, q.1 = some v → okv q.2.1 v) ∧ Con G l j d L σ as q := by
  refine ⟨h.1, h.2.1, h.2.2.1, ?_⟩
  obtain ⟨m1, m2, m3, m4, m5, m6, m7, m8, m9, m10⟩ := md_facts hj
  unfold Con
  refine Met.ofW (cc := (md j).2.1) (maxL := (md j).2.2.1) (ret := (md j).2.2.2.1) m3 rfl ?_
  intro p e s m args below meth c s₁ B hml hv
  obtain ⟨rfl, hsz, hP, hK⟩ := hv
  have hts := atoms_spec (ws := (.code (md j).1 (md j).2.1 (md j).2.2.1 (md j).2.2.2.1 :: tw)) B.pre
  have hown : s.vm.findClass (md j).1.cls = some m.cls := findClass_of_methodNamed B.named
  have hC : CX G p s m (as.map (cv G)).toArray meth c on (md j).1.name (md j).2.1 (md j).2.2.1 (md j).2.2.2.1 := ⟨B.exec, B.bytes, hml, by rw [hon]; exact hown, fun w hw => hts w (List.mem_cons_of_mem _ hw), B.returns, B.notSynchronized, (name_of_methodNamed B.named B.method).1, hK, by omega⟩
  rw [lg_entry_eq]
  have hl := lv_entry (as.map (cv G)) (n := (md j).2.2.1) (by rw [lca_len]; exact hlen)
  have hLR : LR G ((lg_sl (as.map (cv G)) ++ List.replicate ((md j).2.2.1 - (lg_sl (as.map (cv G))).length) Slot.unset).toArray) (md j).2.2.1 (pad (md j).2.2.1 (lca as)) := ⟨hl.1, hl.2.1, pad_len _ _, fun i v hi => by
    have := lget_lca G (k := 0) (lget_pad hi)
    rw [Nat.zero_add] at this
    exact hl.2.2 _ this⟩
  have := h.2.2.2 p e s m _ below meth c s.heap [] _ hC hsz hP va_S.rf hLR
  rw [Nat.sub_self, Nat.sub_self] at this
  exact this
theorem inv0 {L : Lay} {σ : Sto} {fl : Bool × Bool} {as : List AV} {n : Nat} (hW : WT L σ) (hok : okl L as) : INV L σ fl (pad n (lca as)) [] L σ := ⟨LE.rf L, hW, fun i v hi => okc_lca hok i v (lget_pad hi), fun v h => by simp at h, fun _ => rfl, fun _ => rfl⟩
/-! The kinds of answers: pure int, int, void, pure reference, with a new layout -/
def rkPI : RKT Int32 := fun r _ _ => match r with
  | some (.inl x) => some x
  | _ => none
def dcPI (L : Lay) (σ : Sto) (o : Int32) : RES := (some (vI o), L, σ)
theorem hrPI {fl : Bool × Bool} {L : Lay} {σ : Sto} (h1 : fl.1 = true) (h2 : fl.2 = true) : HR fl L σ rkPI (dcPI L σ) := by
  intro r L' σ' o e1 e2 h
  unfold rkPI at h
  split at h
  · cases h
    rw [e1 h1, e2 h2]
    rfl
  · cases h
def rkI : RKT (Int32 × Sto) := fun r _ σ => match r with
  | some (.inl x) => some (x, σ)
  | _ => none
def dcI (L : Lay) (o : Int32 × Sto) : RES := (some (vI o.1), L, o.2)
theorem hrI {fl : Bool × Bool} {L : Lay} {σ : Sto} (h1 : fl.1 = true) : HR fl L σ rkI (dcI L) := by
  intro r L' σ' o e1 e2 h
  unfold rkI at h
  split at h
  · cases h
    rw [e1 h1]
    rfl
  · cases h
def rkV : RKT Sto := fun r _ σ => match r with
  | none => some σ
  | _ => none
def dcV (L : Lay) (o : Sto) : RES := (none, L, o)
theorem hrV {fl : Bool × Bool} {L : Lay} {σ : Sto} (h1 : fl.1 = true) : HR fl L σ rkV (dcV L) := by
  intro r L' σ' o e1 e2 h
  unfold rkV at h
  split at h
  · cases h
    rw [e1 h1]
    rfl
  · cases h
def rkPV : RKT Unit := fun r _ _ => match r with
  | none => some ()
  | _ => none
def dcPV (L : Lay) (σ : Sto) (_ : Unit) : RES := (none, L, σ)
theorem hrPV {fl : Bool × Bool} {L : Lay} {σ : Sto} (h1 : fl.1 = true) (h2 : fl.2 = true) : HR fl L σ rkPV (dcPV L σ) := by
  intro r L' σ' o e1 e2 h
  unfold rkPV at h
  split at h
  · rw [e1 h1, e2 h2]
    rfl
  · cases h
def rkPR (t : Nat) : RKT (Option Nat) := fun r _ _ => match r with
  | some (.inr (.inr (.inl q))) => bif Nat.beq q.1 t then some q.2 else none
  | _ => none
def dcPR (t : Nat) (L : Lay) (σ : Sto) (o : Option Nat) : RES := (some (vR t o), L, σ)
theorem hrPR {fl : Bool × Bool} {t : Nat} {L : Lay} {σ : Sto} (h1 : fl.1 = true) (h2 : fl.2 = true) : HR fl L σ (rkPR t) (dcPR t L σ) := by
  intro r L' σ' o e1 e2 h
  unfold rkPR at h
  split at h
  · obtain ⟨hq, hA⟩ := bif_s h
    cases hA
    have := Nat.eq_of_beq_eq_true hq
    subst this
    rw [e1 h1, e2 h2]
    rfl
  · cases h
def rkA : RKT (Int32 × Lay × Sto) := fun r L σ => match r with
  | some (.inl x) => some (x, L, σ)
  | _ => none
def dcA (o : Int32 × Lay × Sto) : RES := (some (vI o.1), o.2)
theorem hrA {fl : Bool × Bool} {L : Lay} {σ : Sto} : HR fl L σ rkA dcA := by
  intro r L' σ' o e1 e2 h
  unfold rkA at h
  split at h
  · cases h
    rfl
  · cases h
def rkAV : RKT (Lay × Sto) := fun r L σ => match r with
  | none => some (L, σ)
  | _ => none
def dcAV (o : Lay × Sto) : RES := (none, o)
theorem hrAV {fl : Bool × Bool} {L : Lay} {σ : Sto} : HR fl L σ rkAV dcAV := by
  intro r L' σ' o e1 e2 h
  unfold rkAV at h
  split at h
  · cases h
    rfl
  · cases h
/-- the same method by its number -/
theorem ca_of {G : GT} {l : Launch} {j on d : Nat} {fl : Bool × Bool} {L : Lay} {σ : Sto} {as : List AV} {q : RES} {O : Type} {k : RKT O} {o : O} (hj : j - 2 < 280) (hon : cnm on = (md j).1.cls) (hlen : (lca as).length ≤ (md j).2.2.1) (hk : k q.1 q.2.1 q.2.2 = some o) (hf1 : fl.1 = true → q.2.1 = L) (hf2 : fl.2 = true → q.2.2 = σ)
    (h : SG G l on (md j).1.name (md j).2.1 (md j).2.2.1 (md j).2.2.2.1 d L q 0 (pad (md j).2.2.1 (lca as)) [] L σ) : ∃ r L' σ', k r L' σ' = some o ∧ LE L L' ∧ WT L' σ' ∧ (∀ v, r = some v → okv L' v) ∧ (fl.1 = true → L' = L) ∧ (fl.2 = true → σ' = σ) ∧ Con G l j d L σ as (r, L', σ') := by
  obtain ⟨h1, h2, h3, h4⟩ := con_of hj hon hlen h
  exact ⟨q.1, q.2.1, q.2.2, hk, h1, h2, h3, hf1, hf2, h4⟩
/-! The map of where a run stops -/
def spm : List Nat → Nat → Bool
  | [], _ => false
  | a :: r, p => Nat.beq p a || spm r p
def k0 {O : Type} : GOT O := fun _ _ _ _ _ => none
def kc {O : Type} (q : Nat) (F : List (Option AV) → List AV → Lay → Sto → Option O) (K : GOT O) : GOT O := fun pc lc st L σ => bif Nat.beq pc q then F lc st L σ else K pc lc st L σ
section
variable {O : Type} {dec : O → RES} {G : GT} {l : Launch} {on : Nat} {nm : String} {cd : ByteArray} {nL : Nat} {ret : Option FieldType} {d : Nat} {L0 : Lay} {σ0 : Sto} {fl : Bool × Bool}
def HK (G : GT) (l : Launch) (on : Nat) (nm : String) (cd : ByteArray) (nL : Nat) (ret : Option FieldType) (d : Nat) (L0 : Lay) (σ0 : Sto) (fl : Bool × Bool) {O : Type} (dec : O → RES) (K : GOT O) : Prop := ∀ pc lc st L σ o, K pc lc st L σ = some o → INV L0 σ0 fl lc st L σ → SG G l on nm cd nL ret d L0 (dec o) pc lc st L σ
def HF (G : GT) (l : Launch) (on : Nat) (nm : String) (cd : ByteArray) (nL : Nat) (ret : Option FieldType) (d : Nat) (L0 : Lay) (σ0 : Sto) (fl : Bool × Bool) {O : Type} (dec : O → RES) (pc : Nat) (F : List (Option AV) → List AV → Lay → Sto → Option O) : Prop := ∀ lc st L σ o, F lc st L σ = some o → INV L0 σ0 fl lc st L σ → SG G l on nm cd nL ret d L0 (dec o) pc lc st L σ
theorem hk0 : HK G l on nm cd nL ret d L0 σ0 fl dec (k0 (O := O)) := fun _ _ _ _ _ _ h => by cases h
theorem hkc {q : Nat} {F : List (Option AV) → List AV → Lay → Sto → Option O} {K : GOT O} (h : HF G l on nm cd nL ret d L0 σ0 fl dec q F) (hr : HK G l on nm cd nL ret d L0 σ0 fl dec K) : HK G l on nm cd nL ret d L0 σ0 fl dec (kc q F K) := by
  intro pc lc st L σ o hk hI
  unfold kc at hk
  cases hb : Nat.beq pc q with
  | true =>
    rw [hb] at hk
    obtain rfl := Nat.eq_of_beq_eq_true hb
    exact h lc st L σ o hk hI
  | false =>
    rw [hb] at hk
    exact hr pc lc st L σ o hk hI
end
theorem exs {O : Type} {tb : Nat → TI} {sp : List Nat} {rt : Nat × Nat} {cl : CLT O} {Rk : RKT O} {K : GOT O} {dec : O → RES} {G : GT} {l : Launch} {on : Nat} {nm : String} {cd : ByteArray} {nL : Nat} {ret : Option FieldType} {d : Nat} {L0 : Lay} {σ0 : Sto} {fl : Bool × Bool} {pc : Nat} {lc : List (Option AV)} {st : List AV} {L : Lay} {σ : Sto} {o : O}
    (HT : tOK on (decide (nm = "<init>")) cd tb) (hrt : retOK rt ret) (hd : 1 ≤ d) (hcl : HCL G l fl d cl) (hR : HR fl L0 σ0 Rk dec) (hK : HK G l on nm cd nL ret d L0 σ0 fl dec K) (n : Nat) (h : ex tb (spm sp) rt fl cl K Rk n pc lc st L σ = some o) (hI : INV L0 σ0 fl lc st L σ) : SG G l on nm cd nL ret d L0 (dec o) pc lc st L σ :=
  ex_sound HT hrt hd hcl hR (fun pc lc st L σ o _ h hI => hK pc lc st L σ o h hI) n h hI
theorem tn_of {n : Nat} {t : Nat → TI} : ∀ pc, n ≤ pc → (bif Nat.ble n pc then TN else t pc) = TN := fun pc h => by rw [Nat.ble_eq_true_of_le h]; rfl
theorem beq_and {a b : Nat} {c : Bool} (h : (Nat.beq a b && c) = true) : a = b ∧ c = true := by
  rw [Bool.and_eq_true] at h
  exact ⟨Nat.eq_of_beq_eq_true h.1, h.2⟩
