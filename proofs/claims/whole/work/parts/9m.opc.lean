/-! The law's calls, by contract -/
def kr0 : RKT RES := fun r L σ => some (r, L, σ)
theorem ca_use {G : GT} {l : Launch} {j d : Nat} {fl : Bool × Bool} {a : ADT} {L : Lay} {σ : Sto} {as : List AV} {q : RES} (h : CA G l j fl d a) (e : a RES L σ as kr0 = some q) (hW : WT L σ) (ho : okl L as) : LE L q.2.1 ∧ WT q.2.1 q.2.2 ∧ Con G l j d L σ as q := by
  obtain ⟨r, L', σ', h1, h2, h3, -, -, -, h7⟩ := h RES L σ as kr0 q e hW ho
  have e2 : (r, L', σ') = q := Option.some.inj h1
  subst e2
  exact ⟨h2, h3, h7⟩
/-- the two objects' kinds -/
def KD (L : Lay) : Prop := 80 ≤ L.2.2.1 ∧ L.1 0 = 11 ∧ L.1 37 = 12
theorem KD.le {L L' : Lay} (h : KD L) (e : LE L L') : KD L' := ⟨Nat.le_trans h.1 e.1, ((e.2.2 0 (by have := h.1; omega)).1).trans h.2.1, ((e.2.2 37 (by have := h.1; omega)).1).trans h.2.2⟩
def aX (ys : List Int32) : List AV := vR 11 (some 0) :: ys.map vI
def aM (ys : List Int32) : List AV := vR 12 (some 37) :: ys.map vI
theorem okl_ints (L : Lay) (ys : List Int32) : okl L (ys.map vI) := fun v hv => by
  obtain ⟨x, -, rfl⟩ := List.mem_map.mp hv
  trivial
theorem okl_X {L : Lay} (h : KD L) (ys : List Int32) : okl L (aX ys) := okl_cons.mpr ⟨fun y hy => by
  have e : (0 : Nat) = y := Option.some.inj hy
  subst e
  exact ⟨by have := h.1; omega, h.2.1⟩, okl_ints L ys⟩
theorem okl_M {L : Lay} (h : KD L) (ys : List Int32) : okl L (aM ys) := okl_cons.mpr ⟨fun y hy => by
  have e : (37 : Nat) = y := Option.some.inj hy
  subst e
  exact ⟨by have := h.1; omega, h.2.2⟩, okl_ints L ys⟩
def OPC (G : GT) (l : Launch) (L : Lay) (σ : Sto) (j1 j2 : Nat) (ys : List Int32) : Prop := ∃ v L1 σ1 L2 σ2, (Con G l j1 120 L σ (aX ys) (some (vI v), L1, σ1) ∧ LE L L1 ∧ WT L1 σ1) ∧ (Con G l j2 120 L1 σ1 (aM ys) (some (vI v), L2, σ2) ∧ LE L1 L2 ∧ WT L2 σ2) ∧ IV L2 σ2 ∧ L2.2.2.1 ≤ L.2.2.1 + 4 ∧ L2.2.2.2 ≤ L.2.2.2 + 128
section
variable {G : GT} {l : Launch} {L : Lay} {σ : Sto}
theorem opc_of {j1 j2 : Nat} {f1 f2 : Bool × Bool} {a1 a2 : ADT} {ys : List Int32} {v : Int32} {L1 L2 : Lay} {σ1 σ2 : Sto} (c1 : CA G l j1 f1 120 a1) (c2 : CA G l j2 f2 120 a2) (hW : WT L σ) (hK : KD L) (e1 : a1 RES L σ (aX ys) kr0 = some (some (vI v), L1, σ1)) (e2 : a2 RES L1 σ1 (aM ys) kr0 = some (some (vI v), L2, σ2)) (hI : IV L2 σ2) (b1 : L2.2.2.1 ≤ L.2.2.1 + 4) (b2 : L2.2.2.2 ≤ L.2.2.2 + 128) : OPC G l L σ j1 j2 ys := by
  obtain ⟨h1, h2, h3⟩ := ca_use c1 e1 hW (okl_X hK ys)
  obtain ⟨g1, g2, g3⟩ := ca_use c2 e2 h2 (okl_M (hK.le h1) ys)
  exact ⟨v, L1, σ1, L2, σ2, ⟨h3, h1, h2⟩, ⟨g3, g1, g2⟩, hI, b1, b2⟩
theorem oc_branch (hI : IV L σ) (hW : WT L σ) (hK : KD L) (x : Int32) : OPC G l L σ 62 125 [x] := by
  have h0 := hI
  obtain ⟨_, _, _, _, _, _, _, _, _, _, h⟩ := hI
  obtain ⟨v, σ1, σ2, h1, h2, h3⟩ := op_branch h x
  have h2 : f_X12_branch L σ1 37 x = some (v, σ2) := h2
  exact opc_of (ca_X11_branch G l (by omega)) (ca_X12_branch G l (by omega)) hW hK (by show (f_X11_branch L σ 0 x).bind (fun r => kr0 (some (vI r.1)) L r.2) = _; rw [h1]; rfl) (by show (f_X12_branch L σ1 37 x).bind (fun r => kr0 (some (vI r.1)) L r.2) = _; rw [h2]; rfl) h3 (by omega) (by omega)
theorem oc_isOf (hI : IV L σ) (hW : WT L σ) (hK : KD L) (x y : Int32) : OPC G l L σ 81 158 [x, y] := by
  have h0 := hI
  obtain ⟨_, _, _, _, _, _, _, _, _, _, h⟩ := hI
  obtain ⟨v, h1, h2⟩ := op_isOf h x y
  exact opc_of (ca_X11_isOf G l (by omega)) (ca_X12_isOf G l (by omega)) hW hK (by show (f_X11_isOf L σ 0 x y).bind (fun r => kr0 (some (vI r)) L σ) = _; rw [h1]; rfl) (by show (f_X12_isOf L σ 37 x y).bind (fun r => kr0 (some (vI r)) L σ) = _; rw [h2]; rfl) h0 (by omega) (by omega)
theorem oc_member (hI : IV L σ) (hW : WT L σ) (hK : KD L) (x y z u : Int32) : OPC G l L σ 93 178 [x, y, z, u] := by
  have h0 := hI
  obtain ⟨_, _, _, _, _, _, _, _, _, _, h⟩ := hI
  obtain ⟨v, L1, σ1, σ2, h1, h2, h3, h4, h5⟩ := op_member h x y z u
  have h2 : f_X12_member L1 σ1 37 x y z u = some (v, σ2) := h2
  exact opc_of (ca_X11_member G l (by omega)) (ca_X12_member G l (by omega)) hW hK (by show (f_X11_member L σ 0 x y z u).bind (fun r => kr0 (some (vI r.1)) r.2.1 r.2.2) = _; rw [h1]; rfl) (by show (f_X12_member L1 σ1 37 x y z u).bind (fun r => kr0 (some (vI r.1)) L1 r.2) = _; rw [h2]; rfl) h3 h4 h5
theorem oc_move (hI : IV L σ) (hW : WT L σ) (hK : KD L) (x y : Int32) : OPC G l L σ 94 179 [x, y] := by
  have h0 := hI
  obtain ⟨_, _, _, _, _, _, _, _, _, _, h⟩ := hI
  obtain ⟨v, σ1, σ2, h1, h2, h3⟩ := op_move h x y
  have h2 : f_X12_move L σ1 37 x y = some (v, σ2) := h2
  exact opc_of (ca_X11_move G l (by omega)) (ca_X12_move G l (by omega)) hW hK (by show (f_X11_move L σ 0 x y).bind (fun r => kr0 (some (vI r.1)) L r.2) = _; rw [h1]; rfl) (by show (f_X12_move L σ1 37 x y).bind (fun r => kr0 (some (vI r.1)) L r.2) = _; rw [h2]; rfl) h3 (by omega) (by omega)
theorem oc_leave (hI : IV L σ) (hW : WT L σ) (hK : KD L) (x : Int32) : OPC G l L σ 88 172 [x] := by
  have h0 := hI
  obtain ⟨_, _, _, _, _, _, _, _, _, _, h⟩ := hI
  obtain ⟨v, σ1, σ2, h1, h2, h3⟩ := op_leave h x
  have h2 : f_X12_leave L σ1 37 x = some (v, σ2) := h2
  exact opc_of (ca_X11_leave G l (by omega)) (ca_X12_leave G l (by omega)) hW hK (by show (f_X11_leave L σ 0 x).bind (fun r => kr0 (some (vI r.1)) L r.2) = _; rw [h1]; rfl) (by show (f_X12_leave L σ1 37 x).bind (fun r => kr0 (some (vI r.1)) L r.2) = _; rw [h2]; rfl) h3 (by omega) (by omega)
theorem oc_of (hI : IV L σ) (hW : WT L σ) (hK : KD L) (x y : Int32) : OPC G l L σ 99 186 [x, y] := by
  have h0 := hI
  obtain ⟨_, _, _, _, _, _, _, _, _, _, h⟩ := hI
  obtain ⟨v, h1, h2⟩ := op_of h x y
  exact opc_of (ca_X11_of G l (by omega)) (ca_X12_of G l (by omega)) hW hK (by show (f_X11_of L σ 0 x y).bind (fun r => kr0 (some (vI r)) L σ) = _; rw [h1]; rfl) (by show (f_X12_of L σ 37 x y).bind (fun r => kr0 (some (vI r)) L σ) = _; rw [h2]; rfl) h0 (by omega) (by omega)
theorem oc_told (hI : IV L σ) (hW : WT L σ) (hK : KD L) (x y : Int32) : OPC G l L σ 116 213 [x, y] := by
  have h0 := hI
  obtain ⟨_, _, _, _, _, _, _, _, _, _, h⟩ := hI
  obtain ⟨v, h1, h2⟩ := op_told h x y
  exact opc_of (ca_X11_told G l (by omega)) (ca_X12_told G l (by omega)) hW hK (by show (f_X11_told L σ 0 x y).bind (fun r => kr0 (some (vI r)) L σ) = _; rw [h1]; rfl) (by show (f_X12_told L σ 37 x y).bind (fun r => kr0 (some (vI r)) L σ) = _; rw [h2]; rfl) h0 (by omega) (by omega)
theorem oc_line (hI : IV L σ) (hW : WT L σ) (hK : KD L) (x y : Int32) : OPC G l L σ 89 173 [x, y] := by
  have h0 := hI
  obtain ⟨_, _, _, _, _, _, _, _, _, _, h⟩ := hI
  obtain ⟨v, σ1, σ2, h1, h2, h3⟩ := op_line h x y
  have h2 : f_X12_line L σ1 37 x y = some (v, σ2) := h2
  exact opc_of (ca_X11_line G l (by omega)) (ca_X12_line G l (by omega)) hW hK (by show (f_X11_line L σ 0 x y).bind (fun r => kr0 (some (vI r.1)) L r.2) = _; rw [h1]; rfl) (by show (f_X12_line L σ1 37 x y).bind (fun r => kr0 (some (vI r.1)) L r.2) = _; rw [h2]; rfl) h3 (by omega) (by omega)
theorem oc_roll (hI : IV L σ) (hW : WT L σ) (hK : KD L) (x y : Int32) : OPC G l L σ 106 198 [x, y] := by
  have h0 := hI
  obtain ⟨_, _, _, _, _, _, _, _, _, _, h⟩ := hI
  obtain ⟨v, σ1, σ2, h1, h2, h3⟩ := op_roll h x y
  have h2 : f_X12_roll L σ1 37 x y = some (v, σ2) := h2
  exact opc_of (ca_X11_roll G l (by omega)) (ca_X12_roll G l (by omega)) hW hK (by show (f_X11_roll L σ 0 x y).bind (fun r => kr0 (some (vI r.1)) L r.2) = _; rw [h1]; rfl) (by show (f_X12_roll L σ1 37 x y).bind (fun r => kr0 (some (vI r.1)) L r.2) = _; rw [h2]; rfl) h3 (by omega) (by omega)
theorem oc_wipe (hI : IV L σ) (hW : WT L σ) (hK : KD L) : OPC G l L σ 118 215 [] := by
  have h0 := hI
  obtain ⟨_, _, _, _, _, _, _, _, _, _, h⟩ := hI
  obtain ⟨v, σ1, σ2, h1, h2, h3⟩ := op_wipe h
  have h2 : f_X12_wipe L σ1 37 = some (v, σ2) := h2
  exact opc_of (ca_X11_wipe G l (by omega)) (ca_X12_wipe G l (by omega)) hW hK (by show (f_X11_wipe L σ 0).bind (fun r => kr0 (some (vI r.1)) L r.2) = _; rw [h1]; rfl) (by show (f_X12_wipe L σ1 37).bind (fun r => kr0 (some (vI r.1)) L r.2) = _; rw [h2]; rfl) h3 (by omega) (by omega)
theorem oc_joined (hI : IV L σ) (hW : WT L σ) (hK : KD L) (x : Int32) : OPC G l L σ 84 166 [x] := by
  have h0 := hI
  obtain ⟨_, _, _, _, _, _, _, _, _, _, h⟩ := hI
  obtain ⟨v, σ1, σ2, h1, h2, h3⟩ := op_joined h x
  have h2 : f_X12_joined L σ1 37 x = some (v, σ2) := h2
  exact opc_of (ca_X11_joined G l (by omega)) (ca_X12_joined G l (by omega)) hW hK (by show (f_X11_joined L σ 0 x).bind (fun r => kr0 (some (vI r.1)) L r.2) = _; rw [h1]; rfl) (by show (f_X12_joined L σ1 37 x).bind (fun r => kr0 (some (vI r.1)) L r.2) = _; rw [h2]; rfl) h3 (by omega) (by omega)
theorem oc_rolls (hI : IV L σ) (hW : WT L σ) (hK : KD L) (x y : Int32) : OPC G l L σ 107 199 [x, y] := by
  have h0 := hI
  obtain ⟨_, _, _, _, _, _, _, _, _, _, h⟩ := hI
  obtain ⟨v, σ1, σ2, h1, h2, h3⟩ := op_rolls h x y
  have h2 : f_X12_rolls L σ1 37 x y = some (v, σ2) := h2
  exact opc_of (ca_X11_rolls G l (by omega)) (ca_X12_rolls G l (by omega)) hW hK (by show (f_X11_rolls L σ 0 x y).bind (fun r => kr0 (some (vI r.1)) L r.2) = _; rw [h1]; rfl) (by show (f_X12_rolls L σ1 37 x y).bind (fun r => kr0 (some (vI r.1)) L r.2) = _; rw [h2]; rfl) h3 (by omega) (by omega)
theorem oc_days (hI : IV L σ) (hW : WT L σ) (hK : KD L) (x : Int32) : OPC G l L σ 70 137 [x] := by
  have h0 := hI
  obtain ⟨_, _, _, _, _, _, _, _, _, _, h⟩ := hI
  obtain ⟨v, σ1, σ2, h1, h2, h3⟩ := op_days h x
  have h2 : f_X12_days L σ1 37 x = some (v, σ2) := h2
  exact opc_of (ca_X11_days G l (by omega)) (ca_X12_days G l (by omega)) hW hK (by show (f_X11_days L σ 0 x).bind (fun r => kr0 (some (vI r.1)) L r.2) = _; rw [h1]; rfl) (by show (f_X12_days L σ1 37 x).bind (fun r => kr0 (some (vI r.1)) L r.2) = _; rw [h2]; rfl) h3 (by omega) (by omega)
theorem oc_open (hI : IV L σ) (hW : WT L σ) (hK : KD L) (x : Int32) : OPC G l L σ 101 189 [x] := by
  have h0 := hI
  obtain ⟨_, _, _, _, _, _, _, _, _, _, h⟩ := hI
  obtain ⟨v, L1, σ1, σ2, h1, h2, h3, h4, h5⟩ := op_open h x
  have h2 : f_X12_open L1 σ1 37 x = some (v, σ2) := h2
  exact opc_of (ca_X11_open G l (by omega)) (ca_X12_open G l (by omega)) hW hK (by show (f_X11_open L σ 0 x).bind (fun r => kr0 (some (vI r.1)) r.2.1 r.2.2) = _; rw [h1]; rfl) (by show (f_X12_open L1 σ1 37 x).bind (fun r => kr0 (some (vI r.1)) L1 r.2) = _; rw [h2]; rfl) h3 h4 h5
theorem oc_send (hI : IV L σ) (hW : WT L σ) (hK : KD L) (x y : Int32) : OPC G l L σ 110 203 [x, y] := by
  have h0 := hI
  obtain ⟨_, _, _, _, _, _, _, _, _, _, h⟩ := hI
  obtain ⟨v, σ1, σ2, h1, h2, h3⟩ := op_send h x y
  have h2 : f_X12_send L σ1 37 x y = some (v, σ2) := h2
  exact opc_of (ca_X11_send G l (by omega)) (ca_X12_send G l (by omega)) hW hK (by show (f_X11_send L σ 0 x y).bind (fun r => kr0 (some (vI r.1)) L r.2) = _; rw [h1]; rfl) (by show (f_X12_send L σ1 37 x y).bind (fun r => kr0 (some (vI r.1)) L r.2) = _; rw [h2]; rfl) h3 (by omega) (by omega)
theorem oc_sendAll (hI : IV L σ) (hW : WT L σ) (hK : KD L) (x : Int32) : OPC G l L σ 111 204 [x] := by
  have h0 := hI
  obtain ⟨_, _, _, _, _, _, _, _, _, _, h⟩ := hI
  obtain ⟨v, σ1, σ2, h1, h2, h3⟩ := op_sendAll h x
  have h2 : f_X12_sendAll L σ1 37 x = some (v, σ2) := h2
  exact opc_of (ca_X11_sendAll G l (by omega)) (ca_X12_sendAll G l (by omega)) hW hK (by show (f_X11_sendAll L σ 0 x).bind (fun r => kr0 (some (vI r.1)) L r.2) = _; rw [h1]; rfl) (by show (f_X12_sendAll L σ1 37 x).bind (fun r => kr0 (some (vI r.1)) L r.2) = _; rw [h2]; rfl) h3 (by omega) (by omega)
theorem oc_back (hI : IV L σ) (hW : WT L σ) (hK : KD L) (x y z : Int32) : OPC G l L σ 60 123 [x, y, z] := by
  have h0 := hI
  obtain ⟨_, _, _, _, _, _, _, _, _, _, h⟩ := hI
  obtain ⟨v, σ1, σ2, h1, h2, h3⟩ := op_back h x y z
  have h2 : f_X12_back L σ1 37 x y z = some (v, σ2) := h2
  exact opc_of (ca_X11_back G l (by omega)) (ca_X12_back G l (by omega)) hW hK (by show (f_X11_back L σ 0 x y z).bind (fun r => kr0 (some (vI r.1)) L r.2) = _; rw [h1]; rfl) (by show (f_X12_back L σ1 37 x y z).bind (fun r => kr0 (some (vI r.1)) L r.2) = _; rw [h2]; rfl) h3 (by omega) (by omega)
theorem oc_close (hI : IV L σ) (hW : WT L σ) (hK : KD L) (x : Int32) : OPC G l L σ 64 130 [x] := by
  have h0 := hI
  obtain ⟨_, _, _, _, _, _, _, _, _, _, h⟩ := hI
  obtain ⟨v, σ1, σ2, h1, h2, h3⟩ := op_close h x
  have h2 : f_X12_close L σ1 37 x = some (v, σ2) := h2
  exact opc_of (ca_X11_close G l (by omega)) (ca_X12_close G l (by omega)) hW hK (by show (f_X11_close L σ 0 x).bind (fun r => kr0 (some (vI r.1)) L r.2) = _; rw [h1]; rfl) (by show (f_X12_close L σ1 37 x).bind (fun r => kr0 (some (vI r.1)) L r.2) = _; rw [h2]; rfl) h3 (by omega) (by omega)
theorem oc_name (hI : IV L σ) (hW : WT L σ) (hK : KD L) (x y z : Int32) : OPC G l L σ 95 180 [x, y, z] := by
  have h0 := hI
  obtain ⟨_, _, _, _, _, _, _, _, _, _, h⟩ := hI
  obtain ⟨v, σ1, σ2, h1, h2, h3⟩ := op_name h x y z
  have h2 : f_X12_name L σ1 37 x y z = some (v, σ2) := h2
  exact opc_of (ca_X11_name G l (by omega)) (ca_X12_name G l (by omega)) hW hK (by show (f_X11_name L σ 0 x y z).bind (fun r => kr0 (some (vI r.1)) L r.2) = _; rw [h1]; rfl) (by show (f_X12_name L σ1 37 x y z).bind (fun r => kr0 (some (vI r.1)) L r.2) = _; rw [h2]; rfl) h3 (by omega) (by omega)
theorem oc_about (hI : IV L σ) (hW : WT L σ) (hK : KD L) (x y : Int32) : OPC G l L σ 59 119 [x, y] := by
  have h0 := hI
  obtain ⟨_, _, _, _, _, _, _, _, _, _, h⟩ := hI
  obtain ⟨v, h1, h2⟩ := op_about h x y
  exact opc_of (ca_X11_about G l (by omega)) (ca_X12_about G l (by omega)) hW hK (by show (f_X11_about L σ 0 x y).bind (fun r => kr0 (some (vI r)) L σ) = _; rw [h1]; rfl) (by show (f_X12_about L σ 37 x y).bind (fun r => kr0 (some (vI r)) L σ) = _; rw [h2]; rfl) h0 (by omega) (by omega)
theorem oc_parcels (hI : IV L σ) (hW : WT L σ) (hK : KD L) (x : Int32) : OPC G l L σ 103 193 [x] := by
  have h0 := hI
  obtain ⟨_, _, _, _, _, _, _, _, _, _, h⟩ := hI
  obtain ⟨v, σ1, σ2, h1, h2, h3⟩ := op_parcels h x
  have h2 : f_X12_parcels L σ1 37 x = some (v, σ2) := h2
  exact opc_of (ca_X11_parcels G l (by omega)) (ca_X12_parcels G l (by omega)) hW hK (by show (f_X11_parcels L σ 0 x).bind (fun r => kr0 (some (vI r.1)) L r.2) = _; rw [h1]; rfl) (by show (f_X12_parcels L σ1 37 x).bind (fun r => kr0 (some (vI r.1)) L r.2) = _; rw [h2]; rfl) h3 (by omega) (by omega)
theorem oc_parcel (hI : IV L σ) (hW : WT L σ) (hK : KD L) (x y z : Int32) : OPC G l L σ 102 192 [x, y, z] := by
  have h0 := hI
  obtain ⟨_, _, _, _, _, _, _, _, _, _, h⟩ := hI
  obtain ⟨v, σ1, σ2, h1, h2, h3⟩ := op_parcel h x y z
  have h2 : f_X12_parcel L σ1 37 x y z = some (v, σ2) := h2
  exact opc_of (ca_X11_parcel G l (by omega)) (ca_X12_parcel G l (by omega)) hW hK (by show (f_X11_parcel L σ 0 x y z).bind (fun r => kr0 (some (vI r.1)) L r.2) = _; rw [h1]; rfl) (by show (f_X12_parcel L σ1 37 x y z).bind (fun r => kr0 (some (vI r.1)) L r.2) = _; rw [h2]; rfl) h3 (by omega) (by omega)
theorem oc_feed (hI : IV L σ) (hW : WT L σ) (hK : KD L) (x y z : Int32) : OPC G l L σ 72 139 [x, y, z] := by
  have h0 := hI
  obtain ⟨_, _, _, _, _, _, _, _, _, _, h⟩ := hI
  obtain ⟨v, σ1, σ2, h1, h2, h3⟩ := op_feed h x y z
  have h2 : f_X12_feed L σ1 37 x y z = some (v, σ2) := h2
  exact opc_of (ca_X11_feed G l (by omega)) (ca_X12_feed G l (by omega)) hW hK (by show (f_X11_feed L σ 0 x y z).bind (fun r => kr0 (some (vI r.1)) L r.2) = _; rw [h1]; rfl) (by show (f_X12_feed L σ1 37 x y z).bind (fun r => kr0 (some (vI r.1)) L r.2) = _; rw [h2]; rfl) h3 (by omega) (by omega)
theorem oc_trim (hI : IV L σ) (hW : WT L σ) (hK : KD L) (x : Int32) : OPC G l L σ 117 214 [x] := by
  have h0 := hI
  obtain ⟨_, _, _, _, _, _, _, _, _, _, h⟩ := hI
  obtain ⟨v, σ1, σ2, h1, h2, h3⟩ := op_trim h x
  have h2 : f_X12_trim L σ1 37 x = some (v, σ2) := h2
  exact opc_of (ca_X11_trim G l (by omega)) (ca_X12_trim G l (by omega)) hW hK (by show (f_X11_trim L σ 0 x).bind (fun r => kr0 (some (vI r.1)) L r.2) = _; rw [h1]; rfl) (by show (f_X12_trim L σ1 37 x).bind (fun r => kr0 (some (vI r.1)) L r.2) = _; rw [h2]; rfl) h3 (by omega) (by omega)
theorem oc_law (hI : IV L σ) (hW : WT L σ) (hK : KD L) : OPC G l L σ 85 170 [] := by
  have h0 := hI
  obtain ⟨_, _, _, _, _, _, _, _, _, _, h⟩ := hI
  obtain ⟨v, σ1, σ2, h1, h2, h3⟩ := op_law h
  have h2 : f_X12_law L σ1 37 = some (v, σ2) := h2
  exact opc_of (ca_X11_law G l (by omega)) (ca_X12_law G l (by omega)) hW hK (by show (f_X11_law L σ 0).bind (fun r => kr0 (some (vI r.1)) L r.2) = _; rw [h1]; rfl) (by show (f_X12_law L σ1 37).bind (fun r => kr0 (some (vI r.1)) L r.2) = _; rw [h2]; rfl) h3 (by omega) (by omega)
theorem oc_says (hI : IV L σ) (hW : WT L σ) (hK : KD L) (x y z : Int32) : OPC G l L σ 109 201 [x, y, z] := by
  have h0 := hI
  obtain ⟨_, _, _, _, _, _, _, _, _, _, h⟩ := hI
  obtain ⟨v, σ1, σ2, h1, h2, h3⟩ := op_says h x y z
  have h2 : f_X12_says L σ1 37 x y z = some (v, σ2) := h2
  exact opc_of (ca_X11_says G l (by omega)) (ca_X12_says G l (by omega)) hW hK (by show (f_X11_says L σ 0 x y z).bind (fun r => kr0 (some (vI r.1)) L r.2) = _; rw [h1]; rfl) (by show (f_X12_says L σ1 37 x y z).bind (fun r => kr0 (some (vI r.1)) L r.2) = _; rw [h2]; rfl) h3 (by omega) (by omega)
theorem oc_stands (hI : IV L σ) (hW : WT L σ) (hK : KD L) (x z : Int32) : OPC G l L σ 114 206 [x, z] := by
  have h0 := hI
  obtain ⟨_, _, _, _, _, _, _, _, _, _, h⟩ := hI
  obtain ⟨v, σ1, σ2, h1, h2, h3⟩ := op_stands h x z
  have h2 : f_X12_stands L σ1 37 x z = some (v, σ2) := h2
  exact opc_of (ca_X11_stands G l (by omega)) (ca_X12_stands G l (by omega)) hW hK (by show (f_X11_stands L σ 0 x z).bind (fun r => kr0 (some (vI r.1)) L r.2) = _; rw [h1]; rfl) (by show (f_X12_stands L σ1 37 x z).bind (fun r => kr0 (some (vI r.1)) L r.2) = _; rw [h2]; rfl) h3 (by omega) (by omega)
theorem oc_lives (hI : IV L σ) (hW : WT L σ) (hK : KD L) (x z : Int32) : OPC G l L σ 90 174 [x, z] := by
  have h0 := hI
  obtain ⟨_, _, _, _, _, _, _, _, _, _, h⟩ := hI
  obtain ⟨v, σ1, σ2, h1, h2, h3⟩ := op_lives h x z
  have h2 : f_X12_lives L σ1 37 x z = some (v, σ2) := h2
  exact opc_of (ca_X11_lives G l (by omega)) (ca_X12_lives G l (by omega)) hW hK (by show (f_X11_lives L σ 0 x z).bind (fun r => kr0 (some (vI r.1)) L r.2) = _; rw [h1]; rfl) (by show (f_X12_lives L σ1 37 x z).bind (fun r => kr0 (some (vI r.1)) L r.2) = _; rw [h2]; rfl) h3 (by omega) (by omega)
theorem oc_cure (hI : IV L σ) (hW : WT L σ) (hK : KD L) (x : Int32) : OPC G l L σ 68 135 [x] := by
  have h0 := hI
  obtain ⟨_, _, _, _, _, _, _, _, _, _, h⟩ := hI
  obtain ⟨v, σ1, σ2, h1, h2, h3⟩ := op_cure h x
  have h2 : f_X12_cure L σ1 37 x = some (v, σ2) := h2
  exact opc_of (ca_X11_cure G l (by omega)) (ca_X12_cure G l (by omega)) hW hK (by show (f_X11_cure L σ 0 x).bind (fun r => kr0 (some (vI r.1)) L r.2) = _; rw [h1]; rfl) (by show (f_X12_cure L σ1 37 x).bind (fun r => kr0 (some (vI r.1)) L r.2) = _; rw [h2]; rfl) h3 (by omega) (by omega)
theorem oc_notice (hI : IV L σ) (hW : WT L σ) (hK : KD L) (x y z u : Int32) : OPC G l L σ 96 183 [x, y, z, u] := by
  have h0 := hI
  obtain ⟨_, _, _, _, _, _, _, _, _, _, h⟩ := hI
  obtain ⟨v, L1, σ1, σ2, h1, h2, h3, h4, h5⟩ := op_notice h x y z u
  have h2 : f_X12_notice L1 σ1 37 x y z u = some (v, σ2) := h2
  exact opc_of (ca_X11_notice G l (by omega)) (ca_X12_notice G l (by omega)) hW hK (by show (f_X11_notice L σ 0 x y z u).bind (fun r => kr0 (some (vI r.1)) r.2.1 r.2.2) = _; rw [h1]; rfl) (by show (f_X12_notice L1 σ1 37 x y z u).bind (fun r => kr0 (some (vI r.1)) L1 r.2) = _; rw [h2]; rfl) h3 h4 h5
theorem oc_noticed (hI : IV L σ) (hW : WT L σ) (hK : KD L) (x y : Int32) : OPC G l L σ 98 184 [x, y] := by
  have h0 := hI
  obtain ⟨_, _, _, _, _, _, _, _, _, _, h⟩ := hI
  obtain ⟨v, h1, h2⟩ := op_noticed h x y
  exact opc_of (ca_X11_noticed G l (by omega)) (ca_X12_noticed G l (by omega)) hW hK (by show (f_X11_noticed L σ 0 x y).bind (fun r => kr0 (some (vI r)) L σ) = _; rw [h1]; rfl) (by show (f_X12_noticed L σ 37 x y).bind (fun r => kr0 (some (vI r)) L σ) = _; rw [h2]; rfl) h0 (by omega) (by omega)
theorem oc_holds (hI : IV L σ) (hW : WT L σ) (hK : KD L) (x : Int32) : OPC G l L σ 74 146 [x] := by
  have h0 := hI
  obtain ⟨_, _, _, _, _, _, _, _, _, _, h⟩ := hI
  obtain ⟨v, σ1, σ2, h1, h2, h3⟩ := op_holds h x
  have h2 : f_X12_holds L σ1 37 x = some (v, σ2) := h2
  exact opc_of (ca_X11_holds G l (by omega)) (ca_X12_holds G l (by omega)) hW hK (by show (f_X11_holds L σ 0 x).bind (fun r => kr0 (some (vI r.1)) L r.2) = _; rw [h1]; rfl) (by show (f_X12_holds L σ1 37 x).bind (fun r => kr0 (some (vI r.1)) L r.2) = _; rw [h2]; rfl) h3 (by omega) (by omega)
theorem oc_harm (hI : IV L σ) (hW : WT L σ) (hK : KD L) (x y : Int32) : OPC G l L σ 73 143 [x, y] := by
  have h0 := hI
  obtain ⟨_, _, _, _, _, _, _, _, _, _, h⟩ := hI
  obtain ⟨v, σ1, σ2, h1, h2, h3⟩ := op_harm h x y
  have h2 : f_X12_harm L σ1 37 x y = some (v, σ2) := h2
  exact opc_of (ca_X11_harm G l (by omega)) (ca_X12_harm G l (by omega)) hW hK (by show (f_X11_harm L σ 0 x y).bind (fun r => kr0 (some (vI r.1)) L r.2) = _; rw [h1]; rfl) (by show (f_X12_harm L σ1 37 x y).bind (fun r => kr0 (some (vI r.1)) L r.2) = _; rw [h2]; rfl) h3 (by omega) (by omega)
theorem oc_lay (hI : IV L σ) (hW : WT L σ) (hK : KD L) (x : Int32) : OPC G l L σ 87 171 [x] := by
  have h0 := hI
  obtain ⟨_, _, _, _, _, _, _, _, _, _, h⟩ := hI
  obtain ⟨v, σ1, σ2, h1, h2, h3⟩ := op_lay h x
  have h2 : f_X12_lay L σ1 37 x = some (v, σ2) := h2
  exact opc_of (ca_X11_lay G l (by omega)) (ca_X12_lay G l (by omega)) hW hK (by show (f_X11_lay L σ 0 x).bind (fun r => kr0 (some (vI r.1)) L r.2) = _; rw [h1]; rfl) (by show (f_X12_lay L σ1 37 x).bind (fun r => kr0 (some (vI r.1)) L r.2) = _; rw [h2]; rfl) h3 (by omega) (by omega)
theorem oc_rule (hI : IV L σ) (hW : WT L σ) (hK : KD L) (x y : Int32) : OPC G l L σ 108 200 [x, y] := by
  have h0 := hI
  obtain ⟨_, _, _, _, _, _, _, _, _, _, h⟩ := hI
  obtain ⟨v, σ1, σ2, h1, h2, h3⟩ := op_rule h x y
  have h2 : f_X12_rule L σ1 37 x y = some (v, σ2) := h2
  exact opc_of (ca_X11_rule G l (by omega)) (ca_X12_rule G l (by omega)) hW hK (by show (f_X11_rule L σ 0 x y).bind (fun r => kr0 (some (vI r.1)) L r.2) = _; rw [h1]; rfl) (by show (f_X12_rule L σ1 37 x y).bind (fun r => kr0 (some (vI r.1)) L r.2) = _; rw [h2]; rfl) h3 (by omega) (by omega)
theorem oc_plan (hI : IV L σ) (hW : WT L σ) (hK : KD L) (x y : Int32) : OPC G l L σ 104 195 [x, y] := by
  have h0 := hI
  obtain ⟨_, _, _, _, _, _, _, _, _, _, h⟩ := hI
  obtain ⟨v, σ1, h1, h2, h3⟩ := op_plan h x y
  have h2 : f_X12_plan L σ1 37 x y = some v := h2
  exact opc_of (ca_X11_plan G l (by omega)) (ca_X12_plan G l (by omega)) hW hK (by show (f_X11_plan L σ 0 x y).bind (fun r => kr0 (some (vI r.1)) L r.2) = _; rw [h1]; rfl) (by show (f_X12_plan L σ1 37 x y).bind (fun r => kr0 (some (vI r)) L σ1) = _; rw [h2]; rfl) h3 (by omega) (by omega)
theorem oc_planned (hI : IV L σ) (hW : WT L σ) (hK : KD L) (x y : Int32) : OPC G l L σ 105 196 [x, y] := by
  have h0 := hI
  obtain ⟨_, _, _, _, _, _, _, _, _, _, h⟩ := hI
  obtain ⟨v, σ1, h1, h2, h3⟩ := op_planned h x y
  have h2 : f_X12_planned L σ1 37 x y = some v := h2
  exact opc_of (ca_X11_planned G l (by omega)) (ca_X12_planned G l (by omega)) hW hK (by show (f_X11_planned L σ 0 x y).bind (fun r => kr0 (some (vI r.1)) L r.2) = _; rw [h1]; rfl) (by show (f_X12_planned L σ1 37 x y).bind (fun r => kr0 (some (vI r)) L σ1) = _; rw [h2]; rfl) h3 (by omega) (by omega)
theorem oc_cost (hI : IV L σ) (hW : WT L σ) (hK : KD L) (x : Int32) : OPC G l L σ 66 132 [x] := by
  have h0 := hI
  obtain ⟨_, _, _, _, _, _, _, _, _, _, h⟩ := hI
  obtain ⟨v, h1, h2⟩ := op_cost h x
  exact opc_of (ca_X11_cost G l (by omega)) (ca_X12_cost G l (by omega)) hW hK (by show (f_X11_cost L σ 0 x).bind (fun r => kr0 (some (vI r)) L σ) = _; rw [h1]; rfl) (by show (f_X12_cost L σ 37 x).bind (fun r => kr0 (some (vI r)) L σ) = _; rw [h2]; rfl) h0 (by omega) (by omega)
theorem oc_tell (hI : IV L σ) (hW : WT L σ) (hK : KD L) (x : Int32) : OPC G l L σ 115 210 [x] := by
  have h0 := hI
  obtain ⟨_, _, _, _, _, _, _, _, _, _, h⟩ := hI
  obtain ⟨v, σ1, σ2, h1, h2, h3⟩ := op_tell h x
  have h2 : f_X12_tell L σ1 37 x = some (v, σ2) := h2
  exact opc_of (ca_X11_tell G l (by omega)) (ca_X12_tell G l (by omega)) hW hK (by show (f_X11_tell L σ 0 x).bind (fun r => kr0 (some (vI r.1)) L r.2) = _; rw [h1]; rfl) (by show (f_X12_tell L σ1 37 x).bind (fun r => kr0 (some (vI r.1)) L r.2) = _; rw [h2]; rfl) h3 (by omega) (by omega)
theorem oc_check (hI : IV L σ) (hW : WT L σ) (hK : KD L) (x y : Int32) : OPC G l L σ 63 129 [x, y] := by
  have h0 := hI
  obtain ⟨_, _, _, _, _, _, _, _, _, _, h⟩ := hI
  obtain ⟨v, σ1, σ2, h1, h2, h3⟩ := op_check h x y
  have h2 : f_X12_check L σ1 37 x y = some (v, σ2) := h2
  exact opc_of (ca_X11_check G l (by omega)) (ca_X12_check G l (by omega)) hW hK (by show (f_X11_check L σ 0 x y).bind (fun r => kr0 (some (vI r.1)) L r.2) = _; rw [h1]; rfl) (by show (f_X12_check L σ1 37 x y).bind (fun r => kr0 (some (vI r.1)) L r.2) = _; rw [h2]; rfl) h3 (by omega) (by omega)
theorem oc_docked (hI : IV L σ) (hW : WT L σ) (hK : KD L) (x y : Int32) : OPC G l L σ 71 138 [x, y] := by
  have h0 := hI
  obtain ⟨_, _, _, _, _, _, _, _, _, _, h⟩ := hI
  obtain ⟨v, h1, h2⟩ := op_docked h x y
  exact opc_of (ca_X11_docked G l (by omega)) (ca_X12_docked G l (by omega)) hW hK (by show (f_X11_docked L σ 0 x y).bind (fun r => kr0 (some (vI r)) L σ) = _; rw [h1]; rfl) (by show (f_X12_docked L σ 37 x y).bind (fun r => kr0 (some (vI r)) L σ) = _; rw [h2]; rfl) h0 (by omega) (by omega)
theorem oc_sheet (hI : IV L σ) (hW : WT L σ) (hK : KD L) (x y : Int32) : OPC G l L σ 112 205 [x, y] := by
  have h0 := hI
  obtain ⟨_, _, _, _, _, _, _, _, _, _, h⟩ := hI
  obtain ⟨v, σ1, σ2, h1, h2, h3⟩ := op_sheet h x y
  have h2 : f_X12_sheet L σ1 37 x y = some (v, σ2) := h2
  exact opc_of (ca_X11_sheet G l (by omega)) (ca_X12_sheet G l (by omega)) hW hK (by show (f_X11_sheet L σ 0 x y).bind (fun r => kr0 (some (vI r.1)) L r.2) = _; rw [h1]; rfl) (by show (f_X12_sheet L σ1 37 x y).bind (fun r => kr0 (some (vI r.1)) L r.2) = _; rw [h2]; rfl) h3 (by omega) (by omega)
theorem oc_mark (hI : IV L σ) (hW : WT L σ) (hK : KD L) (x y z : Int32) : OPC G l L σ 92 177 [x, y, z] := by
  have h0 := hI
  obtain ⟨_, _, _, _, _, _, _, _, _, _, h⟩ := hI
  obtain ⟨v, σ1, σ2, h1, h2, h3⟩ := op_mark h x y z
  have h2 : f_X12_mark L σ1 37 x y z = some (v, σ2) := h2
  exact opc_of (ca_X11_mark G l (by omega)) (ca_X12_mark G l (by omega)) hW hK (by show (f_X11_mark L σ 0 x y z).bind (fun r => kr0 (some (vI r.1)) L r.2) = _; rw [h1]; rfl) (by show (f_X12_mark L σ1 37 x y z).bind (fun r => kr0 (some (vI r.1)) L r.2) = _; rw [h2]; rfl) h3 (by omega) (by omega)
theorem oc_copy (hI : IV L σ) (hW : WT L σ) (hK : KD L) (x p y q m : Int32) : OPC G l L σ 65 131 [x, p, y, q, m] := by
  have h0 := hI
  obtain ⟨_, _, _, _, _, _, _, _, _, _, h⟩ := hI
  obtain ⟨v, σ1, σ2, h1, h2, h3⟩ := op_copy h x p y q m
  have h2 : f_X12_copy L σ1 37 x p y q m = some (v, σ2) := h2
  exact opc_of (ca_X11_copy G l (by omega)) (ca_X12_copy G l (by omega)) hW hK (by show (f_X11_copy L σ 0 x p y q m).bind (fun r => kr0 (some (vI r.1)) L r.2) = _; rw [h1]; rfl) (by show (f_X12_copy L σ1 37 x p y q m).bind (fun r => kr0 (some (vI r.1)) L r.2) = _; rw [h2]; rfl) h3 (by omega) (by omega)
theorem oc_count (hI : IV L σ) (hW : WT L σ) (hK : KD L) (x : Int32) : OPC G l L σ 67 134 [x] := by
  have h0 := hI
  obtain ⟨_, _, _, _, _, _, _, _, _, _, h⟩ := hI
  obtain ⟨v, h1, h2⟩ := op_count h x
  exact opc_of (ca_X11_count G l (by omega)) (ca_X12_count G l (by omega)) hW hK (by show (f_X11_count L σ 0 x).bind (fun r => kr0 (some (vI r)) L σ) = _; rw [h1]; rfl) (by show (f_X12_count L σ 37 x).bind (fun r => kr0 (some (vI r)) L σ) = _; rw [h2]; rfl) h0 (by omega) (by omega)
end
