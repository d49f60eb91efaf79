/-! steps and what they give -/
theorem lvl_c {c : Int32} (h : ¬ lvl c = 9) : c = 38 ∨ c = 42 ∨ c = 43 ∨ c = 45 ∨ c = 47 ∨ c = 60 ∨ c = 61 ∨ c = 62 ∨ c = 124 := by
  apply Classical.byContradiction
  intro g
  simp only [not_or] at g
  apply h
  unfold lvl
  simp only [g, if_false]
theorem nmo_c {c : Int32} {pt : Bool} (h : nmo pt c = true) : c = 101 ∨ c = 112 ∨ c = 109 ∨ c = 120 ∨ c = 98 ∨ c = 114 ∨ c = 121 ∨ c = 110 ∨ c = 118 ∨ c = 100 ∨ c = 97 ∨ c = 108 ∨ c = 99 := by
  unfold nmo nmB nmN at h
  simp only [Bool.or_eq_true, Bool.and_eq_true, beq_iff_eq] at h
  rcases h with h | ⟨-, h⟩
  · rcases h with (((((((((h | h) | h) | h) | h) | h) | h) | h) | h) | h) <;> simp [h]
  · rcases h with ((h | h) | h) <;> simp [h]
/-- steps that can be -/
def CW (x : Int32) : Prop := (∃ m, m < 10000 ∧ x = nI m) ∨ (∃ c, nmo true c = true ∧ x = 10000 + c) ∨ (∃ c, (c = 33 ∨ ¬ lvl c = 9) ∧ x = -c)
theorem evs_app (K : Int32 → Int32) : ∀ (a b st : List Int32), evs K (a ++ b) st = evs K b (evs K a st)
  | [], _, _ => rfl
  | x :: a, b, st => evs_app K a b _
theorem ev_num (K : Int32 → Int32) {m : Nat} (h : m < 10000) (st : List Int32) : evs K [nI m] st = nI m :: st := by
  show (if nI m < 10000 then _ else _) = _
  rw [if_pos (show nI m < 10000 from (nI_ltI (b := 10000) (by omega) (by omega)).mpr h), if_neg (nI_pos (by omega))]
theorem ev_nam (K : Int32 → Int32) {c : Int32} (h : nmo true c = true) (st : List Int32) : evs K [10000 + c] st = K c :: st := by
  show (if 10000 + c < 10000 then _ else K (10000 + c - 10000) :: st) = _
  have : ¬ 10000 + c < 10000 ∧ 10000 + c - 10000 = c := by
    rcases nmo_c h with z | z | z | z | z | z | z | z | z | z | z | z | z <;> subst z <;> decide
  rw [if_neg this.1, this.2]
theorem ev_not (K : Int32 → Int32) (v : Int32) (st : List Int32) : evs K [-33] (v :: st) = b3 (v = 0) :: st := by
  have z1 : (-33 : Int32) < 10000 := by decide
  have z2 : (-33 : Int32) < 0 := by decide
  simp only [evs, z1, z2, if_true, List.headD_cons, List.tail_cons]
  rfl
theorem ev_op (K : Int32 → Int32) {c : Int32} (h : ¬ lvl c = 9) (a b : Int32) (st : List Int32) : evs K [-c] (b :: a :: st) = ap2 c a b :: st := by
  have : -c < 10000 ∧ -c < 0 ∧ ¬ -c = -33 ∧ -(-c) = c := by
    rcases lvl_c h with z | z | z | z | z | z | z | z | z <;> subst z <;> decide
  simp only [evs, this, if_true, if_false, List.headD_cons, List.tail_cons]
theorem wf_num {m : Nat} (h : m < 10000) : WFc [nI m] ∧ ∀ K, evc K [nI m] = nI m := by
  have e : ∀ K, evc K [nI m] = nI m := fun K => by unfold evc; rw [ev_num K h]; rfl
  exact ⟨fun K st => by rw [e, ev_num K h], e⟩
theorem wf_nam {c : Int32} (h : nmo true c = true) : WFc [10000 + c] ∧ ∀ K, evc K [10000 + c] = K c := by
  have e : ∀ K, evc K [10000 + c] = K c := fun K => by unfold evc; rw [ev_nam K h]; rfl
  exact ⟨fun K st => by rw [e, ev_nam K h], e⟩
theorem wf_not {c : List Int32} (h : WFc c) : WFc (c ++ [-33]) ∧ ∀ K, evc K (c ++ [-33]) = b3 (evc K c = 0) := by
  have f : ∀ K st, evs K (c ++ [-33]) st = b3 (evc K c = 0) :: st := fun K st => by rw [evs_app, h K st, ev_not]
  have e : ∀ K, evc K (c ++ [-33]) = b3 (evc K c = 0) := fun K => by unfold evc; rw [f K]; rfl
  exact ⟨fun K st => by rw [e, f], e⟩
theorem wf_op {a b : List Int32} {c : Int32} (ha : WFc a) (hb : WFc b) (hc : ¬ lvl c = 9) : WFc (a ++ b ++ [-c]) ∧ ∀ K, evc K (a ++ b ++ [-c]) = ap2 c (evc K a) (evc K b) := by
  have f : ∀ K st, evs K (a ++ b ++ [-c]) st = ap2 c (evc K a) (evc K b) :: st := fun K st => by rw [evs_app, evs_app, ha K st, hb K, ev_op K hc]
  have e : ∀ K, evc K (a ++ b ++ [-c]) = ap2 c (evc K a) (evc K b) := fun K => by unfold evc; rw [f K]; rfl
  exact ⟨fun K st => by rw [e, f], e⟩
/-! numbers of tokens -/
theorem rns_all {t : Nat → Int32} {n s : Nat} : ∀ f p i, p ≤ i → i < rns t n s f p → srt t n i = s
  | 0, p, i, h1, h2 => absurd (Nat.lt_of_le_of_lt h1 h2) (Nat.lt_irrefl _)
  | f + 1, p, i, h1, h2 => by
    rw [show rns t n s (f + 1) p = if srt t n p = s then rns t n s f (p + 1) else p from rfl] at h2
    by_cases q : srt t n p = s
    · rw [if_pos q] at h2
      by_cases z : i = p
      · rw [z]; exact q
      · exact rns_all f (p + 1) i (by omega) h2
    · rw [if_neg q] at h2
      omega
theorem tok_all {t : Nat → Int32} {n : Nat} {s : TS} (h : TK t n s) (hr : row s.2.2 = true) (h3 : s.2.2 ≤ 3) {i : Nat} (h1 : s.1 ≤ i) (h2 : i < s.2.1) : srt t n i = s.2.2 := by
  have e := h.2 h3
  have e1 : s.2.1 = tke t n s.1 (srt t n s.1) := congrArg (fun x : TS => x.2.1) e
  have e2 : s.2.2 = srt t n s.1 := congrArg (fun x : TS => x.2.2) e
  rw [e1, ← e2] at h2
  unfold tke at h2
  rw [if_pos hr] at h2
  exact rns_all 109 s.1 i h1 h2
theorem srt_f {t : Nat → Int32} {n i : Nat} (h : srt t n i = 2) : ∃ d, 48 ≤ d ∧ d ≤ 57 ∧ t i = nI d := by
  have hi := srt_in (t := t) (n := n) (fr := i) (by omega)
  have := srt_2.mp h
  rw [if_pos hi] at this
  obtain ⟨d, h1, h2⟩ := of_le (n := 57) ⟨Int32.le_trans (by decide) this.1, this.2⟩ (by omega)
  rw [h2] at this
  exact ⟨d, (nI_leI (a := 48) (by omega) (by omega)).mp this.1, h1, h2⟩
theorem srt_l {t : Nat → Int32} {n i : Nat} (h : srt t n i = 1) : ∃ d, 97 ≤ d ∧ d ≤ 122 ∧ t i = nI d := by
  have hi := srt_in (t := t) (n := n) (fr := i) (by omega)
  have := srt_1.mp h
  rw [if_pos hi] at this
  obtain ⟨d, h1, h2⟩ := of_le (n := 122) ⟨Int32.le_trans (by decide) this.1, this.2⟩ (by omega)
  rw [h2] at this
  exact ⟨d, (nI_leI (a := 97) (by omega) (by omega)).mp this.1, h1, h2⟩
theorem num_b {t : Nat → Int32} {fr : Nat} : ∀ k, (∀ i, i < k → ∃ d, 48 ≤ d ∧ d ≤ 57 ∧ t (fr + i) = nI d) → ∃ m, m < 10 ^ k ∧ num t fr k = nI m
  | 0, _ => ⟨0, by decide, rfl⟩
  | k + 1, h => by
    obtain ⟨m, h1, h2⟩ := num_b k (fun i hi => h i (by omega))
    obtain ⟨d, d1, d2, d3⟩ := h k (by omega)
    refine ⟨10 * m + (d - 48), by rw [Nat.pow_succ]; omega, ?_⟩
    show num t fr k * 10 + t (fr + k) - 48 = _
    rw [h2, d3, Int32.mul_comm, mul_lit, nI_add, show (48 : Int32) = nI 48 from rfl, pk_sub (by show 48 ≤ 10 * m + d; omega)]
    congr 1
    show 10 * m + d - 48 = _
    omega
theorem tok_num {t : Nat → Int32} {n : Nat} {s : TS} (h : TK t n s) (h2 : s.2.2 = 2) (hl : s.2.1 - s.1 ≤ 4) : ∃ m, m < 10000 ∧ num t s.1 (s.2.1 - s.1) = nI m := by
  obtain ⟨m, a, b⟩ := num_b (t := t) (fr := s.1) (s.2.1 - s.1) (fun i hi => srt_f (t := t) (n := n) (by rw [tok_all h (by rw [h2]; rfl) (by omega) (by omega) (by omega), h2]))
  have : 10 ^ (s.2.1 - s.1) ≤ 10 ^ 4 := Nat.pow_le_pow_right (by omega) hl
  exact ⟨m, by omega, b⟩
/-! the reader goes on and writes steps that can be -/
def PP (t : Nat → Int32) (n : Nat) (s : TS) (r : PR) : Prop := TK t n r.2.2 ∧ s.1 + r.2.1.length ≤ r.2.2.1 ∧ (∀ x, x ∈ r.2.1 → CW x) ∧ (r.1 = true → WFc r.2.1)
theorem sgn_3 {t : Nat → Int32} {s : TS} {c : Int32} (h : sgn t s = c) (hc : ¬ c = 0) : s.2.2 = 3 := by
  unfold sgn at h
  by_cases q : s.2.2 = 3
  · exact q
  · rw [if_neg q] at h; exact absurd h.symm hc
theorem lvl_3 {t : Nat → Int32} {s : TS} {lv : Nat} (h : lvl (sgn t s) = lv) (hl : lv < 5) : s.2.2 = 3 ∧ ¬ lvl (sgn t s) = 9 := by
  refine ⟨sgn_3 (t := t) (c := sgn t s) rfl (fun z => ?_), by omega⟩
  rw [z, show lvl 0 = 9 from by decide] at h
  omega
theorem pp_go {t : Nat → Int32} {n : Nat} {s : TS} (h : TK t n s) (h0 : s.2.2 ≠ 0) (h3 : s.2.2 ≤ 3) : TK t n (nx t n s.2.1) ∧ s.1 + 1 ≤ (nx t n s.2.1).1 := by
  have g := tok_gt h h0 h3
  have := nx_ge (t := t) h.1.2.1
  exact ⟨nx_k h.1.2.1, by omega⟩
theorem lpl_pp {t : Nat → Int32} {n : Nat} {g : TS → PR} (hg : ∀ s, TK t n s → PP t n s (g s)) {lv : Nat} (hl : lv < 5) : ∀ f s r, PP t n s r → PP t n s (lpl t n g lv f r)
  | 0, _, _, h => h
  | f + 1, s, r, h => by
    rw [show lpl t n g lv (f + 1) r = if r.1 = true ∧ lvl (sgn t r.2.2) = lv then lpl t n g lv f ((g (nx t n r.2.2.2.1)).1, r.2.1 ++ (g (nx t n r.2.2.2.1)).2.1 ++ [-(sgn t r.2.2)], (g (nx t n r.2.2.2.1)).2.2) else r from rfl]
    by_cases q : r.1 = true ∧ lvl (sgn t r.2.2) = lv
    · rw [if_pos q]
      obtain ⟨l3, l9⟩ := lvl_3 q.2 hl
      obtain ⟨p1, p2, p3, p4⟩ := h
      obtain ⟨k1, k2⟩ := pp_go p1 (by omega) (by omega)
      obtain ⟨g1, g2, g3, g4⟩ := hg _ k1
      refine lpl_pp hg hl f s _ ⟨g1, ?_, ?_, ?_⟩
      · show s.1 + (r.2.1 ++ (g (nx t n r.2.2.2.1)).2.1 ++ [-(sgn t r.2.2)]).length ≤ (g (nx t n r.2.2.2.1)).2.2.1
        rw [List.length_append, List.length_append]
        show s.1 + (r.2.1.length + (g (nx t n r.2.2.2.1)).2.1.length + 1) ≤ _
        omega
      · intro x hx
        rcases List.mem_append.mp hx with hx | hx
        · rcases List.mem_append.mp hx with hx | hx
          · exact p3 x hx
          · exact g3 x hx
        · exact Or.inr (Or.inr ⟨_, Or.inr l9, List.mem_singleton.mp hx⟩)
      · intro o
        exact (wf_op (p4 q.1) (g4 o) l9).1
    · rw [if_neg q]
      exact h
theorem pcp_pp {t : Nat → Int32} {n : Nat} {pt : Bool} {g1 : G1} {g2 : G2} (h1 : ∀ br nt s, TK t n s → PP t n s (g1 br nt s)) (h2 : ∀ lv br nt s, TK t n s → PP t n s (g2 lv br nt s)) (br nt : Nat) (s : TS) (h : TK t n s) : PP t n s (pcp t n pt g1 g2 br nt s) := by
  unfold pcp
  by_cases q1 : s.2.2 = 2 ∧ s.2.1 - s.1 ≤ 4
  · rw [if_pos q1]
    obtain ⟨k1, k2⟩ := pp_go h (by omega) (by omega)
    obtain ⟨m, m1, m2⟩ := tok_num h q1.1 q1.2
    exact ⟨k1, k2, fun x hx => Or.inl ⟨m, m1, (List.mem_singleton.mp hx).trans m2⟩, fun _ => by show WFc [num t s.1 (s.2.1 - s.1)]; rw [m2]; exact (wf_num m1).1⟩
  · rw [if_neg q1]
    by_cases q2 : (s.2.2 = 1 ∧ s.2.1 - s.1 = 1) ∧ nmo pt (t s.1) = true
    · rw [if_pos q2]
      obtain ⟨k1, k2⟩ := pp_go h (by omega) (by omega)
      have nt : nmo true (t s.1) = true := by
        have := q2.2
        cases pt
        · unfold nmo at this ⊢
          simp only [Bool.false_and, Bool.or_false] at this
          rw [this]; rfl
        · exact this
      exact ⟨k1, k2, fun x hx => Or.inr (Or.inl ⟨_, nt, List.mem_singleton.mp hx⟩), fun _ => (wf_nam nt).1⟩
    · rw [if_neg q2]
      by_cases q3 : sgn t s = 33 ∧ nt < 8
      · rw [if_pos q3]
        have s3 := sgn_3 q3.1 (by decide)
        obtain ⟨k1, k2⟩ := pp_go h (by omega) (by omega)
        obtain ⟨p1, p2, p3, p4⟩ := h1 br (nt + 1) _ k1
        refine ⟨p1, ?_, ?_, fun o => (wf_not (p4 o)).1⟩
        · show s.1 + ((g1 br (nt + 1) (nx t n s.2.1)).2.1 ++ [-33]).length ≤ (g1 br (nt + 1) (nx t n s.2.1)).2.2.1
          rw [List.length_append]
          show s.1 + ((g1 br (nt + 1) (nx t n s.2.1)).2.1.length + 1) ≤ _
          omega
        · intro x hx
          rcases List.mem_append.mp hx with hx | hx
          · exact p3 x hx
          · exact Or.inr (Or.inr ⟨33, Or.inl rfl, List.mem_singleton.mp hx⟩)
      · rw [if_neg q3]
        by_cases q4 : sgn t s = 40 ∧ br < 8
        · rw [if_pos q4]
          have s3 := sgn_3 q4.1 (by decide)
          obtain ⟨k1, k2⟩ := pp_go h (by omega) (by omega)
          obtain ⟨p1, p2, p3, p4⟩ := h2 0 (br + 1) nt _ k1
          by_cases q5 : (g2 0 (br + 1) nt (nx t n s.2.1)).1 = true ∧ sgn t (g2 0 (br + 1) nt (nx t n s.2.1)).2.2 = 41
          · rw [if_pos q5]
            have s5 := sgn_3 q5.2 (by decide)
            obtain ⟨k3, k4⟩ := pp_go p1 (by omega) (by omega)
            refine ⟨k3, ?_, p3, fun _ => p4 q5.1⟩
            show s.1 + (g2 0 (br + 1) nt (nx t n s.2.1)).2.1.length ≤ (nx t n (g2 0 (br + 1) nt (nx t n s.2.1)).2.2.2.1).1
            omega
          · rw [if_neg q5]
            refine ⟨p1, ?_, p3, fun o => by cases o⟩
            show s.1 + (g2 0 (br + 1) nt (nx t n s.2.1)).2.1.length ≤ (g2 0 (br + 1) nt (nx t n s.2.1)).2.2.1
            omega
        · rw [if_neg q4]
          exact ⟨h, Nat.le_refl _, (fun x hx => by cases hx), (fun o => by cases o)⟩
theorem pcg_pp {t : Nat → Int32} {n : Nat} {pt : Bool} : ∀ k, (∀ br nt s, TK t n s → PP t n s ((pcg t n pt k).1 br nt s)) ∧ (∀ lv br nt s, TK t n s → PP t n s ((pcg t n pt k).2 lv br nt s))
  | 0 => ⟨fun _ _ s h => ⟨h, Nat.le_refl _, (fun x hx => by cases hx), (fun o => by cases o)⟩, fun _ _ _ s h => ⟨h, Nat.le_refl _, (fun x hx => by cases hx), (fun o => by cases o)⟩⟩
  | k + 1 => by
    obtain ⟨i1, i2⟩ := pcg_pp (t := t) (n := n) (pt := pt) k
    refine ⟨fun br nt s h => pcp_pp i1 i2 br nt s h, fun lv br nt s h => ?_⟩
    show PP t n s (if lv < 5 then lpl t n ((pcg t n pt k).2 (lv + 1) br nt) lv (if lv = 2 then 1 else 108) ((pcg t n pt k).2 (lv + 1) br nt s) else (pcg t n pt k).1 br nt s)
    by_cases q : lv < 5
    · rw [if_pos q]
      exact lpl_pp (fun s hs => i2 _ _ _ s hs) q _ s _ (i2 _ _ _ s h)
    · rw [if_neg q]
      exact i1 _ _ s h
theorem lpl_no {t : Nat → Int32} {n : Nat} {g : TS → PR} {lv : Nat} {r : PR} (h : ¬ (r.1 = true ∧ lvl (sgn t r.2.2) = lv)) : ∀ f, lpl t n g lv f r = r
  | 0 => rfl
  | f + 1 => if_neg h
theorem pcg_4 {t : Nat → Int32} {n : Nat} {pt : Bool} {s : TS} (h : s.2.2 = 4) : ∀ k, (∀ br nt, (pcg t n pt k).1 br nt s = (false, [], s)) ∧ (∀ lv br nt, (pcg t n pt k).2 lv br nt s = (false, [], s))
  | 0 => ⟨fun _ _ => rfl, fun _ _ _ => rfl⟩
  | k + 1 => by
    obtain ⟨i1, i2⟩ := pcg_4 (t := t) (n := n) (pt := pt) h k
    have g0 : sgn t s = 0 := if_neg (by omega)
    refine ⟨fun br nt => ?_, fun lv br nt => ?_⟩
    · show pcp t n pt _ _ br nt s = _
      unfold pcp
      rw [if_neg (fun u => by omega), if_neg (fun u => by omega), if_neg (fun u => by rw [g0] at u; exact absurd u.1 (by decide)), if_neg (fun u => by rw [g0] at u; exact absurd u.1 (by decide))]
    · show (if lv < 5 then lpl t n ((pcg t n pt k).2 (lv + 1) br nt) lv (if lv = 2 then 1 else 108) ((pcg t n pt k).2 (lv + 1) br nt s) else (pcg t n pt k).1 br nt s) = _
      rw [i2, i1]
      by_cases q : lv < 5
      · rw [if_pos q, lpl_no (fun u => by cases u.1)]
      · rw [if_neg q]
