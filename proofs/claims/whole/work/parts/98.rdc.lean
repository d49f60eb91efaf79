/-! the class reads parts and levels -/
section
variable {dw n p : Nat} {L : Lay} {t : Nat → Int32}
theorem x1_part {g1 : Lay → Sto → Nat → Int32 → Int32 → Option (Int32 × Sto)} {g2 : Lay → Sto → Nat → Int32 → Int32 → Int32 → Option (Int32 × Sto)} {G1' : G1} {G2' : G2} {br nt : Nat} (hp : p < 10) (hbr : br ≤ 8) (hnt : nt ≤ 8)
    (h1 : nt < 8 → ∀ σ s m q, CRS dw n L t p m q s σ → m ≤ s.1 → ∃ σ2, g1 L σ dw (nI br) (nI (nt + 1)) = some (b3 ((G1' br (nt + 1) s).1 = true), σ2) ∧ CRR dw n L t p m q σ (G1' br (nt + 1) s) σ2)
    (h2 : br < 8 → ∀ σ s m q, CRS dw n L t p m q s σ → m ≤ s.1 → ∃ σ2, g2 L σ dw 0 (nI (br + 1)) (nI nt) = some (b3 ((G2' 0 (br + 1) nt s).1 = true), σ2) ∧ CRR dw n L t p m q σ (G2' 0 (br + 1) nt s) σ2)
    (p1 : ∀ br nt s, TK t n s → PP t n s (G1' br nt s))
    {σ : Sto} {s : TS} {m q : Nat} (c : CRS dw n L t p m q s σ) (hm : m ≤ s.1) : ∃ σ2, fb_X1_readPart g1 g2 L σ dw (nI br) (nI nt) = some (b3 ((pcp t n (Nat.beq p 1) G1' G2' br nt s).1 = true), σ2) ∧ CRR dw n L t p m q σ (pcp t n (Nat.beq p 1) G1' G2' br nt s) σ2 := by
  obtain ⟨⟨c1, c2, c3, c4, c5⟩, c6, c7, c8, c9⟩ := id c
  obtain ⟨b1, b2, b3', b4⟩ := c9.1
  have hn := c1.2.2.1
  have en := x9_number c1 c6 b3' b1 b2
  have el := x9_letter c1 c6 b3' b1 b2
  have es := x9_sign c1 c6 b3' b4
  rw [c2] at en el es
  have tt : (b3 (true = true) : Int32) = 1 := rfl
  have ff : (b3 (false = true) : Int32) = 0 := rfl
  have cnil : CRR dw n L t p m q σ (false, [], s) σ := ⟨FR.rf _ _, c, (wrs_nil _ _).symm⟩
  unfold fb_X1_readPart f_X1_operandAtHand pcp
  rw [c4, Option.bind_some, el, Option.bind_some]
  obtain ⟨a, ha, ea, na⟩ : ∃ a, a < 128 ∧ (if s.2.2 = 1 ∧ s.2.1 - s.1 = 1 then t s.1 else 0) = nI a ∧ (nmo (Nat.beq p 1) (nI a) = true ↔ ((s.2.2 = 1 ∧ s.2.1 - s.1 = 1) ∧ nmo (Nat.beq p 1) (t s.1) = true)) := by
    by_cases z : s.2.2 = 1 ∧ s.2.1 - s.1 = 1
    · have gt := tok_gt c9 (by omega) (by omega)
      obtain ⟨d, d1, d2, d3⟩ := srt_l (t := t) (n := n) (i := s.1) (by rw [tok_all c9 (by rw [z.1]; rfl) (by omega) (Nat.le_refl _) (by omega), z.1])
      refine ⟨d, by omega, by rw [if_pos z, d3], ?_⟩
      rw [← d3]
      exact ⟨fun u => ⟨z, u⟩, fun u => u.2⟩
    · refine ⟨0, by omega, by rw [if_neg z, nI_0], ⟨fun u => ?_, fun u => absurd u.1 z⟩⟩
      exfalso
      have : ∀ b : Bool, nmo b (nI 0) = false := by decide
      rw [this] at u
      cases u
  rw [ea, x1_isNameHere L σ c5 hp ha, Option.bind_some]
  by_cases q2 : (s.2.2 = 1 ∧ s.2.1 - s.1 = 1) ∧ nmo (Nat.beq p 1) (t s.1) = true
  · have gt := tok_gt c9 (by omega) (by omega)
    rw [if_pos q2.1] at ea
    have pos : 0 ≤ 10000 + t s.1 := by
      rcases nmo_c q2.2 with z | z | z | z | z | z | z | z | z | z | z | z | z <;> rw [z] <;> decide
    obtain ⟨σ2, g1, g2⟩ := x1_take c (by omega) pos
    rw [b3_t (na.mpr q2), if_neg (by decide), ← ea, Option.bind_some, if_neg (Int32.not_lt.mpr pos), if_neg (show ¬ (s.2.2 = 2 ∧ s.2.1 - s.1 ≤ 4) from fun u => by omega), if_pos q2]
    exact ⟨σ2, g1, g2 true⟩
  rw [b3_f (fun u => q2 (na.mp u)), if_pos rfl, Option.bind_some, en, Option.bind_some]
  by_cases q1 : s.2.2 = 2 ∧ s.2.1 - s.1 ≤ 4
  · obtain ⟨v, v1, v2⟩ := tok_num c9 q1.1 q1.2
    have gt := tok_gt c9 (by omega) (by omega)
    obtain ⟨σ2, g1, g2⟩ := x1_take c (by omega) (v := nI v) (nI_pos' (by omega))
    rw [if_pos q1, if_pos q1, v2, Option.bind_some, if_neg (nI_pos (by omega))]
    exact ⟨σ2, g1, g2 true⟩
  rw [if_neg q1, if_neg q1, Option.bind_some, if_pos (by decide), Option.bind_some, es, Option.bind_some, if_neg q2]
  have F : ∀ {β : Type} (x y : β), (if sgn t s = 33 ∧ nt < 8 then x else y) = (if sgn t s = 33 then (if nI 8 ≤ nI nt then y else x) else y) := fun x y => by
    by_cases z : sgn t s = 33
    · by_cases y : nt < 8
      · rw [if_pos ⟨z, y⟩, if_pos z, if_neg (fun u => by have := (nI_leI (by omega) (by omega)).mp u; omega)]
      · rw [if_neg (fun u => y u.2), if_pos z, if_pos (nI_le (by omega) (by omega))]
    · rw [if_neg (fun u => z u.1), if_neg z]
  by_cases q3 : sgn t s = 33 ∧ nt < 8
  · have s3 := sgn_3 q3.1 (by decide)
    rw [if_pos q3, if_pos q3.1, if_neg (show ¬ (8 : Int32) ≤ nI nt from fun u => by have := (nI_leI (a := 8) (by omega) (by omega)).mp u; omega), Option.bind_some]
    obtain ⟨k1, k2⟩ := pp_go c9 (by omega) (by omega)
    obtain ⟨σ3, e3, h3⟩ := x1_go c
    have h3 := h3 true
    obtain ⟨σ4, e4, h4⟩ := h1 q3.2 σ3 _ _ _ h3.2.1 (by show m + 0 ≤ (nx t n s.2.1).1; omega)
    have p4 := p1 br (nt + 1) _ k1
    obtain ⟨σ5, e5, h5⟩ := x1_wsign (v := 33) h4.2.1 (by
      have := p4.2.1
      have x1 := p4.1.1.1
      have x2 := p4.1.1.2.1
      show m + 0 + (G1' br (nt + 1) (nx t n s.2.1)).2.1.length < 108
      omega) (Or.inl rfl)
    rw [e3, Option.bind_some, nI_1, e4, Option.bind_some, q3.1, e5, Option.bind_some, ckb, Option.bind_some]
    refine ⟨σ5, rfl, ?_⟩
    exact (h3.tr h4 true).tr (h5 true) _
  rw [if_neg q3]
  have B : (if sgn t s = 33 then (if 8 ≤ nI nt then f_X1_readPart_82 g1 g2 L σ dw (nI br) (nI nt) (sgn t s) else (some 15).bind fun x12 => (f_X9_goOn L σ x12).bind fun σ13 => (g1 L σ13 dw (nI br) (nI nt + 1)).bind fun r14 => (f_X1_write L r14.2 dw (-(sgn t s))).bind fun σ15 => (ckN 1 r14.1).bind fun _ => some (r14.1, σ15)) else f_X1_readPart_82 g1 g2 L σ dw (nI br) (nI nt) (sgn t s)) = f_X1_readPart_82 g1 g2 L σ dw (nI br) (nI nt) (sgn t s) := by
    by_cases z : sgn t s = 33
    · have y : 8 ≤ nt := Nat.le_of_not_lt (fun y => q3 ⟨z, y⟩)
      rw [if_pos z, if_pos (show (8 : Int32) ≤ nI nt from nI_le (a := 8) y (by omega))]
    · rw [if_neg z]
  rw [B]
  unfold f_X1_readPart_82
  by_cases q4 : sgn t s = 40 ∧ br < 8
  · have s3 := sgn_3 q4.1 (by decide)
    rw [if_pos q4, if_pos q4.1, if_neg (show ¬ (8 : Int32) ≤ nI br from fun u => by have := (nI_leI (a := 8) (by omega) (by omega)).mp u; omega), c4, Option.bind_some]
    obtain ⟨k1, k2⟩ := pp_go c9 (by omega) (by omega)
    obtain ⟨σ3, e3, h3⟩ := x1_go c
    have h3 := h3 true
    obtain ⟨σ4, e4, h4⟩ := h2 q4.2 σ3 _ _ _ h3.2.1 (by show m + 0 ≤ (nx t n s.2.1).1; omega)
    rw [e3, Option.bind_some, nI_1, e4, Option.bind_some]
    dsimp only
    have T := h3.tr h4 true
    by_cases o : (G2' 0 (br + 1) nt (nx t n s.2.1)).1 = true
    · rw [b3_t o, if_neg (by decide)]
      obtain ⟨⟨d1, d2, d3, d4, d5⟩, d6, d7, d8, d9⟩ := id h4.2.1
      have sg := x9_sign d1 d6 d9.1.2.2.1 d9.1.2.2.2
      rw [d2] at sg
      rw [d4, Option.bind_some, sg, Option.bind_some]
      by_cases q5 : sgn t (G2' 0 (br + 1) nt (nx t n s.2.1)).2.2 = 41
      · obtain ⟨σ5, e5, h5⟩ := x1_go h4.2.1
        unfold f_X1_readPart_131
        rw [if_pos q5, if_neg (by decide), d4, Option.bind_some, e5, Option.bind_some, ck1, Option.bind_some, if_pos ⟨o, q5⟩]
        refine ⟨σ5, rfl, ?_⟩
        have U := T.tr (r2 := (true, [], nx t n (G2' 0 (br + 1) nt (nx t n s.2.1)).2.2.2.1)) (h5 true) true
        have E : ((([] : List Int32) ++ (G2' 0 (br + 1) nt (nx t n s.2.1)).2.1) ++ []) = (G2' 0 (br + 1) nt (nx t n s.2.1)).2.1 := by rw [List.nil_append, List.append_nil]
        rw [← E]
        exact U
      · unfold f_X1_readPart_130 f_X1_readPart_131
        rw [if_neg q5, if_pos rfl, ck0, Option.bind_some, if_neg (fun u => q5 u.2)]
        exact ⟨σ4, rfl, T.o false⟩
    · unfold f_X1_readPart_130 f_X1_readPart_131
      rw [b3_f o, if_pos rfl, if_pos rfl, ck0, Option.bind_some, if_neg (fun u => o u.1)]
      exact ⟨σ4, rfl, T.o false⟩
  · rw [if_neg q4, ck0, Option.bind_some]
    refine ⟨σ, ?_, cnil⟩
    by_cases z : sgn t s = 40
    · have y : 8 ≤ br := Nat.le_of_not_lt (fun y => q4 ⟨z, y⟩)
      rw [if_pos z, if_pos (show (8 : Int32) ≤ nI br from nI_le (a := 8) y (by omega))]
      rfl
    · rw [if_neg z]
      rfl
theorem x1_read (hp : p < 10) : ∀ k,
    (∀ br nt, br ≤ 8 → nt ≤ 8 → 65 ≤ k + 7 * br + nt → ∀ σ s m q, CRS dw n L t p m q s σ → m ≤ s.1 → ∃ σ2, (fg_rd k).1 L σ dw (nI br) (nI nt) = some (b3 (((pcg t n (Nat.beq p 1) k).1 br nt s).1 = true), σ2) ∧ CRR dw n L t p m q σ ((pcg t n (Nat.beq p 1) k).1 br nt s) σ2) ∧
    (∀ lv br nt, lv ≤ 5 → br ≤ 8 → nt ≤ 8 → 71 ≤ k + lv + 7 * br + nt → ∀ σ s m q, CRS dw n L t p m q s σ → m ≤ s.1 → ∃ σ2, (fg_rd k).2 L σ dw (nI lv) (nI br) (nI nt) = some (b3 (((pcg t n (Nat.beq p 1) k).2 lv br nt s).1 = true), σ2) ∧ CRR dw n L t p m q σ ((pcg t n (Nat.beq p 1) k).2 lv br nt s) σ2)
  | 0 => ⟨fun br nt a b c => by omega, fun lv br nt z a b c => by omega⟩
  | k + 1 => by
    obtain ⟨i1, i2⟩ := x1_read hp k
    obtain ⟨j1, j2⟩ := pcg_pp (t := t) (n := n) (pt := Nat.beq p 1) k
    refine ⟨fun br nt hb hn hk σ s m q c hm => ?_, fun lv br nt hl hb hn hk σ s m q c hm => ?_⟩
    · exact x1_part hp hb hn (fun u => i1 br (nt + 1) hb (by omega) (by omega)) (fun u => i2 0 (br + 1) nt (by omega) (by omega) hn (by omega)) j1 c hm
    · show ∃ σ2, fb_X1_readLevel (fg_rd k).1 (fg_rd k).2 L σ dw (nI lv) (nI br) (nI nt) = some (b3 ((pcl t n (pcg t n (Nat.beq p 1) k).1 (pcg t n (Nat.beq p 1) k).2 lv br nt s).1 = true), σ2) ∧ CRR dw n L t p m q σ (pcl t n (pcg t n (Nat.beq p 1) k).1 (pcg t n (Nat.beq p 1) k).2 lv br nt s) σ2
      unfold fb_X1_readLevel pcl
      by_cases z : lv < 5
      · have hg := i2 (lv + 1) br nt (by omega) hb hn (by omega)
        obtain ⟨σ3, e3, h3⟩ := hg σ s m q c hm
        have hpp := j2 (lv + 1) br nt s c.2.2.2.2
        rw [if_pos z, if_pos (show nI lv < 5 from (nI_ltI (b := 5) (by omega) (by omega)).mpr z), nI_1, e3, Option.bind_some]
        unfold f_X1_readLevel_34
        by_cases y : lv = 2
        · rw [if_pos y, if_pos (show nI lv = 2 by rw [y]; rfl)]
          exact x1_loop (s := s) (N := 1) z (by omega) hg (fun s hs => j2 _ _ _ s hs) hm 1 0 FU σ3 _ rfl (FU_lt (by omega)) h3 hpp
        · rw [if_neg y, if_neg (show ¬ nI lv = 2 from fun u => y ((nI_eq (b := 2) (by omega) (by omega)).mp u))]
          exact x1_loop (s := s) (N := 108) z (by omega) hg (fun s hs => j2 _ _ _ s hs) hm 108 0 FU σ3 _ rfl (FU_lt (by omega)) h3 hpp
      · obtain ⟨σ3, e3, h3⟩ := i1 br nt hb hn (by omega) σ s m q c hm
        rw [if_neg z, if_neg (show ¬ nI lv < 5 from fun u => z ((nI_ltI (b := 5) (by omega) (by omega)).mp u)), e3, Option.bind_some, ckb, Option.bind_some]
        exact ⟨σ3, rfl, h3⟩
end
