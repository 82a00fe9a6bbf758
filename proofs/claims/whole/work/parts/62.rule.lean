/-! rule, sign: of both -/
def sp_rule (s : sS) (a w : Int) : Int × sS := if 0 ≤ w ∧ w ≤ 3 then (if 0 ≤ a ∧ a < s.B 0 then ((if w = 0 then (gsy s.B a.toNat : Int) else if w = 1 then (gsz s.B a.toNat : Int) else if w = 2 then (gwt s.B a.toNat : Int) else if gon s.B a.toNat then 1 else 0), s.S 0) else (-1, s.S 2)) else (-1, s.S 1)
def sp_sign (s : sS) (a i : Int) : Int × sS := if 0 ≤ i then (if 0 ≤ a ∧ a < s.B 0 then (if i < gsz s.B a.toNat then ((gsg s.B a.toNat i.toNat : Int), s.S 0) else (-1, s.S 6)) else (-1, s.S 2)) else (-1, s.S 1)
section S62
variable {s : sS} {k : Nat} {M : (Nat → Int → Int)} {d : Nat}
theorem x_rule (h : xS k s M) (a b : Int) : am_s am_P am_gg (d + 2) 176 [.inr (.inr 1), .inl a, .inl b] M (xC k s (sp_rule s a b).2 (sp_rule s a b).1 M) := by
  have hW : gW s.B := h.1.2.2.2.2.2.1
  have hn : s.B 0 ≤ 16 := hW.1
  have hg := h.2.2.2.2.2.2.1
  refine (v_176_1 _ _ _ _ _).mpr ?_
  unfold sp_rule
  refine @p_if _ _ _ _ ?_ ?_
  · intro q; rw [if_neg (by omega)]; exact x_refuse h (by unfold am_i32; omega)
  intro q
  refine @p_if _ _ _ _ ?_ ?_
  · intro q; rw [if_neg (by omega)]; exact x_refuse h (by unfold am_i32; omega)
  intro q2
  rw [if_pos (show 0 ≤ b ∧ b ≤ 3 by omega)]
  refine x_hasRule hg ?_ ?_
  · intro q3
    rw [if_neg (by omega)]
    rw [if_pos q3]
    obtain ⟨r, rfl⟩ := p_nat q3.1
    have hr : r < s.B 0 := by omega
    obtain ⟨g1, g2, g3, -⟩ := hg.2.2.2.2.1 r hr
    rw [Int.toNat_natCast]
    refine @p_if _ _ _ _ ?_ ?_
    · intro e; rw [if_pos e, if_pos (by omega), g1]; exact x_answer h _
    intro e
    rw [if_neg e]
    refine @p_if _ _ _ _ ?_ ?_
    · intro e; rw [if_pos e, if_pos (by omega), g2]; exact x_answer h _
    intro e
    rw [if_neg e]
    refine @p_if _ _ _ _ ?_ ?_
    · intro e; rw [if_pos e, if_pos (by omega), g3]; exact x_answer h _
    intro e
    rw [if_neg e]
    refine x_isOn hg hW.on (by omega) ?_ ?_
    · intro o; rw [o, if_neg (by decide), if_pos rfl]; exact x_answer h _
    · intro o; rw [o, if_pos rfl, if_neg (by decide)]; exact x_answer h _
  · intro q3
    rw [if_pos (by omega)]
    rw [if_neg q3]; exact x_refuse h (by unfold am_i32; omega)
theorem x_sign (h : xS k s M) (a b : Int) : am_s am_P am_gg (d + 2) 177 [.inr (.inr 1), .inl a, .inl b] M (xC k s (sp_sign s a b).2 (sp_sign s a b).1 M) := by
  have hW : gW s.B := h.1.2.2.2.2.2.1
  have hn : s.B 0 ≤ 16 := hW.1
  have hg := h.2.2.2.2.2.2.1
  refine (v_177_1 _ _ _ _ _).mpr ?_
  unfold sp_sign
  refine @p_if _ _ _ _ ?_ ?_
  · intro q; rw [if_neg (by omega)]; exact x_refuse h (by unfold am_i32; omega)
  intro q
  rw [if_pos (show 0 ≤ b by omega)]
  obtain ⟨i, rfl⟩ := p_nat (show 0 ≤ b by omega)
  refine x_hasRule hg ?_ ?_
  · intro q3
    rw [if_neg (by omega)]
    rw [if_pos q3]
    obtain ⟨r, rfl⟩ := p_nat q3.1
    have hr : r < s.B 0 := by omega
    obtain ⟨g1, g2, g3, -⟩ := hg.2.2.2.2.1 r hr
    rw [Int.toNat_natCast, Int.toNat_natCast]
    rw [if_pos (by omega)]
    rw [g2]
    refine @p_if _ _ _ _ ?_ ?_
    · intro e; rw [if_pos e]
      refine x_signAt hg hW hr (by omega) ?_
      exact x_answer h _
    · intro e; rw [if_neg e]; exact x_refuse h (by unfold am_i32; omega)
  · intro q3
    rw [if_pos (by omega)]
    rw [if_neg q3]; exact x_refuse h (by unfold am_i32; omega)
theorem rC_0 (h : rS s M) {v : Int} : rC s (s.S 0) v M v (am_up (am_up M 173 3 0) 173 2 0) :=
  rC_st h am_0 (up_eq _ _ _ _) (up23 M 0 0).1 (up23 M 0 0).2
theorem m_ref2 (h : rS s M) {v : Int} (hv : am_i32 v) : am_s am_P am_gg (d + 1) 224 [.inr (.inr 174), .inl v] (am_up (am_up M 173 3 0) 173 2 0) (rC s (s.S v) (-1) M) :=
  m_refuse (rC_st h hv (up_eq _ _ _ _) (up232 M 0 0 v).1 (up232 M 0 0 v).2)
theorem r_rule (h : rS s M) (a b : Int) : am_s am_P am_gg (d + 3) 286 [.inr (.inr 174), .inl a, .inl b] M (rC s (sp_rule s a b).2 (sp_rule s a b).1 M) := by
  have u := up23 M 0 0
  have hB : rb (am_up (am_up M 173 3 0) 173 2 0 174) 0 s.B := by rw [u.2 174 (by decide)]; exact h.2.2.2.2.2.2.1
  have hW : gW s.B := h.1.2.2.2.2.2.1
  have hn : s.B 0 ≤ 16 := hW.1
  refine (v_286_174 _ _ _ _ _).mpr ?_
  unfold sp_rule
  refine m_isIn ?_ ?_
  · intro q
    rw [if_neg (by omega)]
    rw [if_pos q]
    refine m_isRule hB hn ?_ ?_
    · intro q2
      rw [if_neg (by omega)]
      rw [if_pos q2]
      obtain ⟨r, rfl⟩ := p_nat q2.1
      rw [Int.toNat_natCast]
      refine @p_if _ _ _ _ ?_ ?_
      · intro e; rw [if_pos e]; exact m_sym hB (by omega) (rC_0 h)
      intro e
      rw [if_neg e]
      refine @p_if _ _ _ _ ?_ ?_
      · intro e; rw [if_pos e]; exact m_size hB (by omega) (rC_0 h)
      intro e
      rw [if_neg e]
      refine @p_if _ _ _ _ ?_ ?_
      · intro e; rw [if_pos e]
        rw [show w32 (35 + (r : Int)) = ((35 + r : Nat) : Int) by rw [w32_i (by omega) (by omega)]; rfl]
        rw [if_pos (by omega)]
        rw [hB.at (k := 35 + r) (by omega)]; exact rC_0 h
      intro e
      rw [if_neg e]
      refine m_isOn hB hW.on (by omega) ?_ ?_
      · intro o; rw [o, if_neg (by decide), if_pos rfl]; exact rC_0 h
      · intro o; rw [o, if_pos rfl, if_neg (by decide)]; exact rC_0 h
    · intro q2
      rw [if_pos (by omega)]
      rw [if_neg q2]; exact m_ref2 h (by unfold am_i32; omega)
  · intro q
    rw [if_pos (by omega)]
    rw [if_neg q]; exact m_ref2 h (by unfold am_i32; omega)
theorem r_sign (h : rS s M) (a b : Int) : am_s am_P am_gg (d + 3) 287 [.inr (.inr 174), .inl a, .inl b] M (rC s (sp_sign s a b).2 (sp_sign s a b).1 M) := by
  have u := up23 M 0 0
  have hB : rb (am_up (am_up M 173 3 0) 173 2 0 174) 0 s.B := by rw [u.2 174 (by decide)]; exact h.2.2.2.2.2.2.1
  have hW : gW s.B := h.1.2.2.2.2.2.1
  have hn : s.B 0 ≤ 16 := hW.1
  refine (v_287_174 _ _ _ _ _).mpr ?_
  unfold sp_sign
  refine @p_if _ _ _ _ ?_ ?_
  · intro q; rw [if_neg (by omega)]; exact m_ref2 h (by unfold am_i32; omega)
  intro q
  rw [if_pos (show 0 ≤ b by omega)]
  obtain ⟨i, rfl⟩ := p_nat (show 0 ≤ b by omega)
  refine m_isRule hB hn ?_ ?_
  · intro q2
    rw [if_neg (by omega)]
    rw [if_pos q2]
    obtain ⟨r, rfl⟩ := p_nat q2.1
    have hs := (hW.2.2.2.1 r (by omega)).2.2.1
    rw [Int.toNat_natCast, Int.toNat_natCast]
    refine m_size hB (by omega) ?_
    refine @p_if _ _ _ _ ?_ ?_
    · intro e; rw [if_pos e]; exact m_sign hB (by omega) (by omega) (rC_0 h)
    · intro e; rw [if_neg e]; exact m_ref2 h (by unfold am_i32; omega)
  · intro q2
    rw [if_pos (by omega)]
    rw [if_neg q2]; exact m_ref2 h (by unfold am_i32; omega)
end S62
