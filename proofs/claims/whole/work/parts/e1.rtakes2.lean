/-! how the reference reads a byte: put together -/
section Se1
variable {M : (Nat → Int → Int)} {d : Nat} {Q : Int → (Nat → Int → Int) → Prop} {b : Nat} {D : Nat → Nat} {w o t : Nat}
/-- what the reference has after a byte -/
def tkO (M : (Nat → Int → Int)) (y : Nat × rd) (v : Int) (M' : (Nat → Int → Int)) : Prop := v = (y.1 : Int) ∧ (y.1 = 0 → rdr y.2.1 y.2.2.1 y.2.2.2.1 y.2.2.2.2 M') ∧ rrF M M' ∧ ∃ D', rb (M' 174) 1035 D'
theorem tk_bad {n : Nat} {x : rd} (hn : n ≠ 0) (h : rdr w o t D M) : tkO M (n, x) (n : Int) M := ⟨rfl, fun z => absurd z hn, rrF_rf, D, h.2.2.2⟩
theorem tk_ok {M' : (Nat → Int → Int)} {x : rd} (h : rdr x.1 x.2.1 x.2.2.1 x.2.2.2 M') (f : rrF M M') : tkO M (0, x) 0 M' := ⟨rfl, fun _ => h, f, _, h.2.2.2⟩
theorem m_rowTk (h : rdr w o t D M) (w0 : w ≠ 0) : am_s am_P am_gg (d + 1) 247 [.inr (.inr 174), .inl (b : Int)] M (tkO M (if b = 59 then (0, (0, o, t, D)) else if b = 124 then (0, (2, o, t, D)) else (2, (w, o, t, D)))) := by
  refine m_endsRow h w0 (fun M' k1 k2 k3 k4 => ?_)
  by_cases q59 : b = 59
  · rw [if_pos q59, if_pos q59]; exact tk_ok (k1 q59) k4
  rw [if_neg q59, if_neg q59]
  by_cases q124 : b = 124
  · rw [if_pos q124, if_pos q124]; exact tk_ok (k2 q124) k4
  · rw [if_neg q124, if_neg q124]; exact ⟨rfl, fun z => absurd z (show ¬ (2 : Nat) = 0 by decide), k4, D, by rw [k3]; exact h.2.2.2⟩
theorem m_takes0 (h : rdr 0 o t D M) (ht : t < 256) (hb : b < 128) : am_s am_P am_gg (d + 4) 245 [.inr (.inr 174), .inl (b : Int)] M (tkO M (if 8 ≤ rdS b then (2, (0, o, t, D)) else if t.testBit (rdS b) = true then (3, (0, o, t, D)) else (0, (1, rdS b, t ||| 2 ^ rdS b, if t = 0 then gU D 2 (rdS b) else D)))) := by
  refine m_t0 h ht hb (fun q => ?_) (fun q q2 => ?_) (fun q q2 M' k1 k2 => ?_)
  · rw [if_pos q]; exact tk_bad (by decide) h
  · rw [if_neg q, if_pos q2]; exact tk_bad (by decide) h
  · rw [if_neg q, if_neg q2]; exact tk_ok k1 k2
theorem m_takes2 (h : rdr 2 o t D M) (hn : D 0 ≤ 16) (hb : b < 128) : am_s am_P am_gg (d + 4) 246 [.inr (.inr 174), .inl (b : Int)] M (tkO M (if rdS b = 99 then (2, (2, o, t, D)) else if D 0 = 16 then (5, (2, o, t, D)) else (0, (3, o, t, rdA (rdR D o) (rdS b))))) := by
  refine m_t2 h hn (by decide) hb (fun q => ?_) (fun q q2 => ?_) (fun q q2 M' k1 k2 => ?_)
  · rw [if_pos q]; exact tk_bad (by decide) h
  · rw [if_neg q, if_pos q2]; exact tk_bad (by decide) h
  · rw [if_neg q, if_neg q2]; exact tk_ok k1 k2
theorem m_takes3 (h : rdr 3 o t D M) (hn : D 0 ≤ 16) (p1 : 1 ≤ D 0) (hz : gsz D (D 0 - 1) ≤ 4) (hb : b < 128) : am_s am_P am_gg (d + 4) 248 [.inr (.inr 174), .inl (b : Int)] M (tkO M (if rdS b ≠ 99 then (if gsz D (D 0 - 1) = 4 then (4, (3, o, t, D)) else (0, (3, o, t, rdA D (rdS b)))) else if b = 58 then (0, (4, o, t, D)) else if b = 59 then (0, (0, o, t, D)) else if b = 124 then (0, (2, o, t, D)) else (2, (3, o, t, D)))) := by
  refine m_t3 h hn p1 hz (by decide) hb (fun q q2 => ?_) (fun q q2 M' k1 k2 => ?_) (fun q q2 M' k1 k2 => ?_) (fun q q2 => ?_)
  · rw [if_pos q, if_pos q2]; exact tk_bad (by decide) h
  · rw [if_pos q, if_neg q2]; exact tk_ok k1 k2
  · rw [if_neg (fun z => z q), if_pos q2]; exact tk_ok k1 k2
  · rw [if_neg (fun z => z q), if_neg q2]; exact m_rowTk h (by decide)
theorem m_takes4 (h : rdr 4 o t D M) (hn : D 0 ≤ 16) (p1 : 1 ≤ D 0) (hb : b < 128) : am_s am_P am_gg (d + 4) 249 [.inr (.inr 174), .inl (b : Int)] M (tkO M (if 48 ≤ b ∧ b ≤ 57 then (0, (5, o, t, gU D (35 + (D 0 - 1)) (b - 48))) else (2, (4, o, t, D)))) := by
  refine m_t4 h hn p1 (by decide) hb (fun q => ?_) (fun q M' k1 k2 => ?_)
  · rw [if_neg q]; exact tk_bad (by decide) h
  · rw [if_pos q]; exact tk_ok k1 k2
theorem m_takes {x : rd} (h : rdr x.1 x.2.1 x.2.2.1 x.2.2.2 M) (hW : rdW x) (hb : b < 256) : am_s am_P am_gg (d + 5) 250 [.inr (.inr 174), .inl (w8 (b : Int))] M (tkO M (rdT x b)) := by
  obtain ⟨w, o, t, D⟩ := x
  have hh : rdr w o t D M := h
  have a1 : M 173 8 = (w : Int) := hh.1
  obtain ⟨c1, c2, c3, c4, c5, c6, c7, c8, c9, c10⟩ := hW
  dsimp only at c1 c2 c3 c4 c5
  clear c6 c7 c8 c9 c10
  have hn := c2.1
  refine (v_250_174 _ _ _ _).mpr ?_
  by_cases h128 : 128 ≤ b
  · have e : rdT (w, o, t, D) b = (1, (w, o, t, D)) := by
      unfold rdT
      rw [if_neg (by omega), if_pos ⟨rdS_no (by omega) (by omega), by omega⟩]
    rw [e]
    have ew : w8 (b : Int) = (b : Int) - 256 := by unfold w8; omega
    rw [ew]
    refine m_strange (d := d + 1) (fun g => by omega) (fun g => ?_)
    rw [if_neg (by decide)]
    exact tk_bad (by decide) hh
  have hb : b < 128 := by omega
  have ew : w8 (b : Int) = (b : Int) := by unfold w8; omega
  rw [ew]
  refine m_strange (d := d + 1) (fun g => ?_) (fun g => ?_)
  · rw [if_pos rfl]
    by_cases k1 : b = 10
    · have e : rdT (w, o, t, D) b = (0, (w, o, t, D)) := by unfold rdT; rw [if_pos (Or.inl k1)]
      rw [if_pos (by omega), e]; exact tk_ok hh rrF_rf
    rw [if_neg (by omega)]
    by_cases k2 : b = 32
    · have e : rdT (w, o, t, D) b = (0, (w, o, t, D)) := by unfold rdT; rw [if_pos (Or.inr k2)]
      rw [if_pos (by omega), e]; exact tk_ok hh rrF_rf
    rw [if_neg (by omega)]
    have kb : ¬ (b = 10 ∨ b = 32) := by omega
    have ks : ¬ (rdS b = 99 ∧ ¬ ((48 ≤ b ∧ b ≤ 57) ∨ b = 61 ∨ b = 124 ∨ b = 59 ∨ b = 58)) := fun z => by
      have := mt rdS_99.mpr (show ¬ rdS b ≠ 99 by omega); omega
    rw [a1]
    by_cases w0 : w = 0
    · subst w0
      rw [if_pos (by decide)]
      unfold rdT; dsimp only; rw [if_neg kb, if_neg ks, if_pos rfl]; exact m_takes0 hh c3 hb
    rw [if_neg (by omega)]
    by_cases w1 : w = 1
    · subst w1
      rw [if_pos (by decide)]
      obtain ⟨a1, a2, a3, a4⟩ := hh
      by_cases q : b = 61
      · rw [if_pos (by omega), if_pos (by omega)]
        unfold rdT; dsimp only; rw [if_neg kb, if_neg ks, if_neg (by decide), if_pos rfl, if_pos q]
        exact tk_ok ⟨up_eq _ _ _ _, fun _ => by rw [up_ni _ _ _ _ (by decide)]; exact a2 w0, by rw [up_ni _ _ _ _ (by decide)]; exact a3, by rw [up_nc _ _ _ _ (by decide)]; exact a4⟩ (rrF_3 rrF_rf (by omega))
      · rw [if_neg (by omega), if_neg (by omega)]
        unfold rdT; dsimp only; rw [if_neg kb, if_neg ks, if_neg (by decide), if_pos rfl, if_neg q]
        exact ⟨rfl, fun z => absurd z (show ¬ (2 : Nat) = 0 by decide), rrF_3 rrF_rf (by omega), D, by rw [up_nc _ _ _ _ (by decide)]; exact a4⟩
    rw [if_neg (by omega)]
    by_cases w2 : w = 2
    · subst w2
      rw [if_pos (by decide)]
      unfold rdT; dsimp only; rw [if_neg kb, if_neg ks, if_neg (by decide), if_neg (by decide), if_pos rfl]; exact m_takes2 hh hn hb
    rw [if_neg (by omega)]
    obtain ⟨p1, p2⟩ := c5 (by omega)
    have hz := (c2.2 (D 0 - 1) (by omega)).2.2.1
    by_cases w3 : w = 3
    · subst w3
      rw [if_pos (by decide)]
      unfold rdT; dsimp only; rw [if_neg kb, if_neg ks, if_neg (by decide), if_neg (by decide), if_neg (by decide), if_pos rfl]; exact m_takes3 hh hn p1 hz hb
    rw [if_neg (by omega)]
    by_cases w4 : w = 4
    · subst w4
      rw [if_pos (by decide)]
      unfold rdT; dsimp only; rw [if_neg kb, if_neg ks, if_neg (by decide), if_neg (by decide), if_neg (by decide), if_neg (by decide), if_pos rfl]; exact m_takes4 hh hn p1 hb
    rw [if_neg (by omega)]
    unfold rdT; dsimp only; rw [if_neg kb, if_neg ks, if_neg w0, if_neg w1, if_neg w2, if_neg w3, if_neg w4]
    exact m_rowTk hh w0
  · have e : rdT (w, o, t, D) b = (1, (w, o, t, D)) := by
      unfold rdT
      rw [if_neg (by omega), if_pos ⟨rdS_no (by omega) (by omega), by omega⟩]
    rw [if_neg (by decide), e]
    exact tk_bad (by decide) hh
end Se1
