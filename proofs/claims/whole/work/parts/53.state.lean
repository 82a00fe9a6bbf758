/-! a grammar as one row of numbers; the state; the reference's readers -/
def gn (B : Nat → Nat) : Nat := B 0
def gst (B : Nat → Nat) : Nat := B 2
def gon (B : Nat → Nat) (r : Nat) : Bool := (B 1).testBit r
def gsy (B : Nat → Nat) (r : Nat) : Nat := B (3 + r)
def gsz (B : Nat → Nat) (r : Nat) : Nat := B (19 + r)
def gwt (B : Nat → Nat) (r : Nat) : Nat := B (35 + r)
def gsg (B : Nat → Nat) (r i : Nat) : Nat := B (51 + 4 * r + i)
def gU (B : Nat → Nat) (k v : Nat) : Nat → Nat := fun j => if j = k then v else B j
/-- a grammar as it must be -/
def gW (B : Nat → Nat) : Prop := B 0 ≤ 16 ∧ B 1 < 2 ^ B 0 ∧ B 2 < 8 ∧ (∀ r, r < B 0 → gsy B r < 8 ∧ 1 ≤ gsz B r ∧ gsz B r ≤ 4 ∧ gwt B r ≤ 9 ∧ ∀ i, i < gsz B r → gsg B r i < 8 ∨ (16 ≤ gsg B r i ∧ gsg B r i < 32)) ∧ ∃ pos : Nat → Nat, (∀ s, pos s < 8) ∧ ∀ r, r < B 0 → gsz B r = 1 → gsg B r 0 < 8 → pos (gsg B r 0) < pos (gsy B r)
theorem gW.on {B : Nat → Nat} (h : gW B) : B 1 < 65536 := Nat.lt_of_lt_of_le h.2.1 (Nat.pow_le_pow_right (by decide) h.1)
/-- a block of the reference's cells is a grammar -/
def rb (f : Int → Int) (o : Nat) (B : Nat → Nat) : Prop := ∀ k : Nat, k < 115 → f ((o + k : Nat) : Int) = (B k : Int)
def rH (f : Int → Int) (H : List (Nat → Nat)) : Prop := ∀ j, j < H.length → rb f (115 * (H.length - j)) (H.getD j (fun _ => 0))
/-- the state: status, fault's kind, its place, how many bytes, the bytes, the grammar, those that were -/
abbrev sS := Int × Int × Int × Nat × (Nat → Nat) × (Nat → Nat) × List (Nat → Nat)
def sS.st (s : sS) : Int := s.1
def sS.fk (s : sS) : Int := s.2.1
def sS.fa (s : sS) : Int := s.2.2.1
def sS.tn (s : sS) : Nat := s.2.2.2.1
def sS.tp (s : sS) : Nat → Nat := s.2.2.2.2.1
def sS.B (s : sS) : Nat → Nat := s.2.2.2.2.2.1
def sS.H (s : sS) : List (Nat → Nat) := s.2.2.2.2.2.2
def sS.S (s : sS) (v : Int) : sS := (v, s.2)
/-- the state as it must be -/
def sW (s : sS) : Prop := am_i32 s.st ∧ am_i32 s.fk ∧ am_i32 s.fa ∧ s.tn ≤ 400 ∧ (∀ i, i < s.tn → s.tp i < 256) ∧ gW s.B ∧ s.H.length ≤ 8 ∧ ∀ B ∈ s.H, gW B
/-- the state, as the reference holds it -/
def rS (s : sS) (M : Nat → Int → Int) : Prop := sW s ∧ M 173 2 = s.st ∧ M 173 6 = s.fk ∧ M 173 7 = s.fa ∧ M 173 5 = (s.tn : Int) ∧ (∀ i : Nat, i < s.tn → M 175 (i : Int) = w8 (s.tp i : Int)) ∧ rb (M 174) 0 s.B ∧ M 173 1 = (s.H.length : Int) ∧ rH (M 174) s.H ∧ (∀ k : Nat, k < 115 → 0 ≤ M 174 ((1035 + k : Nat) : Int))
section S53
variable {B : Nat → Nat} {M : Nat → Int → Int} {d : Nat} {Q : Int → (Nat → Int → Int) → Prop}
theorem rb.at {f : Int → Int} (h : rb f 0 B) {k : Nat} (hk : k < 115) : f (k : Int) = (B k : Int) := by have := h k hk; rwa [Nat.zero_add] at this
theorem m_refuse {v : Int} (hQ : Q (-1) (am_up M 173 2 v)) : am_s am_P am_gg (d + 1) 224 [.inr (.inr 174), .inl v] M Q := (v_224_174 _ _ _ _).mpr hQ
theorem m_isIn {a b c : Int} (h1 : b ≤ a ∧ a ≤ c → Q 1 M) (h0 : ¬ (b ≤ a ∧ a ≤ c) → Q 0 M) : am_s am_P am_gg (d + 1) 225 [.inl a, .inl b, .inl c] M Q := by
  refine (v_225 _ _ _ _ _ _).mpr ?_
  refine @p_if _ _ _ _ ?_ ?_
  · intro h; exact h0 (by omega)
  intro h
  refine @p_if _ _ _ _ ?_ ?_
  · intro g; exact h0 (by omega)
  · intro g; exact h1 (by omega)
theorem m_bit {s k : Nat} (hs : s < 4294967296) (hk : k < 32) (h1 : s.testBit k = true → Q 1 M) (h0 : s.testBit k = false → Q 0 M) : am_s am_P am_gg (d + 1) 226 [.inl (w32 (s : Int)), .inl (k : Int)] M Q := by
  refine (v_226 _ _ _ _ _).mpr ?_
  rw [b_bit hs hk]
  cases e : s.testBit k with
  | true => rw [if_pos (by simp)]; exact h1 e
  | false => rw [if_neg (by simp)]; exact h0 e
theorem m_bitn {s k : Nat} (hs : s < 2147483648) (hk : k < 32) (h1 : s.testBit k = true → Q 1 M) (h0 : s.testBit k = false → Q 0 M) : am_s am_P am_gg (d + 1) 226 [.inl (s : Int), .inl (k : Int)] M Q := by
  have := m_bit (M := M) (Q := Q) (d := d) (s := s) (by omega) hk h1 h0
  rwa [w32_nat hs] at this
theorem m_ones {s : Nat} (hs : s < 4294967296) (hQ : Q ((cnt s.testBit 32 : Nat) : Int) M) : am_s am_P am_gg (d + 1) 227 [.inl (w32 (s : Int))] M Q := by
  refine (v_227 _ _ _ _).mpr ?_
  refine am_x_le [none, some (.inl ((0 : Nat) : Int)), some (.inl (w32 (s : Int)))] (am_lb_le _ _ ⟨rfl, rfl, trivial⟩) ?_
  refine p_whi (S := Nat × Nat) (X := fun x => am_x am_P am_gg d am_k227 1 Q 4 [none, some (.inl (x.1 : Int)), some (.inl (w32 (x.2 : Int)))] [] M 0 0) (fun n x => x.2 = n ∧ x.2 < 4294967296 ∧ x.1 + cnt x.2.testBit 32 = cnt s.testBit 32) ?_ s (0, s) ⟨rfl, hs, Nat.zero_add _⟩
  intro n x hx k
  obtain ⟨a, v⟩ := x
  obtain ⟨rfl, hv, he⟩ := hx
  dsimp only at hv he ⊢
  refine (h_227_4 _ _ _ _ _).mpr ?_
  refine @p_if _ _ _ _ ?_ ?_
  · intro h
    have hv0 : v = 0 := by unfold w32 at h; omega
    subst hv0
    have : cnt (Nat.testBit 0) 32 = 0 := cnt_zero (fun k _ => Nat.zero_testBit k)
    rw [show a = cnt s.testBit 32 by omega]; exact hQ
  · intro h
    have hv0 : v ≠ 0 := fun q => h (by subst q; decide)
    have hc := b_drop_cnt hv0 (n := 32) hv
    have hl := cnt_le (p := s.testBit) 32
    have e1 : w32 (w32 (v : Int) - 1) = w32 ((v - 1 : Nat) : Int) := by unfold w32; omega
    rw [e1, b_and hv (by omega), w32_s (by omega)]
    exact k _ (a + 1, v &&& (v - 1)) (b_drop_lt hv0) ⟨rfl, Nat.lt_trans (b_drop_lt hv0) hv, by dsimp only; omega⟩
theorem m_rules (hB : rb (M 174) 0 B) (hQ : Q (B 0 : Int) M) : am_s am_P am_gg (d + 1) 228 [.inr (.inr 174)] M Q := by
  refine (v_228_174 _ _ _).mpr ?_
  rw [show M 174 0 = (B 0 : Int) from hB.at (k := 0) (by omega)]; exact hQ
theorem m_isRule (hB : rb (M 174) 0 B) (hn : B 0 ≤ 16) {a : Int} (h1 : 0 ≤ a ∧ a < B 0 → Q 1 M) (h0 : ¬ (0 ≤ a ∧ a < B 0) → Q 0 M) : am_s am_P am_gg (d + 2) 229 [.inr (.inr 174), .inl a] M Q := by
  refine (v_229_174 _ _ _ _).mpr (m_rules hB ?_)
  rw [w32_i (by omega) (by omega)]
  refine m_isIn ?_ ?_
  · intro h; rw [if_pos (by omega)]; exact h1 (by omega)
  · intro h; rw [if_pos (by omega)]; exact h0 (by omega)
theorem m_isOn (hB : rb (M 174) 0 B) (hn : B 1 < 65536) {r : Nat} (hr : r < 32) (h1 : gon B r = true → Q 1 M) (h0 : gon B r = false → Q 0 M) : am_s am_P am_gg (d + 2) 230 [.inr (.inr 174), .inl (r : Int)] M Q := by
  refine (v_230_174 _ _ _ _).mpr ?_
  rw [show M 174 1 = (B 1 : Int) from hB.at (k := 1) (by omega)]
  refine m_bitn (by omega) hr ?_ ?_
  · intro h; rw [if_pos (by omega)]; exact h1 h
  · intro h; rw [if_pos (by omega)]; exact h0 h
theorem m_sym (hB : rb (M 174) 0 B) {r : Nat} (hr : r < 16) (hQ : Q (gsy B r : Int) M) : am_s am_P am_gg (d + 1) 231 [.inr (.inr 174), .inl (r : Int)] M Q := by
  refine (v_231_174 _ _ _ _).mpr ?_
  rw [show w32 (3 + (r : Int)) = ((3 + r : Nat) : Int) by rw [w32_i (by omega) (by omega)]; rfl]
  rw [if_pos (by omega)]
  rw [hB.at (by omega)]; exact hQ
theorem m_size (hB : rb (M 174) 0 B) {r : Nat} (hr : r < 16) (hQ : Q (gsz B r : Int) M) : am_s am_P am_gg (d + 1) 232 [.inr (.inr 174), .inl (r : Int)] M Q := by
  refine (v_232_174 _ _ _ _).mpr ?_
  rw [show w32 (19 + (r : Int)) = ((19 + r : Nat) : Int) by rw [w32_i (by omega) (by omega)]; rfl]
  rw [if_pos (by omega)]
  rw [hB.at (by omega)]; exact hQ
theorem m_sign (hB : rb (M 174) 0 B) {r i : Nat} (hr : r < 16) (hi : i < 4) (hQ : Q (gsg B r i : Int) M) : am_s am_P am_gg (d + 1) 233 [.inr (.inr 174), .inl (r : Int), .inl (i : Int)] M Q := by
  refine (v_233_174 _ _ _ _ _).mpr ?_
  rw [show w32 (4 * (r : Int)) = 4 * (r : Int) from w32_i (by omega) (by omega), show w32 (51 + 4 * (r : Int)) = 51 + 4 * (r : Int) from w32_i (by omega) (by omega), show w32 (51 + 4 * (r : Int) + (i : Int)) = ((51 + 4 * r + i : Nat) : Int) by rw [w32_i (by omega) (by omega)]; omega]
  rw [if_pos (by omega)]
  rw [hB.at (by omega)]; exact hQ
/-- a symbol that has a rule -/
def gT (B : Nat → Nat) (s : Int) : Prop := ∃ r, r < B 0 ∧ (gsy B r : Int) = s
theorem m_isTold (hB : rb (M 174) 0 B) (hn : B 0 ≤ 16) {a : Int} (h1 : gT B a → Q 1 M) (h0 : ¬ gT B a → Q 0 M) : am_s am_P am_gg (d + 2) 234 [.inr (.inr 174), .inl a] M Q := by
  refine (v_234_174 _ _ _ _).mpr ?_
  refine p_for (S := Unit) (X := fun i _ => am_x am_P am_gg (d + 1) am_k234 4 Q 2 [some (.inr (.inr 174)), some (.inl a), some (.inl i)] [] M 0 0) (B 0) (fun i _ => ∀ r, r < i → (gsy B r : Int) ≠ a) ?_ ?_ 0 () (by omega) (fun r hr => absurd hr (Nat.not_lt_zero r))
  · intro _ hI
    refine (h_234_2_174 _ _ _ _ _).mpr (m_rules hB ?_)
    rw [if_neg (by omega)]
    exact h0 (fun ⟨r, hr, e⟩ => hI r hr e)
  · intro i _ hi hI k
    refine (h_234_2_174 _ _ _ _ _).mpr (m_rules hB ?_)
    rw [if_pos (by omega)]
    refine m_sym hB (by omega) ?_
    refine @p_if _ _ _ _ ?_ ?_
    · intro e; exact h1 ⟨i, hi, e⟩
    intro e
    rw [w32_s (by omega)]
    refine k () (fun r hr => ?_)
    by_cases q : r = i
    · subst q; exact e
    · exact hI r (by omega)
theorem m_isSymbol {a : Int} (h1 : 0 ≤ a ∧ a < 8 → Q 1 M) (h0 : ¬ (0 ≤ a ∧ a < 8) → Q 0 M) : am_s am_P am_gg (d + 2) 235 [.inr (.inr 174), .inl a] M Q := by
  refine (v_235_174 _ _ _ _).mpr (m_isIn ?_ ?_)
  · intro h; rw [if_pos (by omega)]; exact h1 (by omega)
  · intro h; rw [if_pos (by omega)]; exact h0 (by omega)
theorem m_copy {o1 o2 : Nat} (h1 : o1 + 115 ≤ 1150) (h2 : o2 + 115 ≤ 1150) (hd : o1 + 115 ≤ o2 ∨ o2 + 115 ≤ o1) (hQ : Q 0 (am_cpy M 174 174 o1 o2 115)) : am_s am_P am_gg (d + 1) 236 [.inr (.inr 174), .inl (o1 : Int), .inl (o2 : Int)] M Q := by
  refine (v_236_174 _ _ _ _ _).mpr ?_
  refine p_for (S := (Nat → Int → Int)) (X := fun i M => am_x am_P am_gg d am_k236 0 Q 2 [some (.inr (.inr 174)), some (.inl (o1 : Int)), some (.inl (o2 : Int)), some (.inl i)] [] M 0 0) 115 (fun i M' => M' = am_cpy M 174 174 o1 o2 i) ?_ ?_ 0 M (by omega) ?_
  · intro M' e; subst e
    refine (h_236_2_174 _ _ _ _ _ _).mpr ?_
    rw [if_neg (by omega)]
    exact hQ
  · intro i M' hi e k; subst e
    refine (h_236_2_174 _ _ _ _ _ _).mpr ?_
    rw [if_pos (by omega)]
    rw [show w32 ((o1 : Int) + (i : Int)) = (o1 : Int) + i from w32_i (by omega) (by omega), show w32 ((o2 : Int) + (i : Int)) = (o2 : Int) + i from w32_i (by omega) (by omega)]
    rw [if_pos (by omega)]
    rw [if_pos (by omega)]
    rw [w32_s (by omega)]
    refine k _ ?_
    funext c j
    rw [up_if, cpy_if, cpy_if, cpy_if]
    by_cases hc : c = 174
    · subst hc
      by_cases hj : j = (o2 : Int) + i
      · subst hj
        rw [if_pos ⟨rfl, rfl⟩, if_neg (by omega), if_pos (by omega)]
        congr 1; omega
      · rw [if_neg (by omega)]
        by_cases hj2 : (o2 : Int) ≤ j ∧ j < (o2 : Int) + i
        · rw [if_pos (by omega), if_pos (by omega)]
        · rw [if_neg (by omega), if_neg (by omega)]
    · rw [if_neg (by omega), if_neg (by omega), if_neg (by omega)]
  · funext c j
    rw [cpy_if, if_neg (by omega)]
end S53
