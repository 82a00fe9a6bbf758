/-! how the reference reads a byte -/
def rdr (w o t : Nat) (D : Nat → Nat) (M : (Nat → Int → Int)) : Prop := M 173 8 = (w : Int) ∧ (w ≠ 0 → M 173 9 = (o : Int)) ∧ M 173 10 = (t : Int) ∧ rb (M 174) 1035 D
/-- what reading leaves as it was -/
def rrF (M M' : (Nat → Int → Int)) : Prop := (∀ c, c ≠ 173 → c ≠ 174 → M' c = M c) ∧ (∀ i : Int, i < 8 ∨ 10 < i → M' 173 i = M 173 i) ∧ (∀ j : Int, j < 1035 → M' 174 j = M 174 j)
section S65
variable {M : (Nat → Int → Int)} {d : Nat} {Q : Int → (Nat → Int → Int) → Prop} {b : Nat} {D : Nat → Nat} {w o t : Nat}
theorem rb.o {f : Int → Int} {o k : Nat} (h : rb f o D) (hk : k < 115) {j : Int} (hj : j = ((o + k : Nat) : Int)) : f j = (D k : Int) := by rw [hj]; exact h k hk
theorem rb_gUo {f f' : Int → Int} {o k v : Nat} (h : rb f o D) (hk : k < 115) (he : ∀ j : Int, f' j = if j = ((o + k : Nat) : Int) then (v : Int) else f j) : rb f' o (gU D k v) := by
  intro j hj
  rw [he]
  unfold gU
  by_cases q : j = k
  · subst q; rw [if_pos rfl, if_pos rfl]
  · rw [if_neg (by omega), if_neg q, h j hj]
theorem rb_up {o k v : Nat} (h : rb (M 174) o D) (hk : k < 115) {j : Int} (hj : j = ((o + k : Nat) : Int)) {x : Int} (hx : x = (v : Int)) : rb (am_up M 174 j x 174) o (gU D k v) := by
  subst hj; subst hx
  exact rb_gUo h hk (fun j => up_ci _ _ _ _ _)
theorem rrF_rf : rrF M M := ⟨fun _ _ _ => rfl, fun _ _ => rfl, fun _ _ => rfl⟩
theorem rrF_3 {M' : (Nat → Int → Int)} (h : rrF M M') {i v : Int} (hi : 8 ≤ i ∧ i ≤ 10) : rrF M (am_up M' 173 i v) :=
  ⟨fun c a b => by rw [up_nc _ _ _ _ a]; exact h.1 c a b, fun j hj => by rw [up_ni _ _ _ _ (by omega)]; exact h.2.1 j hj, fun j hj => by rw [up_nc _ _ _ _ (by decide)]; exact h.2.2 j hj⟩
theorem rrF_4 {M' : (Nat → Int → Int)} (h : rrF M M') {i v : Int} (hi : 1035 ≤ i) : rrF M (am_up M' 174 i v) :=
  ⟨fun c a b => by rw [up_nc _ _ _ _ b]; exact h.1 c a b, fun j hj => by rw [up_nc _ _ _ _ (by decide)]; exact h.2.1 j hj, fun j hj => by rw [up_ni _ _ _ _ (by omega)]; exact h.2.2 j hj⟩
theorem m_cap {a : Int} (h1 : 65 ≤ a ∧ a ≤ 72 → Q 1 M) (h0 : ¬ (65 ≤ a ∧ a ≤ 72) → Q 0 M) : am_s am_P am_gg (d + 2) 241 [.inl a] M Q := by
  refine (v_241 _ _ _ _).mpr (m_isIn ?_ ?_)
  · intro h; rw [if_pos (by omega)]; exact h1 h
  · intro h; rw [if_pos (by omega)]; exact h0 h
theorem m_small {a : Int} (h1 : 97 ≤ a ∧ a ≤ 112 → Q 1 M) (h0 : ¬ (97 ≤ a ∧ a ≤ 112) → Q 0 M) : am_s am_P am_gg (d + 2) 242 [.inl a] M Q := by
  refine (v_242 _ _ _ _).mpr (m_isIn ?_ ?_)
  · intro h; rw [if_pos (by omega)]; exact h1 h
  · intro h; rw [if_pos (by omega)]; exact h0 h
theorem m_strange {a : Int} (h0 : (65 ≤ a ∧ a ≤ 72) ∨ (97 ≤ a ∧ a ≤ 112) ∨ (48 ≤ a ∧ a ≤ 57) ∨ a = 61 ∨ a = 124 ∨ a = 59 ∨ a = 58 ∨ a = 10 ∨ a = 32 → Q 0 M) (h1 : ¬ ((65 ≤ a ∧ a ≤ 72) ∨ (97 ≤ a ∧ a ≤ 112) ∨ (48 ≤ a ∧ a ≤ 57) ∨ a = 61 ∨ a = 124 ∨ a = 59 ∨ a = 58 ∨ a = 10 ∨ a = 32) → Q 1 M) : am_s am_P am_gg (d + 3) 243 [.inl a] M Q := by
  refine (v_243 _ _ _ _).mpr (m_cap ?_ ?_)
  · intro g
    rw [if_neg (by omega)]
    exact h0 (by omega)
  intro g
  rw [if_pos (by omega)]
  refine m_small ?_ ?_
  · intro g
    rw [if_neg (by omega)]
    exact h0 (by omega)
  intro g
  rw [if_pos (by omega)]
  refine m_isIn ?_ ?_
  · intro g
    rw [if_neg (by omega)]
    exact h0 (by omega)
  intro g
  rw [if_pos (by omega)]
  refine @p_if _ _ _ _ ?_ ?_
  · intro e; exact h0 (by omega)
  intro e
  refine @p_if _ _ _ _ ?_ ?_
  · intro e; exact h0 (by omega)
  intro e
  refine @p_if _ _ _ _ ?_ ?_
  · intro e; exact h0 (by omega)
  intro e
  refine @p_if _ _ _ _ ?_ ?_
  · intro e; exact h0 (by omega)
  intro e
  refine @p_if _ _ _ _ ?_ ?_
  · intro e; exact h0 (by omega)
  intro e
  refine @p_if _ _ _ _ ?_ ?_
  · intro e; exact h0 (by omega)
  · intro e; exact h1 (by omega)
theorem m_addsSign (hb : b < 128) (hS : rdS b ≠ 99) (hn : D 0 ≤ 16) (h0 : 1 ≤ D 0) (hz4 : gsz D (D 0 - 1) < 4) (h : rb (M 174) 1035 D) (hQ : ∀ M', rb (M' 174) 1035 (rdA D (rdS b)) → (∀ c, c ≠ 174 → M' c = M c) → (∀ j : Int, j < 1035 → M' 174 j = M 174 j) → Q 0 M') : am_s am_P am_gg (d + 3) 244 [.inr (.inr 174), .inl (b : Int)] M Q := by
  refine (v_244_174 _ _ _ _).mpr ?_
  have e0 : M 174 1035 = (D 0 : Int) := h.o (k := 0) (by omega) rfl
  have e1 : w32 (1054 + w32 ((M 174 1035) - 1)) = ((1035 + (19 + (D 0 - 1)) : Nat) : Int) := by rw [e0, w32_i (x := (D 0 : Int) - 1) (by omega) (by omega), w32_i (by omega) (by omega)]; omega
  have e2 : M 174 ((1035 + (19 + (D 0 - 1)) : Nat) : Int) = (gsz D (D 0 - 1) : Int) := h (19 + (D 0 - 1)) (by omega)
  have e3 : w32 (w32 (1086 + w32 (4 * w32 ((M 174 1035) - 1))) + (gsz D (D 0 - 1) : Int)) = ((1035 + (51 + 4 * (D 0 - 1) + gsz D (D 0 - 1)) : Nat) : Int) := by
    rw [e0, w32_i (x := (D 0 : Int) - 1) (by omega) (by omega), w32_i (x := 4 * ((D 0 : Int) - 1)) (by omega) (by omega), w32_i (x := 1086 + 4 * ((D 0 : Int) - 1)) (by omega) (by omega), w32_i (by omega) (by omega)]; omega
  rw [e1, e2, e3]
  have fin : ∀ v : Int, v = (rdS b : Int) → Q 0 (am_up (am_up M 174 ((1035 + (51 + 4 * (D 0 - 1) + gsz D (D 0 - 1)) : Nat) : Int) v) 174 ((1035 + (19 + (D 0 - 1)) : Nat) : Int) (w32 ((am_up M 174 ((1035 + (51 + 4 * (D 0 - 1) + gsz D (D 0 - 1)) : Nat) : Int) v) 174 ((1035 + (19 + (D 0 - 1)) : Nat) : Int) + 1))) := by
    intro v hv
    rw [up_ni _ _ _ _ (by omega), e2, w32_s (by omega)]
    refine hQ _ (rb_up (rb_up h (by omega) rfl hv) (by omega) rfl rfl) (fun c g => by rw [up_nc _ _ _ _ g, up_nc _ _ _ _ g]) (fun j g => by rw [up_ni _ _ _ _ (by omega), up_ni _ _ _ _ (by omega)])
  rw [if_pos (by omega)]
  refine m_cap ?_ ?_
  · intro g
    rw [if_neg (by omega)]
    rw [if_pos (by omega)]
    rw [if_pos (by omega)]
    rw [if_pos (by omega)]
    refine fin _ ?_
    unfold rdS; rw [if_pos (by omega), w32_i (by omega) (by omega)]; omega
  · intro g
    rw [if_pos (by omega)]
    rw [if_pos (by omega)]
    rw [if_pos (by omega)]
    rw [if_pos (by omega)]
    refine fin _ ?_
    unfold rdS at hS ⊢
    rw [if_neg (by omega)] at hS ⊢
    have : 97 ≤ b ∧ b ≤ 112 := by
      by_cases q : 97 ≤ b ∧ b ≤ 112
      · exact q
      · rw [if_neg q] at hS; exact absurd rfl hS
    rw [if_pos this, w32_i (x := 16 + (b : Int)) (by omega) (by omega), w32_i (by omega) (by omega)]; omega
theorem rdS_lt8 {b : Nat} : rdS b < 8 ↔ 65 ≤ b ∧ b ≤ 72 := by unfold rdS; split; omega; split <;> omega
theorem rdS_99 {b : Nat} : rdS b ≠ 99 ↔ (65 ≤ b ∧ b ≤ 72) ∨ (97 ≤ b ∧ b ≤ 112) := by unfold rdS; split; omega; split <;> omega
theorem m_endsRow (h : rdr w o t D M) (w0 : w ≠ 0) (hQ : ∀ M', (b = 59 → rdr 0 o t D M') → (b = 124 → rdr 2 o t D M') → (M' 174 = M 174) → rrF M M' → Q (if b = 59 then 0 else if b = 124 then 0 else 2) M') : am_s am_P am_gg (d + 1) 247 [.inr (.inr 174), .inl (b : Int)] M Q := by
  obtain ⟨a1, a2, a3, a4⟩ := h
  refine (v_247_174 _ _ _ _).mpr ?_
  by_cases q : b = 124
  · rw [if_neg (by omega), if_pos q] at hQ
    rw [if_pos (by omega)]
    rw [if_pos (by omega)]
    exact hQ _ (fun z => by omega) (fun _ => ⟨rfl, fun _ => a2 w0, a3, a4⟩) rfl (rrF_3 rrF_rf (by omega))
  rw [if_neg (by omega)]
  by_cases q2 : b = 59
  · rw [if_pos q2] at hQ
    rw [if_pos (by omega)]
    rw [if_neg (by omega)]
    exact hQ _ (fun _ => ⟨rfl, fun z => absurd rfl z, a3, a4⟩) (fun z => by omega) rfl (rrF_3 rrF_rf (by omega))
  · rw [if_neg q2, if_neg q] at hQ
    rw [if_neg (by omega)]
    exact hQ M (fun z => by omega) (fun z => by omega) rfl rrF_rf
theorem m_takes {x : rd} (h : rdr x.1 x.2.1 x.2.2.1 x.2.2.2 M) (hW : rdW x) (hb : b < 256) (hQ : ∀ M', ((rdT x b).1 = 0 → rdr (rdT x b).2.1 (rdT x b).2.2.1 (rdT x b).2.2.2.1 (rdT x b).2.2.2.2 M') → ((rdT x b).1 ≠ 0 → M' 174 = M 174) → rrF M M' → Q ((rdT x b).1 : Int) M') : am_s am_P am_gg (d + 5) 250 [.inr (.inr 174), .inl (w8 (b : Int))] M Q := by
  obtain ⟨w, o, t, D⟩ := x
  have hh : rdr w o t D M := h
  obtain ⟨a1, a2, a3, a4⟩ := h
  obtain ⟨c1, c2, c3, c4, c5, c6, c7, c8, c9, c10⟩ := hW
  dsimp only at a1 a2 a3 a4 c1 c2 c3 c4 c5 c6 c7 c8 c9 c10
  have hn := c2.1
  have hS := rdS_c b
  refine (v_250_174 _ _ _ _).mpr ?_
  by_cases h128 : 128 ≤ b
  · have e : rdT (w, o, t, D) b = (1, (w, o, t, D)) := by
      unfold rdT
      rw [if_neg (by omega), if_pos ⟨by have := mt rdS_99.mp (show ¬ ((65 ≤ b ∧ b ≤ 72) ∨ (97 ≤ b ∧ b ≤ 112)) by omega); omega, by omega⟩]
    rw [e] at hQ
    have ew : w8 (b : Int) = (b : Int) - 256 := by unfold w8; omega
    rw [ew]
    refine m_strange ?_ ?_
    · intro g; omega
    · intro g
      rw [if_neg (by omega)]
      exact hQ M (fun z => by cases z) (fun _ => rfl) rrF_rf
  have ew : w8 (b : Int) = (b : Int) := by unfold w8; omega
  rw [ew]
  unfold rdT at hQ
  dsimp only at hQ
  have e0 : M 174 1035 = (D 0 : Int) := a4.o (k := 0) (by omega) rfl
  refine m_strange ?_ ?_
  · intro g
    rw [if_pos (by omega)]
    by_cases k1 : b = 10 ∨ b = 32
    · rw [if_pos k1] at hQ
      refine @p_if _ _ _ _ ?_ ?_
      · intro q; exact hQ M (fun _ => hh) (fun _ => rfl) rrF_rf
      intro q
      rw [if_pos (by omega)]
      exact hQ M (fun _ => hh) (fun _ => rfl) rrF_rf
    rw [if_neg k1] at hQ
    rw [if_neg (by omega)]
    rw [if_neg (by omega)]
    rw [if_neg (show ¬ (rdS b = 99 ∧ ¬ ((48 ≤ b ∧ b ≤ 57) ∨ b = 61 ∨ b = 124 ∨ b = 59 ∨ b = 58)) from fun z => by
      have := mt rdS_99.mpr (show ¬ rdS b ≠ 99 by omega); omega)] at hQ
    rw [a1]
    by_cases w0 : w = 0
    · rw [if_pos w0] at hQ
      rw [if_pos (by omega)]
      refine (v_245_174 _ _ _ _).mpr (m_cap ?_ ?_)
      · intro q
        have q8 : rdS b < 8 := rdS_lt8.mpr (by omega)
        have es : rdS b = b - 65 := by unfold rdS; rw [if_pos (by omega)]
        rw [if_neg (show ¬ 8 ≤ rdS b by omega)] at hQ
        rw [if_neg (by omega)]
        rw [show w32 ((b : Int) - 65) = (rdS b : Int) by rw [w32_i (by omega) (by omega), es]; omega, a3]
        refine m_bitn (by omega) (by omega) ?_ ?_
        · intro q4
          rw [if_pos q4] at hQ
          rw [if_neg (by omega)]
          exact hQ M (fun z => by cases z) (fun _ => rfl) rrF_rf
        · intro q4
          rw [if_neg (by rw [q4]; decide)] at hQ
          rw [if_pos (by omega)]
          rw [a3]
          have et : i_or (t : Int) (i_shl 1 (rdS b : Int)) = ((t ||| 2 ^ rdS b : Nat) : Int) := i_add_bit (by omega) (by omega)
          rw [et]
          rcases Classical.em (t = 0) with t0 | t0
          · rw [if_pos t0] at hQ
            rw [if_pos (by omega)]
            refine hQ _ (fun _ => ⟨up_eq _ _ _ _, fun _ => ?_, ?_, ?_⟩) (fun z => absurd rfl z) (rrF_3 (rrF_3 (rrF_4 (rrF_3 rrF_rf (by omega)) (by omega)) (by omega)) (by omega))
            · rw [up_ni _ _ _ _ (by decide), up_ni _ _ _ _ (by decide), up_nc _ _ _ _ (by decide), up_eq]
            · rw [up_ni _ _ _ _ (by decide), up_eq]
            · rw [up_nc _ _ _ _ (by decide), up_nc _ _ _ _ (by decide)]
              exact rb_up (k := 2) (v := rdS b) (by rw [up_nc _ _ _ _ (by decide)]; exact a4) (by omega) rfl rfl
          · rw [if_neg t0] at hQ
            rw [if_neg (by omega)]
            refine hQ _ (fun _ => ⟨up_eq _ _ _ _, fun _ => ?_, ?_, ?_⟩) (fun z => absurd rfl z) (rrF_3 (rrF_3 (rrF_3 rrF_rf (by omega)) (by omega)) (by omega))
            · rw [up_ni _ _ _ _ (by decide), up_ni _ _ _ _ (by decide), up_eq]
            · rw [up_ni _ _ _ _ (by decide), up_eq]
            · rw [up_nc _ _ _ _ (by decide), up_nc _ _ _ _ (by decide), up_nc _ _ _ _ (by decide)]; exact a4
      · intro q
        rw [if_pos (show 8 ≤ rdS b by have := mt rdS_lt8.mp (show ¬ (65 ≤ b ∧ b ≤ 72) by omega); omega)] at hQ
        rw [if_pos (by omega)]
        exact hQ M (fun z => by cases z) (fun _ => rfl) rrF_rf
    rw [if_neg w0] at hQ
    rw [if_neg (by omega)]
    by_cases w1 : w = 1
    · rw [if_pos w1] at hQ
      rw [if_pos (by omega)]
      by_cases q : b = 61
      · rw [if_pos q] at hQ
        rw [if_pos (by omega)]
        rw [if_pos (by omega)]
        exact hQ _ (fun _ => ⟨up_eq _ _ _ _, fun _ => by rw [up_ni _ _ _ _ (by decide)]; exact a2 w0, by rw [up_ni _ _ _ _ (by decide)]; exact a3, by rw [up_nc _ _ _ _ (by decide)]; exact a4⟩) (fun z => absurd rfl z) (rrF_3 rrF_rf (by omega))
      · rw [if_neg q] at hQ
        rw [if_neg (by omega)]
        rw [if_neg (by omega)]
        exact hQ _ (fun z => by cases z) (fun _ => up_nc _ _ _ _ (by decide)) (rrF_3 rrF_rf (by omega))
    rw [if_neg w1] at hQ
    rw [if_neg (by omega)]
    by_cases w2 : w = 2
    · rw [if_pos w2] at hQ
      rw [if_pos (by omega)]
      refine (v_246_174 _ _ _ _).mpr ?_
      have main : rdS b ≠ 99 → (if M 174 1035 = 16 then Q 5 M else (if 0 ≤ w32 (1038 + (M 174 1035)) ∧ w32 (1038 + (M 174 1035)) < 1150 then (if 0 ≤ w32 (1054 + (M 174 1035)) ∧ w32 (1054 + (M 174 1035)) < 1150 then (if 0 ≤ w32 (1070 + (M 174 1035)) ∧ w32 (1070 + (M 174 1035)) < 1150 then am_s am_P am_gg (d + 3) 244 [.inr (.inr 174), .inl (b : Int)] (am_up (am_up (am_up (am_up M 174 (w32 (1038 + (M 174 1035))) (M 173 9)) 174 (w32 (1054 + (M 174 1035))) 0) 174 (w32 (1070 + (M 174 1035))) 1) 174 1035 (w32 (((am_up (am_up (am_up M 174 (w32 (1038 + (M 174 1035))) (M 173 9)) 174 (w32 (1054 + (M 174 1035))) 0) 174 (w32 (1070 + (M 174 1035))) 1) 174 1035) + 1))) (fun r3 M3 => Q 0 (am_up M3 173 8 3)) else False) else False) else False)) := by
        intro q9
        rw [if_neg q9] at hQ
        rw [e0]
        by_cases q16 : D 0 = 16
        · rw [if_pos q16] at hQ
          rw [if_pos (by omega)]
          exact hQ M (fun z => by cases z) (fun _ => rfl) rrF_rf
        rw [if_neg q16] at hQ
        rw [if_neg (by omega)]
        have x1 : w32 (1038 + (D 0 : Int)) = ((1035 + (3 + D 0) : Nat) : Int) := by rw [w32_i (by omega) (by omega)]; omega
        have x2 : w32 (1054 + (D 0 : Int)) = ((1035 + (19 + D 0) : Nat) : Int) := by rw [w32_i (by omega) (by omega)]; omega
        have x3 : w32 (1070 + (D 0 : Int)) = ((1035 + (35 + D 0) : Nat) : Int) := by rw [w32_i (by omega) (by omega)]; omega
        rw [x1, x2, x3]
        rw [if_pos (by omega)]
        rw [if_pos (by omega)]
        rw [if_pos (by omega)]
        rw [up_ni _ _ _ _ (by omega), up_ni _ _ _ _ (by omega), up_ni _ _ _ _ (by omega), e0, w32_s (by omega)]
        have hR : rb (am_up (am_up (am_up (am_up M 174 ((1035 + (3 + D 0) : Nat) : Int) (M 173 9)) 174 ((1035 + (19 + D 0) : Nat) : Int) 0) 174 ((1035 + (35 + D 0) : Nat) : Int) 1) 174 1035 ((D 0 + 1 : Nat) : Int) 174) 1035 (rdR D o) :=
          rb_up (k := 0) (rb_up (rb_up (rb_up a4 (by omega) rfl (a2 w0)) (by omega) rfl rfl) (by omega) rfl rfl) (by omega) rfl rfl
        refine m_addsSign (by omega) q9 (by rw [rdR_0]; omega) (by rw [rdR_0]; omega) (by rw [rdR_0, rdR_sz (by omega) (by omega), if_pos (by omega)]; omega) hR (fun M' b1 b2 b3 => ?_)
        refine hQ _ (fun _ => ⟨up_eq _ _ _ _, fun _ => ?_, ?_, ?_⟩) (fun z => absurd rfl z) (rrF_3 ⟨fun c g1 g2 => ?_, fun i g => ?_, fun j g => ?_⟩ (by omega))
        · rw [up_ni _ _ _ _ (by decide), b2 173 (by decide), up_nc _ _ _ _ (by decide), up_nc _ _ _ _ (by decide), up_nc _ _ _ _ (by decide), up_nc _ _ _ _ (by decide)]; exact a2 w0
        · rw [up_ni _ _ _ _ (by decide), b2 173 (by decide), up_nc _ _ _ _ (by decide), up_nc _ _ _ _ (by decide), up_nc _ _ _ _ (by decide), up_nc _ _ _ _ (by decide)]; exact a3
        · rw [up_nc _ _ _ _ (by decide)]; exact b1
        · rw [b2 c g2, up_nc _ _ _ _ g2, up_nc _ _ _ _ g2, up_nc _ _ _ _ g2, up_nc _ _ _ _ g2]
        · rw [b2 173 (by decide), up_nc _ _ _ _ (by decide), up_nc _ _ _ _ (by decide), up_nc _ _ _ _ (by decide), up_nc _ _ _ _ (by decide)]
        · rw [b3 j g, up_ni _ _ _ _ (by omega), up_ni _ _ _ _ (by omega), up_ni _ _ _ _ (by omega), up_ni _ _ _ _ (by omega)]
      refine m_cap ?_ ?_
      · intro q
        rw [if_neg (by omega)]
        exact main (rdS_99.mpr (by omega))
      · intro q
        rw [if_pos (by omega)]
        refine m_small ?_ ?_
        · intro q2
          rw [if_neg (by omega)]
          exact main (rdS_99.mpr (by omega))
        · intro q2
          rw [if_pos (show rdS b = 99 by have := mt rdS_99.mp (show ¬ ((65 ≤ b ∧ b ≤ 72) ∨ (97 ≤ b ∧ b ≤ 112)) by omega); omega)] at hQ
          rw [if_pos (by omega)]
          exact hQ M (fun z => by cases z) (fun _ => rfl) rrF_rf
    rw [if_neg w2] at hQ
    rw [if_neg (by omega)]
    obtain ⟨p1, p2⟩ := c5 (by omega)
    obtain ⟨-, -, hz, -, -⟩ := c2.2 (D 0 - 1) (by omega)
    by_cases w3 : w = 3
    · rw [if_pos w3] at hQ
      rw [if_pos (by omega)]
      refine (v_248_174 _ _ _ _).mpr ?_
      have main : rdS b ≠ 99 → (if 0 ≤ w32 ((w32 (1054 + (M 174 1035))) - 1) ∧ w32 ((w32 (1054 + (M 174 1035))) - 1) < 1150 then (if M 174 (w32 ((w32 (1054 + (M 174 1035))) - 1)) = 4 then Q 4 M else am_s am_P am_gg (d + 3) 244 [.inr (.inr 174), .inl (b : Int)] M (fun r4 M4 => Q 0 M4)) else False) := by
        intro q9
        rw [if_pos q9] at hQ
        rw [e0, show w32 (w32 (1054 + (D 0 : Int)) - 1) = ((1035 + (19 + (D 0 - 1)) : Nat) : Int) by rw [w32_i (x := 1054 + (D 0 : Int)) (by omega) (by omega), w32_i (by omega) (by omega)]; omega]
        rw [if_pos (by omega)]
        rw [a4 (19 + (D 0 - 1)) (by omega)]
        by_cases q4 : gsz D (D 0 - 1) = 4
        · rw [if_pos q4] at hQ
          rw [if_pos (show ((D (19 + (D 0 - 1)) : Nat) : Int) = 4 by unfold gsz at q4; omega)]
          exact hQ M (fun z => by cases z) (fun _ => rfl) rrF_rf
        · rw [if_neg q4] at hQ
          rw [if_neg (show ¬ ((D (19 + (D 0 - 1)) : Nat) : Int) = 4 by unfold gsz at q4; omega)]
          refine m_addsSign (by omega) q9 hn p1 (by omega) a4 (fun M' b1 b2 b3 => ?_)
          refine hQ _ (fun _ => ⟨?_, fun _ => ?_, ?_, b1⟩) (fun z => absurd rfl z) ⟨fun c g1 g2 => b2 c g2, fun i _ => by rw [b2 173 (by decide)], b3⟩
          · rw [b2 173 (by decide), a1, w3]
          · rw [b2 173 (by decide)]; exact a2 w0
          · rw [b2 173 (by decide)]; exact a3
      refine m_cap ?_ ?_
      · intro q
        rw [if_neg (by omega)]
        exact main (rdS_99.mpr (by omega))
      · intro q
        rw [if_pos (by omega)]
        refine m_small ?_ ?_
        · intro q2
          rw [if_neg (by omega)]
          exact main (rdS_99.mpr (by omega))
        · intro q2
          rw [if_neg (show ¬ rdS b ≠ 99 by have := mt rdS_99.mp (show ¬ ((65 ≤ b ∧ b ≤ 72) ∨ (97 ≤ b ∧ b ≤ 112)) by omega); omega)] at hQ
          rw [if_pos (by omega)]
          by_cases q58 : b = 58
          · rw [if_pos q58] at hQ
            rw [if_pos (by omega)]
            exact hQ _ (fun _ => ⟨up_eq _ _ _ _, fun _ => by rw [up_ni _ _ _ _ (by decide)]; exact a2 w0, by rw [up_ni _ _ _ _ (by decide)]; exact a3, by rw [up_nc _ _ _ _ (by decide)]; exact a4⟩) (fun z => absurd rfl z) (rrF_3 rrF_rf (by omega))
          · rw [if_neg q58] at hQ
            rw [if_neg (by omega)]
            refine m_endsRow hh w0 (fun M' k1 k2 k3 k4 => ?_)
            by_cases q59 : b = 59
            · rw [if_pos q59] at hQ ⊢; exact hQ _ (fun _ => k1 q59) (fun z => absurd rfl z) k4
            rw [if_neg q59] at hQ ⊢
            by_cases q124 : b = 124
            · rw [if_pos q124] at hQ ⊢; exact hQ _ (fun _ => k2 q124) (fun z => absurd rfl z) k4
            · rw [if_neg q124] at hQ ⊢; exact hQ _ (fun z => by cases z) (fun _ => k3) k4
    rw [if_neg w3] at hQ
    rw [if_neg (by omega)]
    by_cases w4 : w = 4
    · rw [if_pos w4] at hQ
      rw [if_pos (by omega)]
      refine (v_249_174 _ _ _ _).mpr (m_isIn ?_ ?_)
      · intro q
        rw [if_pos (show 48 ≤ b ∧ b ≤ 57 by omega)] at hQ
        rw [if_neg (by omega)]
        rw [e0, show w32 (w32 (1070 + (D 0 : Int)) - 1) = ((1035 + (35 + (D 0 - 1)) : Nat) : Int) by rw [w32_i (x := 1070 + (D 0 : Int)) (by omega) (by omega), w32_i (by omega) (by omega)]; omega]
        rw [if_pos (by omega)]
        refine hQ _ (fun _ => ⟨up_eq _ _ _ _, fun _ => ?_, ?_, ?_⟩) (fun z => absurd rfl z) (rrF_3 (rrF_4 rrF_rf (by omega)) (by omega))
        · rw [up_ni _ _ _ _ (by decide), up_nc _ _ _ _ (by decide)]; exact a2 w0
        · rw [up_ni _ _ _ _ (by decide), up_nc _ _ _ _ (by decide)]; exact a3
        · rw [up_nc _ _ _ _ (by decide)]
          exact rb_up a4 (by omega) rfl (by rw [w32_i (by omega) (by omega)]; omega)
      · intro q
        rw [if_neg (show ¬ (48 ≤ b ∧ b ≤ 57) by omega)] at hQ
        rw [if_pos (by omega)]
        exact hQ M (fun z => by cases z) (fun _ => rfl) rrF_rf
    rw [if_neg w4] at hQ
    rw [if_neg (by omega)]
    refine m_endsRow hh w0 (fun M' k1 k2 k3 k4 => ?_)
    by_cases q59 : b = 59
    · rw [if_pos q59] at hQ ⊢; exact hQ _ (fun _ => k1 q59) (fun z => absurd rfl z) k4
    rw [if_neg q59] at hQ ⊢
    by_cases q124 : b = 124
    · rw [if_pos q124] at hQ ⊢; exact hQ _ (fun _ => k2 q124) (fun z => absurd rfl z) k4
    · rw [if_neg q124] at hQ ⊢; exact hQ _ (fun z => by cases z) (fun _ => k3) k4
  · intro g
    rw [if_neg (by omega)]
    rw [if_neg (by omega), if_pos ⟨by have := mt rdS_99.mp (show ¬ ((65 ≤ b ∧ b ≤ 72) ∨ (97 ≤ b ∧ b ≤ 112)) by omega); omega, by omega⟩] at hQ
    exact hQ M (fun z => by cases z) (fun _ => rfl) rrF_rf
end S65
