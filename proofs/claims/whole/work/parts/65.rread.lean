/-! how the reference reads a byte -/
def rdr (w o t : Nat) (D : Nat → Nat) (M : (Nat → Int → Int)) : Prop := M 173 8 = (w : Int) ∧ (w ≠ 0 → M 173 9 = (o : Int)) ∧ M 173 10 = (t : Int) ∧ rb (M 174) 1035 D
/-- what reading leaves as it was -/
def rrF (M M' : (Nat → Int → Int)) : Prop := (∀ c, c ≠ 173 → c ≠ 174 → M' c = M c) ∧ (∀ i : Int, i < 8 ∨ 10 < i → M' 173 i = M 173 i) ∧ (∀ j : Int, j < 1035 → M' 174 j = M 174 j)
section S65
variable {M : (Nat → Int → Int)} {d : Nat} {Q : Int → (Nat → Int → Int) → Prop} {b : Nat} {D : Nat → Nat} {w o t : Nat}
theorem rb.off {f : Int → Int} {o k : Nat} (h : rb f o D) (hk : k < 115) {j : Int} (hj : j = ((o + k : Nat) : Int)) : f j = (D k : Int) := by rw [hj]; exact h k hk
theorem rb_gUo {f f' : Int → Int} {o k v : Nat} (h : rb f o D) (hk : k < 115) (he : ∀ j : Int, f' j = if j = ((o + k : Nat) : Int) then (v : Int) else f j) : rb f' o (gU D k v) := by
  intro j hj
  rw [he]
  unfold gU
  by_cases q : j = k
  · subst q; rw [if_pos rfl, if_pos rfl]
  · rw [if_neg (by omega), if_neg q, h j hj]
theorem rb_up {o k v : Nat} (h : rb (M 174) o D) (hk : k < 115) {j : Int} (hj : j = ((o + k : Nat) : Int)) {x : Int} (hx : x = (v : Int)) : rb (am_up M 174 j x 174) o (gU D k v) := by
  subst hj; subst hx
  exact rb_gUo h hk (fun j => up_ci _ _ _ _ _)
theorem rrF_rf : rrF M M := ⟨fun _ _ _ => rfl, fun _ _ => rfl, fun _ _ => rfl⟩
theorem rrF_3 {M' : (Nat → Int → Int)} (h : rrF M M') {i v : Int} (hi : 8 ≤ i ∧ i ≤ 10) : rrF M (am_up M' 173 i v) :=
  ⟨fun c a b => by rw [up_nc _ _ _ _ a]; exact h.1 c a b, fun j hj => by rw [up_ni _ _ _ _ (by omega)]; exact h.2.1 j hj, fun j hj => by rw [up_nc _ _ _ _ (by decide)]; exact h.2.2 j hj⟩
theorem rrF_4 {M' : (Nat → Int → Int)} (h : rrF M M') {i v : Int} (hi : 1035 ≤ i) : rrF M (am_up M' 174 i v) :=
  ⟨fun c a b => by rw [up_nc _ _ _ _ b]; exact h.1 c a b, fun j hj => by rw [up_nc _ _ _ _ (by decide)]; exact h.2.1 j hj, fun j hj => by rw [up_ni _ _ _ _ (by omega)]; exact h.2.2 j hj⟩
theorem m_cap {a : Int} (h1 : 65 ≤ a ∧ a ≤ 72 → Q 1 M) (h0 : ¬ (65 ≤ a ∧ a ≤ 72) → Q 0 M) : am_s am_P am_gg (d + 2) 241 [.inl a] M Q := by
  refine (v_241 _ _ _ _).mpr (m_isIn ?_ ?_)
  · intro h; rw [if_pos (by omega)]; exact h1 h
  · intro h; rw [if_pos (by omega)]; exact h0 h
theorem m_small {a : Int} (h1 : 97 ≤ a ∧ a ≤ 112 → Q 1 M) (h0 : ¬ (97 ≤ a ∧ a ≤ 112) → Q 0 M) : am_s am_P am_gg (d + 2) 242 [.inl a] M Q := by
  refine (v_242 _ _ _ _).mpr (m_isIn ?_ ?_)
  · intro h; rw [if_pos (by omega)]; exact h1 h
  · intro h; rw [if_pos (by omega)]; exact h0 h
theorem m_strange {a : Int} (h0 : (65 ≤ a ∧ a ≤ 72) ∨ (97 ≤ a ∧ a ≤ 112) ∨ (48 ≤ a ∧ a ≤ 57) ∨ a = 61 ∨ a = 124 ∨ a = 59 ∨ a = 58 ∨ a = 10 ∨ a = 32 → Q 0 M) (h1 : ¬ ((65 ≤ a ∧ a ≤ 72) ∨ (97 ≤ a ∧ a ≤ 112) ∨ (48 ≤ a ∧ a ≤ 57) ∨ a = 61 ∨ a = 124 ∨ a = 59 ∨ a = 58 ∨ a = 10 ∨ a = 32) → Q 1 M) : am_s am_P am_gg (d + 3) 243 [.inl a] M Q := by
  refine (v_243 _ _ _ _).mpr (m_cap ?_ ?_)
  · intro g
    rw [if_neg (by omega)]
    exact h0 (by omega)
  intro g
  rw [if_pos (by omega)]
  refine m_small ?_ ?_
  · intro g
    rw [if_neg (by omega)]
    exact h0 (by omega)
  intro g
  rw [if_pos (by omega)]
  refine m_isIn ?_ ?_
  · intro g
    rw [if_neg (by omega)]
    exact h0 (by omega)
  intro g
  rw [if_pos (by omega)]
  refine @p_if _ _ _ _ ?_ ?_
  · intro e; exact h0 (by omega)
  intro e
  refine @p_if _ _ _ _ ?_ ?_
  · intro e; exact h0 (by omega)
  intro e
  refine @p_if _ _ _ _ ?_ ?_
  · intro e; exact h0 (by omega)
  intro e
  refine @p_if _ _ _ _ ?_ ?_
  · intro e; exact h0 (by omega)
  intro e
  refine @p_if _ _ _ _ ?_ ?_
  · intro e; exact h0 (by omega)
  intro e
  refine @p_if _ _ _ _ ?_ ?_
  · intro e; exact h0 (by omega)
  · intro e; exact h1 (by omega)
theorem m_addsSign (hb : b < 128) (hS : rdS b ≠ 99) (hn : D 0 ≤ 16) (h0 : 1 ≤ D 0) (hz4 : gsz D (D 0 - 1) < 4) (h : rb (M 174) 1035 D) (hQ : ∀ M', rb (M' 174) 1035 (rdA D (rdS b)) → (∀ c, c ≠ 174 → M' c = M c) → (∀ j : Int, j < 1035 → M' 174 j = M 174 j) → Q 0 M') : am_s am_P am_gg (d + 3) 244 [.inr (.inr 174), .inl (b : Int)] M Q := by
  refine (v_244_174 _ _ _ _).mpr ?_
  have e0 : M 174 1035 = (D 0 : Int) := h.off (k := 0) (by omega) rfl
  have e1 : w32 (1054 + w32 ((M 174 1035) - 1)) = ((1035 + (19 + (D 0 - 1)) : Nat) : Int) := by rw [e0, w32_i (x := (D 0 : Int) - 1) (by omega) (by omega), w32_i (by omega) (by omega)]; omega
  have e2 : M 174 ((1035 + (19 + (D 0 - 1)) : Nat) : Int) = (gsz D (D 0 - 1) : Int) := h (19 + (D 0 - 1)) (by omega)
  have e3 : w32 (w32 (1086 + w32 (4 * w32 ((M 174 1035) - 1))) + (gsz D (D 0 - 1) : Int)) = ((1035 + (51 + 4 * (D 0 - 1) + gsz D (D 0 - 1)) : Nat) : Int) := by
    rw [e0, w32_i (x := (D 0 : Int) - 1) (by omega) (by omega), w32_i (x := 4 * ((D 0 : Int) - 1)) (by omega) (by omega), w32_i (x := 1086 + 4 * ((D 0 : Int) - 1)) (by omega) (by omega), w32_i (by omega) (by omega)]; omega
  rw [e1, e2, e3]
  have fin : ∀ v : Int, v = (rdS b : Int) → Q 0 (am_up (am_up M 174 ((1035 + (51 + 4 * (D 0 - 1) + gsz D (D 0 - 1)) : Nat) : Int) v) 174 ((1035 + (19 + (D 0 - 1)) : Nat) : Int) (w32 ((am_up M 174 ((1035 + (51 + 4 * (D 0 - 1) + gsz D (D 0 - 1)) : Nat) : Int) v) 174 ((1035 + (19 + (D 0 - 1)) : Nat) : Int) + 1))) := by
    intro v hv
    rw [up_ni _ _ _ _ (by omega), e2, w32_s (by omega)]
    refine hQ _ (rb_up (rb_up h (by omega) rfl hv) (by omega) rfl rfl) (fun c g => by rw [up_nc _ _ _ _ g, up_nc _ _ _ _ g]) (fun j g => by rw [up_ni _ _ _ _ (by omega), up_ni _ _ _ _ (by omega)])
  rw [if_pos (by omega)]
  refine m_cap ?_ ?_
  · intro g
    rw [if_neg (by omega)]
    rw [if_pos (by omega)]
    rw [if_pos (by omega)]
    rw [if_pos (by omega)]
    refine fin _ ?_
    unfold rdS; rw [if_pos (by omega), w32_i (by omega) (by omega)]; omega
  · intro g
    rw [if_pos (by omega)]
    rw [if_pos (by omega)]
    rw [if_pos (by omega)]
    rw [if_pos (by omega)]
    refine fin _ ?_
    unfold rdS at hS ⊢
    rw [if_neg (by omega)] at hS ⊢
    have : 97 ≤ b ∧ b ≤ 112 := by
      by_cases q : 97 ≤ b ∧ b ≤ 112
      · exact q
      · rw [if_neg q] at hS; exact absurd rfl hS
    rw [if_pos this, w32_i (x := 16 + (b : Int)) (by omega) (by omega), w32_i (by omega) (by omega)]; omega
theorem rdS_lt8 {b : Nat} : rdS b < 8 ↔ 65 ≤ b ∧ b ≤ 72 := by unfold rdS; split; omega; split <;> omega
theorem rdS_99 {b : Nat} : rdS b ≠ 99 ↔ (65 ≤ b ∧ b ≤ 72) ∨ (97 ≤ b ∧ b ≤ 112) := by unfold rdS; split; omega; split <;> omega
theorem m_endsRow (h : rdr w o t D M) (w0 : w ≠ 0) (hQ : ∀ M', (b = 59 → rdr 0 o t D M') → (b = 124 → rdr 2 o t D M') → (M' 174 = M 174) → rrF M M' → Q (if b = 59 then 0 else if b = 124 then 0 else 2) M') : am_s am_P am_gg (d + 1) 247 [.inr (.inr 174), .inl (b : Int)] M Q := by
  obtain ⟨a1, a2, a3, a4⟩ := h
  refine (v_247_174 _ _ _ _).mpr ?_
  by_cases q : b = 124
  · rw [if_neg (by omega), if_pos q] at hQ
    rw [if_pos (by omega)]
    rw [if_pos (by omega)]
    exact hQ _ (fun z => by omega) (fun _ => ⟨rfl, fun _ => a2 w0, a3, a4⟩) rfl (rrF_3 rrF_rf (by omega))
  rw [if_neg (by omega)]
  by_cases q2 : b = 59
  · rw [if_pos q2] at hQ
    rw [if_pos (by omega)]
    rw [if_neg (by omega)]
    exact hQ _ (fun _ => ⟨rfl, fun z => absurd rfl z, a3, a4⟩) (fun z => by omega) rfl (rrF_3 rrF_rf (by omega))
  · rw [if_neg q2, if_neg q] at hQ
    rw [if_neg (by omega)]
    exact hQ M (fun z => by omega) (fun z => by omega) rfl rrF_rf
end S65
