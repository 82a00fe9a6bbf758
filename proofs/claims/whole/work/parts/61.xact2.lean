/-! the class's acts: turn, weigh, start, undo; rule, sign of both -/
theorem gU_ne {B : Nat → Nat} {k v j : Nat} (h : j ≠ k) : gU B k v j = B j := by unfold gU; rw [if_neg h]
theorem gU_eq {B : Nat → Nat} {k v : Nat} : gU B k v k = v := by unfold gU; rw [if_pos rfl]
theorem gtold_gU {B : Nat → Nat} {k v : Nat} (hk : k = 1 ∨ k = 2 ∨ 35 ≤ k) (hn : B 0 ≤ 16) : gtold (gU B k v) = gtold B := by
  apply Nat.eq_of_testBit_eq
  intro i
  rw [Bool.eq_iff_iff, gtold_bit, gtold_bit, gU_ne (by omega)]
  constructor
  · rintro ⟨r, hr, e⟩; exact ⟨r, hr, by unfold gsy at e ⊢; rwa [gU_ne (by omega)] at e⟩
  · rintro ⟨r, hr, e⟩; exact ⟨r, hr, by unfold gsy at e ⊢; rwa [gU_ne (by omega)]⟩
section S61
variable {s : sS} {k : Nat} {M : (Nat → Int → Int)} {d : Nat} {B : Nat → Nat}
theorem xo_gU {f : Int → Int} {k v : Nat} (hk : k = 1 ∨ k = 2 ∨ 35 ≤ k ∧ k < 51) (hn : B 0 ≤ 16) (h : xo B f) : xo (gU B k v) f := by
  obtain ⟨o, h1, h2, h3, h4⟩ := h
  refine ⟨o, h1, h2, h3, fun r hr => ?_⟩
  rw [gU_ne (by omega)] at hr
  unfold gsz gsg gsy
  rw [gU_ne (by omega), gU_ne (by omega), gU_ne (by omega)]
  exact h4 r hr
theorem xg_on (hW : gW B) (h : xgb B M 2) {v : Nat} : xgb (gU B 1 v) (am_up M 2 2 (v : Int)) 2 := by
  have hn := hW.1
  obtain ⟨a1, a2, a3, a4, a5, a6⟩ := h
  refine ⟨a1, ?_, ?_, a4, ?_, xo_gU (Or.inl rfl) hn a6⟩
  · rw [up_eq, gU_eq]
  · rw [gtold_gU (Or.inl rfl) hn]; exact a3
  · intro r hr
    rw [gU_ne (by omega)] at hr
    unfold gsy gsz gwt gsg
    rw [gU_ne (by omega), gU_ne (by omega), gU_ne (by omega)]
    obtain ⟨b1, b2, b3, b4⟩ := a5 r hr
    exact ⟨b1, b2, b3, fun i hi => by rw [gU_ne (by omega)]; exact b4 i hi⟩
theorem xg_st (hW : gW B) (h : xgb B M 2) {v : Nat} : xgb (gU B 2 v) (am_up M 2 4 (v : Int)) 2 := by
  have hn := hW.1
  obtain ⟨a1, a2, a3, a4, a5, a6⟩ := h
  refine ⟨a1, a2, ?_, ?_, ?_, xo_gU (Or.inr (Or.inl rfl)) hn a6⟩
  · rw [gtold_gU (Or.inr (Or.inl rfl)) hn]; exact a3
  · rw [up_eq, gU_eq]
  · intro r hr
    rw [gU_ne (by omega)] at hr
    unfold gsy gsz gwt gsg
    rw [gU_ne (by omega), gU_ne (by omega), gU_ne (by omega)]
    obtain ⟨b1, b2, b3, b4⟩ := a5 r hr
    exact ⟨b1, b2, b3, fun i hi => by rw [gU_ne (by omega)]; exact b4 i hi⟩
theorem xg_wt (hW : gW B) (h : xgb B M 2) {q v : Nat} (hq : q < B 0) : xgb (gU B (35 + q) v) (am_up M 5 (q : Int) (v : Int)) 2 := by
  have hn := hW.1
  obtain ⟨a1, a2, a3, a4, a5, a6⟩ := h
  refine ⟨?_, ?_, ?_, ?_, ?_, xo_gU (by omega) hn a6⟩
  · rw [gU_ne (by omega)]; exact a1
  · rw [gU_ne (by omega)]; exact a2
  · rw [gtold_gU (by omega) hn]; exact a3
  · rw [gU_ne (by omega)]; exact a4
  · intro r hr
    rw [gU_ne (by omega)] at hr
    have hs := (hW.2.2.2.1 r hr).2.2.1
    obtain ⟨b1, b2, b3, b4⟩ := a5 r hr
    refine ⟨?_, ?_, ?_, fun i hi => ?_⟩
    · unfold gsy; rw [gU_ne (by omega)]; exact b1
    · unfold gsz; rw [gU_ne (by omega)]; exact b2
    · unfold gwt
      rw [up_ci]
      by_cases e : r = q
      · subst e; rw [if_pos rfl, gU_eq]
      · rw [if_neg (by omega), gU_ne (by omega)]; exact b3
    · unfold gsz at hi; rw [gU_ne (by omega)] at hi
      unfold gsg; rw [gU_ne (by omega)]; exact b4 i hi
theorem xgb_ver (h : xgb B M 2) {v : Int} : xgb B (am_up M 2 0 v) 2 := h
theorem x_turn (h : xS k s M) (hk : k < 2147483647) (a : Int) {b : Int} (hb : b = 0 ∨ b = 1) : am_s am_P am_gg (d + 3) 171 [.inr (.inr 1), .inl a, .inl b] M (xC (k + 1) s (sp_turn s a b).2 (sp_turn s a b).1 M) := by
  have hW : gW s.B := h.1.2.2.2.2.2.1
  have hn : s.B 0 ≤ 16 := hW.1
  have hg := h.2.2.2.2.2.2.1
  refine (v_171_1 _ _ _ _ _).mpr ?_
  unfold sp_turn
  refine x_hasRule hg ?_ ?_
  · intro q
    rw [if_neg (by omega)]
    rw [if_pos q]
    obtain ⟨r, rfl⟩ := p_nat q.1
    have hr : r < s.B 0 := by omega
    rw [Int.toNat_natCast]
    have hx : s.B 1 ^^^ 2 ^ r < 2 ^ s.B 0 := Nat.xor_lt_two_pow hW.2.1 (Nat.pow_lt_pow_right (by decide) hr)
    have hx2 : s.B 1 ^^^ 2 ^ r < 65536 := Nat.lt_of_lt_of_le hx (Nat.pow_le_pow_right (by decide) hn)
    have fin : am_s am_P am_gg (d + 2) 208 [.inr (.inr 1)] M (fun r5 M5 => am_s am_P am_gg (d + 2) 62 [.inr (.inr 3), .inl (r : Int)] M5 (fun r6 M6 => am_s am_P am_gg (d + 2) 353 [.inl (M6 2 2)] M6 (fun r7 M7 => am_s am_P am_gg (d + 2) 205 [.inr (.inr 1), .inl r7] M7 (fun r8 M8 => xC (k + 1) s (sp_keep s (gU s.B 1 (s.B 1 ^^^ 2 ^ r))) ((cnt (s.B 1 ^^^ 2 ^ r).testBit 32 : Nat) : Int) M r8 M8)))) := by
      refine x_keep2 h (fun M1 b1 b2 K => ?_)
      refine (v_62_3 _ _ _ _).mpr ?_
      have e : i_xor (M1 2 2) (i_shl 1 (r : Int)) = ((s.B 1 ^^^ 2 ^ r : Nat) : Int) := by
        rw [b1.2.1, b_shl1 (by omega), ← w32_nat (n := s.B 1) (by have := hW.on; omega), b_xor (by have := hW.on; omega) (b_pow (by omega)), w32_nat (n := s.B 1 ^^^ 2 ^ r) (by omega)]
      rw [e, up_eq]
      refine x_bitsn (by omega) ?_
      exact K _ _ _ _ (gW_on hW hx) (xg_on hW (xgb_ver b1)) (by rw [up_ni _ _ _ _ (by decide), up_eq]) (fun c g => by rw [up_nc _ _ _ _ (by omega), up_nc _ _ _ _ (by omega)]) hk
    refine x_isOn hg hW.on (by omega) ?_ ?_
    · intro o
      rw [o]
      rcases hb with rfl | rfl
      · rw [if_neg (by decide), if_neg (by decide)]; exact fin
      · rw [if_pos rfl, if_pos rfl]
        exact am_s_mono (Nat.le_refl _) (x_refuse h (by unfold am_i32; omega)) (fun _ _ z => xC_mono z (Nat.le_succ _))
    · intro o
      rw [o]
      rcases hb with rfl | rfl
      · rw [if_pos rfl, if_pos (by decide)]
        exact am_s_mono (Nat.le_refl _) (x_refuse h (by unfold am_i32; omega)) (fun _ _ z => xC_mono z (Nat.le_succ _))
      · rw [if_neg (by decide), if_neg (by decide)]; exact fin
  · intro q
    rw [if_pos (by omega)]
    rw [if_neg q]
    exact am_s_mono (Nat.le_refl _) (x_refuse h (by unfold am_i32; omega)) (fun _ _ z => xC_mono z (Nat.le_succ _))
theorem x_weigh (h : xS k s M) (hk : k < 2147483647) (a b : Int) : am_s am_P am_gg (d + 3) 172 [.inr (.inr 1), .inl a, .inl b] M (xC (k + 1) s (sp_weigh s a b).2 (sp_weigh s a b).1 M) := by
  have hW : gW s.B := h.1.2.2.2.2.2.1
  have hn : s.B 0 ≤ 16 := hW.1
  have hg := h.2.2.2.2.2.2.1
  refine (v_172_1 _ _ _ _ _).mpr ?_
  unfold sp_weigh
  have ref : ∀ v : Int, am_i32 v → am_s am_P am_gg (d + 2) 204 [.inr (.inr 1), .inl v] M (fun r1 M1 => xC (k + 1) s (s.S v) (-1) M r1 M1) := fun v hv => am_s_mono (Nat.le_refl _) (x_refuse h hv) (fun _ _ z => xC_mono z (Nat.le_succ _))
  refine @p_if _ _ _ _ ?_ ?_
  · intro q; rw [if_neg (by omega)]; exact ref 1 (by unfold am_i32; omega)
  intro q
  refine @p_if _ _ _ _ ?_ ?_
  · intro q; rw [if_neg (by omega)]; exact ref 1 (by unfold am_i32; omega)
  intro q2
  rw [if_pos (show 0 ≤ b ∧ b ≤ 9 by omega)]
  obtain ⟨w, rfl⟩ := p_nat (show 0 ≤ b by omega)
  refine x_hasRule hg ?_ ?_
  · intro q3
    rw [if_neg (by omega)]
    rw [if_pos q3]
    obtain ⟨r, rfl⟩ := p_nat q3.1
    have hr : r < s.B 0 := by omega
    rw [if_pos (by omega)]
    rw [Int.toNat_natCast, (hg.2.2.2.2.1 r hr).2.2.1]
    refine @p_if _ _ _ _ ?_ ?_
    · intro e; rw [if_pos e]; exact ref 3 (by unfold am_i32; omega)
    · intro e
      rw [if_neg e]
      refine x_keep2 h (fun M1 b1 b2 K => ?_)
      refine (v_63_3 _ _ _ _ _).mpr ?_
      rw [if_pos (by omega)]
      exact K _ _ _ _ (gW_wt hW (by omega) (by omega)) (xg_wt hW (xgb_ver b1) hr) (by rw [up_nc _ _ _ _ (by decide), up_eq]) (fun c g => by rw [up_nc _ _ _ _ (by omega), up_nc _ _ _ _ (by omega)]) hk
  · intro q3
    rw [if_pos (by omega)]
    rw [if_neg q3]; exact ref 2 (by unfold am_i32; omega)
theorem x_start (h : xS k s M) (hk : k < 2147483647) (a : Int) : am_s am_P am_gg (d + 3) 173 [.inr (.inr 1), .inl a] M (xC (k + 1) s (sp_start s a).2 (sp_start s a).1 M) := by
  have hW : gW s.B := h.1.2.2.2.2.2.1
  have hg := h.2.2.2.2.2.2.1
  refine (v_173_1 _ _ _ _).mpr ?_
  unfold sp_start
  have ref : ∀ v : Int, am_i32 v → am_s am_P am_gg (d + 2) 204 [.inr (.inr 1), .inl v] M (fun r1 M1 => xC (k + 1) s (s.S v) (-1) M r1 M1) := fun v hv => am_s_mono (Nat.le_refl _) (x_refuse h hv) (fun _ _ z => xC_mono z (Nat.le_succ _))
  refine x_whyNoSymbol hg hW ?_ ?_ ?_
  · intro q; rw [if_neg q, if_neg (by decide)]; exact ref 1 (by unfold am_i32; omega)
  · intro q t; rw [if_pos q, if_neg t, if_neg (by decide)]; exact ref 2 (by unfold am_i32; omega)
  · intro q t
    rw [if_pos q, if_pos t, if_pos rfl]
    obtain ⟨w, rfl⟩ := p_nat q.1
    rw [hg.2.2.2.1]
    refine @p_if _ _ _ _ ?_ ?_
    · intro e; rw [if_pos e]; exact ref 3 (by unfold am_i32; omega)
    · intro e
      rw [if_neg e]
      refine x_keep2 h (fun M1 b1 b2 K => ?_)
      refine (v_64_3 _ _ _ _).mpr ?_
      exact K _ _ _ _ (gW_st hW (by omega)) (xg_st hW (xgb_ver b1)) (by rw [up_ni _ _ _ _ (by decide), up_eq]) (fun c g => by rw [up_nc _ _ _ _ (by omega), up_nc _ _ _ _ (by omega)]) hk
theorem x_undo (h : xS k s M) (hk : k < 2147483647) : am_s am_P am_gg (d + 2) 174 [.inr (.inr 1)] M (xC (k + 1) s (sp_undo s).2 (sp_undo s).1 M) := by
  have hh := h
  obtain ⟨⟨w1, w2, w3, w4, w5, w6, w7, w8⟩, a2, a3, a4, a5, a6, a7, ⟨a8, a8'⟩, a9, top, t1, t2, t3⟩ := h
  refine (v_174_1 _ _ _).mpr ?_
  unfold sp_undo
  rw [a9, t2]
  cases e : s.H with
  | nil =>
    rw [if_pos (by decide)]
    exact am_s_mono (Nat.le_refl _) (x_refuse hh (by unfold am_i32; omega)) (fun _ _ z => xC_mono z (Nat.le_succ _))
  | cons B T =>
    rw [e] at t3 w7 w8
    have w7 : T.length + 1 ≤ 8 := w7
    rw [show (((B :: T).length : Nat) : Int) = ((T.length + 1 : Nat) : Int) from rfl]
    rw [if_neg (by omega)]
    rw [show w32 (Int.tmod (w32 (w32 ((top : Int) + 8) - 1)) 8) = (((top + 7) % 8 : Nat) : Int) by
      rw [w32_i (x := (top : Int) + 8) (by omega) (by omega), w32_i (x := (top : Int) + 8 - 1) (by omega) (by omega), show (top : Int) + 8 - 1 = ((top + 7 : Nat) : Int) by omega, show Int.tmod ((top + 7 : Nat) : Int) 8 = (((top + 7) % 8 : Nat) : Int) from rfl, w32_i (by omega) (by omega)]]
    rw [if_pos (by omega), show w32 (((T.length + 1 : Nat) : Int) - 1) = (T.length : Int) by rw [w32_i (by omega) (by omega)]; omega]
    have hB : xgb B M (125 + 6 * ((top + 7) % 8)) := t3 0 (by show 0 < T.length + 1; omega)
    have hWB : gW B := w8 B (List.mem_cons_self ..)
    have fin : ∀ M1 : (Nat → Int → Int), xgb B M1 2 → M1 2 0 = w32 (M 2 0 + 1) → (∀ c, c < 2 ∨ 7 < c → M1 c = am_up (am_up M 0 7 (((top + 7) % 8 : Nat) : Int)) 0 8 (T.length : Int) c) → am_s am_P am_gg (d + 1) 205 [.inr (.inr 1), .inl (M1 0 8)] M1 (fun r M' => xC (k + 1) s (0, s.fk, s.fa, s.tn, s.tp, B, T) (T.length : Int) M r M') := by
      intro M1 c1 c2 c3
      have hver : M1 2 0 = M 2 0 + 1 := by rw [c2, w32_i (by omega) (by omega)]
      have e8 : M1 0 8 = (T.length : Int) := by rw [c3 0 (by omega), up_eq]
      have ei : ∀ i : Int, i ≠ 7 → i ≠ 8 → M1 0 i = M 0 i := fun i g1 g2 => by rw [c3 0 (by omega), up_ni _ _ _ _ g2, up_ni _ _ _ _ g1]
      have ec : ∀ c, c ≠ 0 → c < 2 ∨ 7 < c → M1 c = M c := fun c g1 g2 => by rw [c3 c g2, up_nc _ _ _ _ g1, up_nc _ _ _ _ g1]
      rw [e8]
      have hs : xS (k + 1) (s.st, s.fk, s.fa, s.tn, s.tp, B, T) M1 := by
        refine ⟨⟨w1, w2, w3, w4, w5, hWB, show T.length ≤ 8 by omega, fun B' hb => w8 B' (List.mem_cons_of_mem _ hb)⟩, ?_, ?_, ?_, ?_, ?_, c1, ?_, e8, (top + 7) % 8, by omega, ?_, ?_⟩
        · rw [ei 1 (by decide) (by decide)]; exact a2
        · rw [ei 2 (by decide) (by decide)]; exact a3
        · rw [ei 3 (by decide) (by decide)]; exact a4
        · rw [ei 4 (by decide) (by decide)]; exact a5
        · intro i hi; rw [ec 1 (by omega) (by omega)]; exact a6 i hi
        · rw [hver]; constructor <;> omega
        · rw [c3 0 (by omega), up_ni _ _ _ _ (by decide), up_eq]
        · intro j hj
          have hj : j < T.length := hj
          have q := t3 (j + 1) (by show j + 1 < T.length + 1; omega)
          rw [show (top + 7 - (j + 1)) % 8 = ((top + 7) % 8 + 7 - j) % 8 by omega] at q
          exact xgb_eq q (fun c _ _ => ec c (by omega) (by omega))
      refine am_s_mono (Nat.le_refl _) (x_answer hs _) (fun r M' q => ⟨q.1, q.2.1, fun c a b => ?_, Or.inl ?_⟩)
      · rw [q.2.2.1 c a b, ec c (by omega) (by omega)]
      · rcases q.2.2.2 with g | ⟨_, g⟩
        · omega
        · rw [g 2 (by omega) (by omega)]; omega
    have hB' : ∀ b, b = 125 + 6 * ((top + 7) % 8) → xgb B (am_up (am_up M 0 7 (((top + 7) % 8 : Nat) : Int)) 0 8 (T.length : Int)) b := fun b hb => by
      subst hb
      exact xgb_eq hB (fun c _ _ => by rw [up_nc _ _ _ _ (by omega), up_nc _ _ _ _ (by omega)])
    generalize hq : (top + 7) % 8 = q at *
    by_cases q0 : q = 0
    · subst q0
      rw [show am_rfF 8 ((0 : Nat) : Int) = 126 from rfl]
      refine (h_174_53_1_s126_s3 _ _ _).mpr (x_cp_2_125 hWB (hB' 125 rfl) (fun M1 k1 k2 k3 => fin M1 k1 k2 k3))
    by_cases q1 : q = 1
    · subst q1
      rw [show am_rfF 8 ((1 : Nat) : Int) = 132 from rfl]
      refine (h_174_53_1_s132_s3 _ _ _).mpr (x_cp_2_131 hWB (hB' 131 rfl) (fun M1 k1 k2 k3 => fin M1 k1 k2 k3))
    by_cases q2 : q = 2
    · subst q2
      rw [show am_rfF 8 ((2 : Nat) : Int) = 138 from rfl]
      refine (h_174_53_1_s138_s3 _ _ _).mpr (x_cp_2_137 hWB (hB' 137 rfl) (fun M1 k1 k2 k3 => fin M1 k1 k2 k3))
    by_cases q3 : q = 3
    · subst q3
      rw [show am_rfF 8 ((3 : Nat) : Int) = 144 from rfl]
      refine (h_174_53_1_s144_s3 _ _ _).mpr (x_cp_2_143 hWB (hB' 143 rfl) (fun M1 k1 k2 k3 => fin M1 k1 k2 k3))
    by_cases q4 : q = 4
    · subst q4
      rw [show am_rfF 8 ((4 : Nat) : Int) = 150 from rfl]
      refine (h_174_53_1_s150_s3 _ _ _).mpr (x_cp_2_149 hWB (hB' 149 rfl) (fun M1 k1 k2 k3 => fin M1 k1 k2 k3))
    by_cases q5 : q = 5
    · subst q5
      rw [show am_rfF 8 ((5 : Nat) : Int) = 156 from rfl]
      refine (h_174_53_1_s156_s3 _ _ _).mpr (x_cp_2_155 hWB (hB' 155 rfl) (fun M1 k1 k2 k3 => fin M1 k1 k2 k3))
    by_cases q6 : q = 6
    · subst q6
      rw [show am_rfF 8 ((6 : Nat) : Int) = 162 from rfl]
      refine (h_174_53_1_s162_s3 _ _ _).mpr (x_cp_2_161 hWB (hB' 161 rfl) (fun M1 k1 k2 k3 => fin M1 k1 k2 k3))
    by_cases q7 : q = 7
    · subst q7
      rw [show am_rfF 8 ((7 : Nat) : Int) = 168 from rfl]
      refine (h_174_53_1_s168_s3 _ _ _).mpr (x_cp_2_167 hWB (hB' 167 rfl) (fun M1 k1 k2 k3 => fin M1 k1 k2 k3))
    omega
end S61
