/-! the reference's acts, as the state tells them -/
/-- what a call of the reference comes to -/
def rC (s s' : sS) (v : Int) (M : (Nat → Int → Int)) (r : Int) (M' : (Nat → Int → Int)) : Prop := r = v ∧ rS s' M' ∧ rA s s' M M'
section S55
variable {s : sS} {M : (Nat → Int → Int)} {d : Nat}
theorem rS_st (h : rS s M) {v : Int} (hv : am_i32 v) {M' : (Nat → Int → Int)} (h2 : M' 173 2 = v) (hi : ∀ i : Int, i ≠ 2 → i ≠ 3 → M' 173 i = M 173 i) (hc : ∀ c, c ≠ 173 → M' c = M c) : rS (s.S v) M' := by
  obtain ⟨hw, g2, g6, g7, g5, g75, hB, g1, hH, hD⟩ := h
  refine ⟨⟨hv, hw.2⟩, h2, ?_, ?_, ?_, ?_, ?_, ?_, ?_, ?_⟩
  · rw [hi 6 (by decide) (by decide)]; exact g6
  · rw [hi 7 (by decide) (by decide)]; exact g7
  · rw [hi 5 (by decide) (by decide)]; exact g5
  · intro i hi; rw [hc 175 (by decide)]; exact g75 i hi
  · rw [hc 174 (by decide)]; exact hB
  · rw [hi 1 (by decide) (by decide)]; exact g1
  · rw [hc 174 (by decide)]; exact hH
  · intro k hk; rw [hc 174 (by decide)]; exact hD k hk
theorem rC_st (h : rS s M) {v x : Int} (hv : am_i32 v) {M' : (Nat → Int → Int)} (h2 : M' 173 2 = v) (hi : ∀ i : Int, i ≠ 2 → i ≠ 3 → M' 173 i = M 173 i) (hc : ∀ c, c ≠ 173 → M' c = M c) : rC s (s.S v) x M x M' :=
  ⟨rfl, rS_st h hv h2 hi hc, fun c g _ _ => hc c g, fun i g => hi i (by omega) (by omega), Or.inr ⟨hi 11 (by decide) (by decide), rfl⟩⟩
theorem up23 (M : (Nat → Int → Int)) (u v : Int) : (∀ i : Int, i ≠ 2 → i ≠ 3 → am_up (am_up M 173 3 u) 173 2 v 173 i = M 173 i) ∧ (∀ c, c ≠ 173 → am_up (am_up M 173 3 u) 173 2 v c = M c) :=
  ⟨fun i a b => by rw [up_ni _ _ _ _ a, up_ni _ _ _ _ b], fun c g => by rw [up_nc _ _ _ _ g, up_nc _ _ _ _ g]⟩
theorem up232 (M : (Nat → Int → Int)) (u v w : Int) : (∀ i : Int, i ≠ 2 → i ≠ 3 → am_up (am_up (am_up M 173 3 u) 173 2 v) 173 2 w 173 i = M 173 i) ∧ (∀ c, c ≠ 173 → am_up (am_up (am_up M 173 3 u) 173 2 v) 173 2 w c = M c) :=
  ⟨fun i a b => by rw [up_ni _ _ _ _ a, up_ni _ _ _ _ a, up_ni _ _ _ _ b], fun c g => by rw [up_nc _ _ _ _ g, up_nc _ _ _ _ g, up_nc _ _ _ _ g]⟩
theorem rS_th (h : rS s M) {u : Int} : rS s (am_up M 173 3 u) := by
  have := rS_st h (v := s.st) h.1.1 (M' := am_up M 173 3 u) (by rw [up_ni _ _ _ _ (by decide)]; exact h.2.1) (fun i a b => up_ni _ _ _ _ b _) (fun c g => up_nc _ _ _ _ g)
  exact this
theorem rA_th {u : Int} : rA s s M (am_up M 173 3 u) := ⟨fun c g _ _ => up_nc _ _ _ _ g, fun i g => up_ni _ _ _ _ (by omega) _, Or.inr ⟨up_ni _ _ _ _ (by decide) _, rfl⟩⟩
theorem r_status (h : rS s M) : am_s am_P am_gg (d + 1) 223 [.inr (.inr 174)] M (rC s (sp_status s).2 (sp_status s).1 M) := by
  refine (v_223_174 _ _ _).mpr ?_
  exact ⟨h.2.1, rS_th h, rA_th⟩
theorem r_fault (h : rS s M) (w : Int) : am_s am_P am_gg (d + 1) 254 [.inr (.inr 174), .inl w] M (rC s (sp_fault s w).2 (sp_fault s w).1 M) := by
  refine (v_254_174 _ _ _ _).mpr ?_
  unfold sp_fault
  dsimp only
  refine @p_if _ _ _ _ ?_ ?_
  · intro e
    rw [if_pos e]
    exact ⟨h.2.2.1, rS_th h, rA_th⟩
  intro e
  rw [if_neg e]
  refine @p_if _ _ _ _ ?_ ?_
  · intro e
    rw [if_pos e]
    exact ⟨h.2.2.2.1, rS_th h, rA_th⟩
  · intro e
    rw [if_neg e]
    exact ⟨rfl, rS_th h, rA_th⟩
theorem rS_lay (h : rS s M) (hn : s.tn + 4 ≤ 400) (a : Int) {M' : (Nat → Int → Int)} (h5 : M' 173 5 = ((s.tn + 4 : Nat) : Int)) (hi : ∀ i : Int, i ≠ 5 → M' 173 i = M 173 i) (hc : ∀ c, c ≠ 173 → c ≠ 175 → M' c = M c) (ht : ∀ j : Nat, M' 175 (j : Int) = if s.tn ≤ j ∧ j < s.tn + 4 then w8 (by8 a (j - s.tn) : Int) else M 175 (j : Int)) : rS (s.st, s.fk, s.fa, (sp_lay (s.tn, s.tp) a).1, (sp_lay (s.tn, s.tp) a).2, s.B, s.H) M' ∧ rA s (s.st, s.fk, s.fa, (sp_lay (s.tn, s.tp) a).1, (sp_lay (s.tn, s.tp) a).2, s.B, s.H) M M' := by
  obtain ⟨⟨w1, w2, w3, w4, w5, w6⟩, g2, g6, g7, g5, g75, hB, g1, hH, hD⟩ := h
  refine ⟨⟨⟨w1, w2, w3, hn, ?_, w6⟩, ?_, ?_, ?_, h5, ?_, ?_, ?_, ?_, ?_⟩, fun c a1 _ a2 => hc c a1 a2, fun i g => hi i (by omega), Or.inr ⟨hi 11 (by decide), rfl⟩⟩
  · intro i hi
    show (sp_lay (s.tn, s.tp) a).2 i < 256
    unfold sp_lay
    dsimp only
    split
    · exact by8_lt _ _
    · exact w5 i (by have : i < s.tn + 4 := hi; omega)
  · rw [hi 2 (by decide)]; exact g2
  · rw [hi 6 (by decide)]; exact g6
  · rw [hi 7 (by decide)]; exact g7
  · intro i hi
    have hi : i < s.tn + 4 := hi
    rw [ht]
    show _ = w8 ((sp_lay (s.tn, s.tp) a).2 i : Int)
    unfold sp_lay
    dsimp only
    by_cases q : s.tn ≤ i ∧ i < s.tn + 4
    · rw [if_pos q, if_pos q]
    · rw [if_neg q, if_neg q]; exact g75 i (by omega)
  · rw [hc 174 (by decide) (by decide)]; exact hB
  · rw [hi 1 (by decide)]; exact g1
  · rw [hc 174 (by decide) (by decide)]; exact hH
  · intro k hk; rw [hc 174 (by decide) (by decide)]; exact hD k hk
theorem rA_tr {s1 s2 s3 : sS} {M1 M2 M3 : (Nat → Int → Int)} (h1 : rA s1 s2 M1 M2) (h2 : rA s2 s3 M2 M3) : rA s1 s3 M1 M3 := by
  refine ⟨fun c a b e => by rw [h2.1 c a b e, h1.1 c a b e], fun i g => by rw [h2.2.1 i g, h1.2.1 i g], ?_⟩
  rcases h2.2.2 with q | ⟨q, e⟩
  · exact Or.inl q
  · rcases h1.2.2 with q1 | ⟨q1, e1⟩
    · exact Or.inl (by rw [q, q1])
    · exact Or.inr ⟨by rw [q, q1], by rw [e, e1]⟩
theorem m_lays2 {Q : Int → (Nat → Int → Int) → Prop} (h : rS s M) (hn : s.tn + 4 ≤ 400) {a : Int} (ha : am_i32 a) (hQ : ∀ M', rS (s.st, s.fk, s.fa, (sp_lay (s.tn, s.tp) a).1, (sp_lay (s.tn, s.tp) a).2, s.B, s.H) M' → rA s (s.st, s.fk, s.fa, (sp_lay (s.tn, s.tp) a).1, (sp_lay (s.tn, s.tp) a).2, s.B, s.H) M M' → Q 0 M') : am_s am_P am_gg (d + 1) 238 [.inr (.inr 174), .inl a] M Q :=
  m_lays h.2.2.2.2.1 hn ha (fun M' a1 a2 a3 a4 => have q := rS_lay h hn a a1 a2 a3 a4; hQ M' q.1 q.2)
theorem r_feed (h : rS s M) {a b c e f : Int} (ha : am_i32 a) (hb : am_i32 b) (hc : am_i32 c) (he : am_i32 e) (hf : am_i32 f) : am_s am_P am_gg (d + 2) 239 [.inr (.inr 174), .inl a, .inl b, .inl c, .inl e, .inl f] M (rC s (sp_feed s a b c e f).2 (sp_feed s a b c e f).1 M) := by
  refine (v_239_174 _ _ _ _ _ _ _ _).mpr ?_
  have hn : s.tn ≤ 400 := h.1.2.2.2.1
  rw [h.2.2.2.2.1, w32_i (by omega) (by omega)]
  unfold sp_feed
  refine @p_if _ _ _ _ ?_ ?_
  · intro q
    rw [if_pos (show 380 < s.tn by omega)]
    exact ⟨rfl, rS_th h, rA_th⟩
  · intro q
    have hn2 : s.tn ≤ 380 := by omega
    rw [if_neg (show ¬ 380 < s.tn by omega)]
    refine m_lays2 (rS_th h) (show s.tn + 4 ≤ 400 by omega) ha (fun M1 h1 a1 => ?_)
    refine m_lays2 h1 (show s.tn + 4 + 4 ≤ 400 by omega) hb (fun M2 h2 a2 => ?_)
    refine m_lays2 h2 (show s.tn + 4 + 4 + 4 ≤ 400 by omega) hc (fun M3 h3 a3 => ?_)
    refine m_lays2 h3 (show s.tn + 4 + 4 + 4 + 4 ≤ 400 by omega) he (fun M4 h4 a4 => ?_)
    refine m_lays2 h4 (show s.tn + 4 + 4 + 4 + 4 + 4 ≤ 400 by omega) hf (fun M5 h5 a5 => ?_)
    exact ⟨h5.2.2.2.2.1, h5, rA_tr rA_th (rA_tr a1 (rA_tr a2 (rA_tr a3 (rA_tr a4 a5))))⟩
theorem r_drop (h : rS s M) (a : Int) : am_s am_P am_gg (d + 2) 240 [.inr (.inr 174), .inl a] M (rC s (sp_drop s a).2 (sp_drop s a).1 M) := by
  refine (v_240_174 _ _ _ _).mpr ?_
  have hn : s.tn ≤ 400 := h.1.2.2.2.1
  have u := up23 M 0 0
  have h0 := rS_st h (v := 0) am_0 (up_eq _ _ _ _) u.1 u.2
  unfold sp_drop
  rw [h.2.2.2.2.1]
  refine m_isIn ?_ ?_
  · intro q
    rw [if_neg (by omega)]
    rw [if_pos q, u.1 5 (by decide) (by decide), h.2.2.2.2.1, w32_i (by omega) (by omega)]
    obtain ⟨⟨w1, w2, w3, w4, w5, w6⟩, g2, g6, g7, g5, g75, hB, g1, hH, hD⟩ := h0
    refine ⟨rfl, ⟨⟨w1, w2, w3, show s.tn - a.toNat ≤ 400 by omega, fun i hi => w5 i (by have : i < s.tn - a.toNat := hi; show i < s.tn; omega), w6⟩, ?_, ?_, ?_, ?_, ?_, ?_, ?_, ?_, ?_⟩, ?_, ?_, ?_⟩
    · rw [up_ni _ _ _ _ (by decide)]; exact g2
    · rw [up_ni _ _ _ _ (by decide)]; exact g6
    · rw [up_ni _ _ _ _ (by decide)]; exact g7
    · rw [up_eq]; show _ = ((s.tn - a.toNat : Nat) : Int); omega
    · intro i hi
      have hi : i < s.tn - a.toNat := hi
      rw [up_nc _ _ _ _ (by decide)]; exact g75 i (show i < s.tn by omega)
    · rw [up_nc _ _ _ _ (by decide)]; exact hB
    · rw [up_ni _ _ _ _ (by decide)]; exact g1
    · rw [up_nc _ _ _ _ (by decide)]; exact hH
    · intro k hk; rw [up_nc _ _ _ _ (by decide)]; exact hD k hk
    · intro c a1 _ _; rw [up_nc _ _ _ _ a1, u.2 c a1]
    · intro i g; rw [up_ni _ _ _ _ (by omega), u.1 i (by omega) (by omega)]
    · exact Or.inr ⟨by rw [up_ni _ _ _ _ (by decide), u.1 11 (by decide) (by decide)], rfl⟩
  · intro q
    rw [if_pos (by omega)]
    rw [if_neg q]
    have u2 := up232 M 0 0 1
    exact m_refuse (rC_st h (by unfold am_i32; omega) (up_eq _ _ _ _) u2.1 u2.2)
/-- behind keeps: another grammar -/
theorem rC_keep (h : rS s M) {x : Int} {B' : Nat → Nat} (hB' : gW B') {M1 M' : (Nat → Int → Int)} (b1 : rb (M' 174) 0 B') (b2 : rH (M1 174) ((s.B :: s.H).take 8)) (b3 : M1 173 1 = (((s.B :: s.H).take 8).length : Int)) (b4 : ∀ i : Int, i ≠ 1 → i ≠ 2 → i ≠ 3 → i ≠ 11 → M1 173 i = M 173 i) (b42 : M1 173 2 = 0) (b5 : M1 173 11 = 0) (b6 : ∀ c, c ≠ 173 → c ≠ 174 → M1 c = M c) (b7 : ∀ j : Int, 1035 ≤ j → j < 1150 → M1 174 j = M 174 j) (c1 : ∀ c, c ≠ 174 → M' c = M1 c) (c2 : ∀ j : Int, 115 ≤ j → M' 174 j = M1 174 j) : rC s (sp_keep s B') x M x M' := by
  obtain ⟨⟨w1, w2, w3, w4, w5, w6, w7, w8⟩, g2, g6, g7, g5, g75, hB, g1, hH, hD⟩ := h
  refine ⟨rfl, ⟨⟨am_0, w2, w3, w4, w5, hB', ?_, ?_⟩, ?_, ?_, ?_, ?_, ?_, b1, ?_, ?_, ?_⟩, ?_, ?_, ?_⟩
  · show ((s.B :: s.H).take 8).length ≤ 8
    rw [List.length_take]; omega
  · intro B hb
    have hb : B ∈ (s.B :: s.H).take 8 := hb
    rcases List.mem_cons.mp (List.mem_of_mem_take hb) with rfl | q
    · exact w6
    · exact w8 B q
  · rw [c1 173 (by decide)]; exact b42
  · rw [c1 173 (by decide), b4 6 (by decide) (by decide) (by decide) (by decide)]; exact g6
  · rw [c1 173 (by decide), b4 7 (by decide) (by decide) (by decide) (by decide)]; exact g7
  · rw [c1 173 (by decide), b4 5 (by decide) (by decide) (by decide) (by decide)]; exact g5
  · intro i hi; rw [c1 175 (by decide), b6 175 (by decide) (by decide)]; exact g75 i hi
  · rw [c1 173 (by decide)]; exact b3
  · intro j hj k hk
    have hj : j < ((s.B :: s.H).take 8).length := hj
    rw [c2 _ (by
      have : 1 ≤ ((s.B :: s.H).take 8).length - j := by omega
      show (115 : Int) ≤ ((115 * (((s.B :: s.H).take 8).length - j) + k : Nat) : Int)
      omega)]
    exact b2 j hj k hk
  · intro k hk
    rw [c2 _ (by omega), b7 _ (by omega) (by omega)]; exact hD k hk
  · intro c a1 a2 _; rw [c1 c a2, b6 c a1 a2]
  · intro i g; rw [c1 173 (by decide), b4 i (by omega) (by omega) (by omega) (by omega)]
  · exact Or.inl (by rw [c1 173 (by decide)]; exact b5)
theorem m_keeps2 {Q : Int → (Nat → Int → Int) → Prop} (h : rS s M) (hQ : ∀ M1, rb (M1 174) 0 s.B → (∀ (x : Int) (B' : Nat → Nat) (M' : (Nat → Int → Int)), gW B' → rb (M' 174) 0 B' → (∀ c, c ≠ 174 → M' c = M1 c) → (∀ j : Int, 115 ≤ j → M' 174 j = M1 174 j) → rC s (sp_keep s B') x M x M') → Q 0 M1) : am_s am_P am_gg (d + 2) 237 [.inr (.inr 174)] (am_up (am_up M 173 3 0) 173 2 0) Q := by
  have u := up23 M 0 0
  have h0 := rS_st h (v := 0) am_0 (up_eq _ _ _ _) u.1 u.2
  refine m_keeps h0 (fun M1 b1 b2 b3 b4 b5 b6 b7 => hQ M1 b1 (fun x B' M' w k1 k2 k3 => ?_))
  refine rC_keep h w k1 b2 b3 ?_ ?_ b5 ?_ ?_ k2 k3
  · intro i i1 i2 i3 i4; rw [b4 i i1 i4, u.1 i i2 i3]
  · rw [b4 2 (by decide) (by decide), up_eq]
  · intro c a1 a2; rw [b6 c a1 a2, u.2 c a1]
  · intro j a1 a2; rw [b7 j a1 a2, u.2 174 (by decide)]
theorem am_i32_n {n : Nat} (h : n < 2147483648) : am_i32 (n : Int) := by unfold am_i32; omega
theorem r_turn (h : rS s M) (a : Int) {b : Int} (hb : b = 0 ∨ b = 1) : am_s am_P am_gg (d + 3) 255 [.inr (.inr 174), .inl a, .inl b] M (rC s (sp_turn s a b).2 (sp_turn s a b).1 M) := by
  have u := up23 M 0 0
  have hB : rb (am_up (am_up M 173 3 0) 173 2 0 174) 0 s.B := by rw [u.2 174 (by decide)]; exact h.2.2.2.2.2.2.1
  have hW : gW s.B := h.1.2.2.2.2.2.1
  have hn : s.B 0 ≤ 16 := hW.1
  refine (v_255_174 _ _ _ _ _).mpr ?_
  unfold sp_turn
  refine m_isRule hB hn ?_ ?_
  · intro q
    rw [if_neg (by omega)]
    rw [if_pos q]
    obtain ⟨r, rfl⟩ := p_nat q.1
    have hr : r < s.B 0 := by omega
    rw [Int.toNat_natCast]
    have hx : s.B 1 ^^^ 2 ^ r < 2 ^ s.B 0 := Nat.xor_lt_two_pow hW.2.1 (Nat.pow_lt_pow_right (by decide) hr)
    have hx2 : s.B 1 ^^^ 2 ^ r < 65536 := Nat.lt_of_lt_of_le hx (Nat.pow_le_pow_right (by decide) hn)
    have fin : am_s am_P am_gg (d + 2) 237 [.inr (.inr 174)] (am_up (am_up M 173 3 0) 173 2 0) (fun r5 M5 => am_s am_P am_gg (d + 2) 227 [.inl (i_xor (M5 174 1) (i_shl 1 (r : Int)))] (am_up M5 174 1 (i_xor (M5 174 1) (i_shl 1 (r : Int)))) (fun r6 M6 => rC s (sp_keep s (gU s.B 1 (s.B 1 ^^^ 2 ^ r))) ((cnt (s.B 1 ^^^ 2 ^ r).testBit 32 : Nat) : Int) M r6 M6)) := by
      refine m_keeps2 h (fun M1 b1 K => ?_)
      have e1 : M1 174 1 = (s.B 1 : Int) := b1.at (k := 1) (by omega)
      have e : i_xor (M1 174 1) (i_shl 1 (r : Int)) = w32 ((s.B 1 ^^^ 2 ^ r : Nat) : Int) := by
        rw [e1, b_shl1 (by omega), ← w32_nat (n := s.B 1) (by have := hW.on; omega), b_xor (by have := hW.on; omega) (b_pow (by omega))]
      rw [e]
      refine m_ones (by omega) ?_
      refine K _ _ _ (gW_on hW hx) (rb_gU b1 (k := 1) (v := s.B 1 ^^^ 2 ^ r) (by omega) (fun j => ?_)) (fun c g => up_nc _ _ _ _ g) (fun j g => up_ni _ _ _ _ (by omega) _)
      rw [up_ci, w32_nat (n := s.B 1 ^^^ 2 ^ r) (by omega)]; rfl
    refine m_isOn hB hW.on (by omega) ?_ ?_
    · intro o
      rw [o]
      rcases hb with rfl | rfl
      · rw [if_neg (by decide), if_neg (by decide)]; exact fin
      · rw [if_pos rfl, if_pos rfl]
        have u2 := up232 M 0 0 3
        exact m_refuse (rC_st h (by unfold am_i32; omega) (up_eq _ _ _ _) u2.1 u2.2)
    · intro o
      rw [o]
      rcases hb with rfl | rfl
      · rw [if_pos rfl, if_pos (by decide)]
        have u2 := up232 M 0 0 3
        exact m_refuse (rC_st h (by unfold am_i32; omega) (up_eq _ _ _ _) u2.1 u2.2)
      · rw [if_neg (by decide), if_neg (by decide)]; exact fin
  · intro q
    rw [if_pos (by omega)]
    rw [if_neg q]
    have u2 := up232 M 0 0 2
    exact m_refuse (rC_st h (by unfold am_i32; omega) (up_eq _ _ _ _) u2.1 u2.2)
theorem r_weigh (h : rS s M) (a b : Int) : am_s am_P am_gg (d + 3) 256 [.inr (.inr 174), .inl a, .inl b] M (rC s (sp_weigh s a b).2 (sp_weigh s a b).1 M) := by
  have u := up23 M 0 0
  have hB : rb (am_up (am_up M 173 3 0) 173 2 0 174) 0 s.B := by rw [u.2 174 (by decide)]; exact h.2.2.2.2.2.2.1
  have hW : gW s.B := h.1.2.2.2.2.2.1
  have hn : s.B 0 ≤ 16 := hW.1
  refine (v_256_174 _ _ _ _ _).mpr ?_
  unfold sp_weigh
  refine m_isIn ?_ ?_
  · intro q
    rw [if_neg (by omega)]
    rw [if_pos q]
    obtain ⟨w, rfl⟩ := p_nat q.1
    refine m_isRule hB hn ?_ ?_
    · intro q2
      rw [if_neg (by omega)]
      rw [if_pos q2]
      obtain ⟨r, rfl⟩ := p_nat q2.1
      rw [show w32 (35 + (r : Int)) = ((35 + r : Nat) : Int) by rw [w32_i (by omega) (by omega)]; rfl]
      rw [if_pos (by omega)]
      rw [hB.at (k := 35 + r) (by omega), Int.toNat_natCast]
      show (if (gwt s.B r : Int) = (w : Int) then _ else _)
      refine @p_if _ _ _ _ ?_ ?_
      · intro e
        rw [if_pos e]
        have u2 := up232 M 0 0 3
        exact m_refuse (rC_st h (by unfold am_i32; omega) (up_eq _ _ _ _) u2.1 u2.2)
      · intro e
        rw [if_neg e]
        refine m_keeps2 h (fun M1 b1 K => ?_)
        rw [if_pos (by omega)]
        refine K _ _ _ (gW_wt hW (by omega) (by omega)) (rb_gU b1 (k := 35 + r) (v := w) (by omega) (fun j => ?_)) (fun c g => up_nc _ _ _ _ g) (fun j g => up_ni _ _ _ _ (by omega) _)
        rw [up_ci]
    · intro q2
      rw [if_pos (by omega)]
      rw [if_neg q2]
      have u2 := up232 M 0 0 2
      exact m_refuse (rC_st h (by unfold am_i32; omega) (up_eq _ _ _ _) u2.1 u2.2)
  · intro q
    rw [if_pos (by omega)]
    rw [if_neg q]
    have u2 := up232 M 0 0 1
    exact m_refuse (rC_st h (by unfold am_i32; omega) (up_eq _ _ _ _) u2.1 u2.2)
theorem r_start (h : rS s M) (a : Int) : am_s am_P am_gg (d + 3) 257 [.inr (.inr 174), .inl a] M (rC s (sp_start s a).2 (sp_start s a).1 M) := by
  have u := up23 M 0 0
  have hB : rb (am_up (am_up M 173 3 0) 173 2 0 174) 0 s.B := by rw [u.2 174 (by decide)]; exact h.2.2.2.2.2.2.1
  have hW : gW s.B := h.1.2.2.2.2.2.1
  have hn : s.B 0 ≤ 16 := hW.1
  refine (v_257_174 _ _ _ _).mpr ?_
  unfold sp_start
  refine m_isSymbol ?_ ?_
  · intro q
    rw [if_neg (by omega)]
    rw [if_pos q]
    obtain ⟨w, rfl⟩ := p_nat q.1
    refine m_isTold hB hn ?_ ?_
    · intro q2
      rw [if_neg (by omega)]
      rw [if_pos q2]
      rw [show am_up (am_up M 173 3 0) 173 2 0 174 2 = (s.B 2 : Int) from hB.at (k := 2) (by omega)]
      refine @p_if _ _ _ _ ?_ ?_
      · intro e
        rw [if_pos e]
        have u2 := up232 M 0 0 3
        exact m_refuse (rC_st h (by unfold am_i32; omega) (up_eq _ _ _ _) u2.1 u2.2)
      · intro e
        rw [if_neg e]
        refine m_keeps2 h (fun M1 b1 K => ?_)
        refine K _ _ _ (gW_st hW (by omega)) (rb_gU b1 (k := 2) (v := w) (by omega) (fun j => ?_)) (fun c g => up_nc _ _ _ _ g) (fun j g => up_ni _ _ _ _ (by omega) _)
        rw [up_ci]; rfl
    · intro q2
      rw [if_pos (by omega)]
      rw [if_neg q2]
      have u2 := up232 M 0 0 2
      exact m_refuse (rC_st h (by unfold am_i32; omega) (up_eq _ _ _ _) u2.1 u2.2)
  · intro q
    rw [if_pos (by omega)]
    rw [if_neg q]
    have u2 := up232 M 0 0 1
    exact m_refuse (rC_st h (by unfold am_i32; omega) (up_eq _ _ _ _) u2.1 u2.2)
theorem r_undo (h : rS s M) : am_s am_P am_gg (d + 2) 258 [.inr (.inr 174)] M (rC s (sp_undo s).2 (sp_undo s).1 M) := by
  have u := up23 M 0 0
  have hh := h
  obtain ⟨⟨w1, w2, w3, w4, w5, w6, w7, w8⟩, g2, g6, g7, g5, g75, hB, g1, hH, hD⟩ := h
  refine (v_258_174 _ _ _).mpr ?_
  unfold sp_undo
  cases e : s.H with
  | nil =>
    rw [e] at g1
    have g1 : M 173 1 = 0 := g1
    rw [if_pos g1]
    have u2 := up232 M 0 0 6
    exact m_refuse (rC_st hh (by unfold am_i32; omega) (up_eq _ _ _ _) u2.1 u2.2)
  | cons B T =>
    rw [e] at g1 hH w7 w8
    have w7 : T.length + 1 ≤ 8 := w7
    have g1 : M 173 1 = ((T.length + 1 : Nat) : Int) := g1
    rw [g1]
    rw [if_neg (by omega)]
    rw [show w32 (115 * ((T.length + 1 : Nat) : Int)) = ((115 * (T.length + 1) : Nat) : Int) by rw [w32_i (by omega) (by omega)]; omega]
    refine m_copy (o2 := 0) (by omega) (by omega) (by omega) ?_
    rw [cpy_nc _ _ _ _ _ _ (by decide), u.1 1 (by decide) (by decide), g1, show w32 (((T.length + 1 : Nat) : Int) - 1) = (T.length : Int) by rw [w32_i (by omega) (by omega)]; omega]
    have hfc : ∀ j : Int, am_up (am_up (am_cpy (am_up (am_up M 173 3 0) 173 2 0) 174 174 ((115 * (T.length + 1) : Nat) : Int) ((0 : Nat) : Int) 115) 173 1 (T.length : Int)) 173 11 0 174 j = if ((0 : Nat) : Int) ≤ j ∧ j < ((0 : Nat) : Int) + 115 then M 174 (((115 * (T.length + 1) : Nat) : Int) + (j - ((0 : Nat) : Int))) else M 174 j := by
      intro j
      rw [up_nc _ _ _ _ (by omega), up_nc _ _ _ _ (by omega), cpy_174]; rfl
    have hi : ∀ i : Int, i ≠ 1 → i ≠ 2 → i ≠ 3 → i ≠ 11 → am_up (am_up (am_cpy (am_up (am_up M 173 3 0) 173 2 0) 174 174 ((115 * (T.length + 1) : Nat) : Int) ((0 : Nat) : Int) 115) 173 1 (T.length : Int)) 173 11 0 173 i = M 173 i := by
      intro i i1 i2 i3 i4
      rw [up_ni _ _ _ _ i4, up_ni _ _ _ _ i1, cpy_nc _ _ _ _ _ _ (by decide), u.1 i i2 i3]
    refine ⟨rfl, ⟨⟨am_0, w2, w3, w4, w5, w8 B (List.mem_cons_self ..), show T.length ≤ 8 by omega, fun B' hb => w8 B' (List.mem_cons_of_mem _ hb)⟩, ?_, ?_, ?_, ?_, ?_, ?_, ?_, ?_, ?_⟩, ?_, ?_, ?_⟩
    · rw [up_ni _ _ _ _ (by decide), up_ni _ _ _ _ (by decide), cpy_nc _ _ _ _ _ _ (by decide), up_eq]; rfl
    · rw [hi 6 (by decide) (by decide) (by decide) (by decide)]; exact g6
    · rw [hi 7 (by decide) (by decide) (by decide) (by decide)]; exact g7
    · rw [hi 5 (by decide) (by decide) (by decide) (by decide)]; exact g5
    · intro i hi
      rw [up_nc _ _ _ _ (by omega), up_nc _ _ _ _ (by omega), cpy_nc _ _ _ _ _ _ (by decide), u.2 175 (by decide)]; exact g75 i hi
    · exact rb_cpy_to hfc (hH 0 (Nat.succ_pos _))
    · rw [up_ni _ _ _ _ (by decide), up_eq]; rfl
    · intro j hj
      have hj : j < T.length := hj
      show rb _ (115 * (T.length - j)) _
      have q := hH (j + 1) (by show j + 1 < T.length + 1; omega)
      rw [show (B :: T).length - (j + 1) = T.length - j by simp] at q
      exact rb_cpy (by omega) hfc q
    · intro k hk
      rw [hfc, if_neg (by omega)]; exact hD k hk
    · intro c a1 a2 _
      rw [up_nc _ _ _ _ a1, up_nc _ _ _ _ a1, cpy_nc _ _ _ _ _ _ a2, u.2 c a1]
    · intro i g; exact hi i (by omega) (by omega) (by omega) (by omega)
    · exact Or.inl (up_eq _ _ _ _)
end S55
