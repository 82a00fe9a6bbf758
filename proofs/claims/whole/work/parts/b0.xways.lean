/-! the class counts the ways of a text -/
def swI (B x : Nat → Nat) (e0 a0 : Nat) (M : (Nat → Int → Int)) : Prop := ∀ s a e : Nat, s < 8 → gRch B s → a < e → (e < e0 ∨ e = e0 ∧ a0 ≤ a) → M 119 ((17 * (17 * s + a) + e : Nat) : Int) = (wT B x s a (e - a) : Int)
def reI (B x : Nat → Nat) (e0 a0 : Nat) (M : (Nat → Int → Int)) : Prop := ∀ r i a : Nat, gUsd B r → i + 1 < gsz B r → a0 ≤ a → a < e0 → 0 < wR B x r i a (e0 - a) → M 120 ((17 * (4 * r + i) + a : Nat) : Int) = (wR B x r i a (e0 - a) : Int)
section Sb0
variable {B x o : Nat → Nat} {a n r i j s k c e f d m N a0 e0 : Nat} {T : Nat → Nat × Nat} {M M0 : (Nat → Int → Int)} {Q : Int → (Nat → Int → Int) → Prop}
theorem w_sp (hs : s < 8) (ha : a < 17) (he : e < 17) : w32 (w32 (w32 (w32 ((s : Int) * 17) + (a : Int)) * 17) + (e : Int)) = ((17 * (17 * s + a) + e : Nat) : Int) := by
  rw [w_17 hs ha, show w32 (((17 * s + a : Nat) : Int) * 17) = ((17 * (17 * s + a) : Nat) : Int) by rw [w32_i (by omega) (by omega)]; omega, w32_i (by omega) (by omega)]; omega
theorem b_sp (hs : s < 8) (ha : a < 17) (he : e < 17) : 0 ≤ ((17 * (17 * s + a) + e : Nat) : Int) ∧ ((17 * (17 * s + a) + e : Nat) : Int) < 2312 := by omega
theorem w_re (hr : r < 16) (hi : i < 4) (ha : a < 17) : w32 (w32 (w32 (((32 + 4 * r + i : Nat) : Int) - 32) * 17) + (a : Int)) = ((17 * (4 * r + i) + a : Nat) : Int) := by
  rw [show w32 (((32 + 4 * r + i : Nat) : Int) - 32) = ((4 * r + i : Nat) : Int) by rw [w32_i (by omega) (by omega)]; omega, show w32 (((4 * r + i : Nat) : Int) * 17) = ((17 * (4 * r + i) : Nat) : Int) by rw [w32_i (by omega) (by omega)]; omega, w32_i (by omega) (by omega)]; omega
theorem b_re (hr : r < 16) (hi : i < 4) (ha : a < 17) : 0 ≤ ((17 * (4 * r + i) + a : Nat) : Int) ∧ ((17 * (4 * r + i) + a : Nat) : Int) < 1088 := by omega
/-- the ways of a sign over a span where it makes something -/
theorem x_waysSg (hW : gW B) {g : Nat} (hg : g < 8 ∨ (16 ≤ g ∧ g < 32)) (ha : a < e) (he : e ≤ 16) (hp : 0 < wT B x g a (e - a)) (h : g < 8 → M 119 ((17 * (17 * g + a) + e : Nat) : Int) = (wT B x g a (e - a) : Int)) (hQ : Q (wT B x g a (e - a) : Int) M) : am_s am_P am_gg (d + 2) 165 [.inr (.inr 119), .inl (g : Int), .inl (a : Int), .inl (e : Int)] M Q := by
  refine (v_165_119 _ _ _ _ _ _).mpr ?_
  refine @p_if _ _ _ _ ?_ ?_
  · intro h8
    have h8 : g < 8 := by omega
    refine (v_162 _ _ _ _ _ _).mpr ?_
    rw [w_sp h8 (by omega) (by omega), if_pos (b_sp h8 (by omega) (by omega)), h h8]
    exact hQ
  · intro h8
    rw [if_pos (by omega)]
    rw [wT_let hW (by omega) (by omega)] at hp hQ
    unfold wL at hp hQ
    split at hp
    · next h1 =>
      rw [if_pos h1] at hQ
      split at hp
      · next h2 => rw [if_pos h2] at hQ; exact hQ
      · omega
    · omega
theorem x_waysRs (hr : r < 16) (hi : i < 4) (ha : a < 17) (h : M 120 ((17 * (4 * r + i) + a : Nat) : Int) = (k : Int)) (hQ : Q (k : Int) M) : am_s am_P am_gg (d + 1) 165 [.inr (.inr 119), .inl ((32 + 4 * r + i : Nat) : Int), .inl (a : Int), .inl (e : Int)] M Q := by
  refine (v_165_119 _ _ _ _ _ _).mpr ?_
  rw [if_neg (by omega), if_neg (by omega), w_re hr hi ha, if_pos (b_re hr hi ha), h]
  exact hQ
/-- the ways of what stands behind a place -/
theorem x_waysBehind (hW : gW B) (hr : gUsd B r) (hi : i + 1 < gsz B r) (ha : a < e) (he : e ≤ 16) (hp : 0 < wR B x r (i + 1) a (e - a)) (h1 : ∀ s, s < 8 → gRch B s → M 119 ((17 * (17 * s + a) + e : Nat) : Int) = (wT B x s a (e - a) : Int)) (h2 : i + 2 < gsz B r → M 120 ((17 * (4 * r + (i + 1)) + a : Nat) : Int) = (wR B x r (i + 1) a (e - a) : Int)) (hQ : Q (wR B x r (i + 1) a (e - a) : Int) M) : am_s am_P am_gg (d + 2) 165 [.inr (.inr 119), .inl (rsc B r i : Int), .inl (a : Int), .inl (e : Int)] M Q := by
  have hz := hW.2.2.2.1 r hr.1
  have hn16 := hW.1
  have hr1 := hr.1
  unfold rsc
  by_cases q : i + 2 = gsz B r
  · rw [if_pos q]
    rw [wR_last (by omega) (by omega)] at hp hQ
    exact x_waysSg hW (hz.2.2.2.2 (i + 1) hi) ha he hp (fun g8 => h1 _ g8 (usd_sg hr hi g8)) hQ
  · rw [if_neg q, show 32 + 4 * r + i + 1 = 32 + 4 * r + (i + 1) by omega]
    exact x_waysRs (by omega) (by omega) (by omega) (h2 (by omega)) hQ
theorem q_sm_one {p q : Nat → Nat} {t : Nat} : ∀ {n : Nat}, t < n → q t = 0 → (∀ k, k ≠ t → p k = q k) → q_sm p n = q_sm q n + p t
  | n + 1, ht, h0, h => by
    show q_sm p n + p n = q_sm q n + q n + p t
    by_cases e : t = n
    · subst e
      rw [q_sm_cg (f := p) (g := q) (fun k hk => h k (by omega)), h0]; omega
    · rw [q_sm_one (show t < n by omega) h0 h, h n (fun z => e z.symm)]; omega
theorem w_m1 {c : Nat} (h : c ≤ 32) : w32 (((c + 1 : Nat) : Int) + (-1)) = (c : Int) := by rw [w32_i (by omega) (by omega)]; omega
theorem w_pr {v : Nat} (h0 : v ≠ 0) (h : v < 2147483648) : w32 (w32 (v : Int) - 1) = w32 ((v - 1 : Nat) : Int) := by unfold w32; omega
theorem ar_1 {g t tt w : Nat} (h : g + t = tt) (h2 : tt ≤ 16000000000000) (hw : w ≤ 1000000000000) : g + w < 9223372036854775808 := by omega
theorem ar_2 {v : Nat} (h : v < 2147483648) : v < 4294967296 := by omega
theorem ar_3 {v : Nat} (h : v < 2147483648) : v - 1 < 4294967296 := by omega
theorem ar_4 {g p q w tt : Nat} (h : p = q + w) (h3 : g + p = tt) : g + w + q = tt := by omega
theorem wk_le : wk B x r i a n k ≤ 1000000000000 := by
  unfold wk
  have h1 := wT_le (B := B) (x := x) (s := gsg B r i) (a := a) (n := k + 1)
  have h2 := wR_le (B := B) (x := x) (r := r) (i := i + 1) (a := a + (k + 1)) (n := n - (k + 1))
  exact Nat.le_trans (Nat.mul_le_mul h1 h2) (Nat.le_refl _)
def wb (B x : Nat → Nat) (r i a n : Nat) (v : Nat) (k : Nat) : Nat := if v.testBit (a + (k + 1)) = true then wk B x r i a n k else 0
theorem wb_le (k : Nat) (v : Nat) : q_sm (wb B x r i a n v) k ≤ 1000000000000 * k := by
  induction k with
  | zero => exact Nat.zero_le _
  | succ k ih =>
    show q_sm _ k + wb B x r i a n v k ≤ _
    have : wb B x r i a n v k ≤ 1000000000000 := by
      unfold wb
      split
      · unfold wk
        have h1 := wT_le (B := B) (x := x) (s := gsg B r i) (a := a) (n := k + 1)
        have h2 := wR_le (B := B) (x := x) (r := r) (i := i + 1) (a := a + (k + 1)) (n := n - (k + 1))
        exact Nat.le_trans (Nat.mul_le_mul h1 h2) (Nat.le_refl _)
      · exact Nat.zero_le _
    omega
theorem b_bits0 {v n : Nat} (h : v < 2 ^ n) (hc : cnt v.testBit n = 0) : v = 0 := by
  rcases Nat.eq_zero_or_pos v with q | q
  · exact q
  · obtain ⟨t, h1, h2⟩ := b_low (show v ≠ 0 by omega)
    have ht : t < n := by
      rcases Nat.lt_or_ge t n with g | g
      · exact g
      · rw [Nat.testBit_lt_two_pow (Nat.lt_of_lt_of_le h (Nat.pow_le_pow_right (by decide) g))] at h1; cases h1
    have := (cnt_pos (p := v.testBit) (n := n)).mpr ⟨t, ht, h1⟩
    omega
theorem x_sumCutsW (hW : gW B) (hC : chT B x o N f n T M) (hr : gUsd B r) (hi : i + 1 < gsz B r) (ha : a0 < e0) (he : e0 ≤ N) (hs : swI B x e0 (a0 + 1) M) (hre : reI B x e0 (a0 + 1) M) (hQ : Q (wR B x r i a0 (e0 - a0) : Int) M) : am_s am_P am_gg (d + 3) 164 [.inr (.inr 119), .inl (gsg B r i : Int), .inl (rsc B r i : Int), .inl (a0 : Int), .inl (e0 : Int)] M Q := by
  have hf := hC.2.2.2.2.2.1
  have hNf := hC.2.2.2.2.1
  have hz := hW.2.2.2.1 r hr.1
  refine (v_164_119 _ _ _ _ _ _ _).mpr ?_
  refine x_cutsOf hC (hz.2.2.2.2 i (by omega)) (rsc_lt hW hr.1 hi) ha ⟨by omega, by omega⟩ (fun v hv => ?_)
  obtain ⟨vn, v1, v2, v3⟩ := hv
  have key : ∀ k, vn.testBit (a0 + (k + 1)) = true ↔ k < e0 - a0 ∧ 0 < wk B x r i a0 (e0 - a0) k := by
    intro k
    rw [v3]
    constructor
    · rintro ⟨q1, q2, q3⟩
      refine ⟨by omega, ?_⟩
      rw [mk_rsc hW (by omega) (by omega) hr hi] at q3
      have q4 : 0 < wT B x (gsg B r i) a0 (k + 1) := by
        rcases q1 with ⟨g1, g2, g3, g4⟩ | ⟨g1, g2, g3, g4, g5⟩
        · rw [show a0 + (k + 1) - a0 = k + 1 by omega, mk_sgn hW (by omega) hr (by omega)] at g4; exact g4
        · rw [← mk_sgn hW (by omega) hr (by omega), mk_let (D' := dN) ⟨g1, g2⟩]; exact ⟨by omega, g5⟩
      exact wk_pos.mpr ⟨q4, by rw [show e0 - a0 - (k + 1) = e0 - (a0 + (k + 1)) by omega]; exact q3⟩
    · rintro ⟨q1, q2⟩
      obtain ⟨q3, q4⟩ := wk_pos.mp q2
      have hl := wR_len q4
      refine ⟨?_, by omega, ?_⟩
      · rw [← mk_sgn hW (by omega) hr (by omega)] at q3
        rcases hz.2.2.2.2 i (by omega) with g | g
        · exact Or.inl ⟨g, by omega, by omega, by rw [show a0 + (k + 1) - a0 = k + 1 by omega]; exact q3⟩
        · rw [mk_let (D' := dN) g] at q3
          exact Or.inr ⟨g.1, g.2, by omega, by omega, q3.2⟩
      · rw [mk_rsc hW (by omega) (by omega) hr hi, show e0 - (a0 + (k + 1)) = e0 - a0 - (k + 1) by omega]; exact q4
  have low : ∀ t, vn.testBit t = true → a0 < t := by
    intro t ht
    rcases ((v3 t).mp ht).1 with q | q
    · exact q.2.1
    · omega
  have htot : q_sm (wb B x r i a0 (e0 - a0) vn) (e0 - a0) = q_sm (wk B x r i a0 (e0 - a0)) (e0 - a0) := by
    refine q_sm_cg (fun k hk => ?_)
    unfold wb
    cases q : vn.testBit (a0 + (k + 1)) with
    | true => rw [if_pos rfl]
    | false =>
      rw [if_neg (by decide)]
      rcases Nat.eq_zero_or_pos (wk B x r i a0 (e0 - a0) k) with z | z
      · exact z.symm
      · rw [(key k).mpr ⟨hk, z⟩] at q; cases q
  rw [v2]
  refine x_bitsn v1 ?_
  have hfin : wR B x r i a0 (e0 - a0) = min (q_sm (wk B x r i a0 (e0 - a0)) (e0 - a0)) wC := wR_step (by omega)
  rw [← w32_nat v1]
  refine p_whi (S := Nat × Nat) (X := fun z => am_x am_P am_gg (d + 2) am_k164 1 Q 24 [some (.inr (.inr 119)), some (.inl ((gsg B r i : Int))), some (.inl ((rsc B r i : Int))), some (.inl ((a0 : Int))), some (.inl ((e0 : Int))), some (.inl (w32 (z.1 : Int))), some (.inr (.inl (z.2 : Int))), none, some (.inl (((cnt z.1.testBit 32 : Nat) : Int))), none] [] M 0 0) (fun k z => z.1 = k ∧ z.1 < 2147483648 ∧ (∀ t, z.1.testBit t = true → vn.testBit t = true) ∧ z.2 + q_sm (wb B x r i a0 (e0 - a0) z.1) (e0 - a0) = q_sm (wb B x r i a0 (e0 - a0) vn) (e0 - a0)) ?_ vn (vn, 0) ⟨rfl, v1, fun _ h => h, Nat.zero_add _⟩
  rintro k ⟨v, g⟩ ⟨rfl, h1, h2, h3⟩ go
  dsimp only at h1 h2 h3 ⊢
  have hle := wb_le (B := B) (x := x) (r := r) (i := i) (a := a0) (n := e0 - a0) (e0 - a0) vn
  have hle2 : 1000000000000 * (e0 - a0) ≤ 16000000000000 := by omega
  refine (h_164_24_119 _ _ _ _ _ _ _ _ _ _).mpr ?_
  refine @p_if _ _ _ _ ?_ ?_
  · intro hc
    have hc : 0 < cnt v.testBit 32 := by omega
    have hv0 : v ≠ 0 := fun q => by subst q; rw [cnt_zero (fun k _ => Nat.zero_testBit k)] at hc; omega
    obtain ⟨t, t1, t2⟩ := b_low hv0
    have htl := low t (h2 t t1)
    obtain ⟨kk, rfl⟩ : ∃ kk, t = a0 + (kk + 1) := ⟨t - a0 - 1, by omega⟩
    obtain ⟨k1, k2⟩ := (key kk).mp (h2 _ t1)
    obtain ⟨k3, k4⟩ := wk_pos.mp k2
    have hlk := wR_len k4
    have hdrop := b_drop_cnt hv0 (n := 32) (by omega)
    refine x_ntz (by omega) t1 t2 ?_
    have e1 : a0 + (kk + 1) - a0 = kk + 1 := by omega
    have e2 : e0 - (a0 + (kk + 1)) = e0 - a0 - (kk + 1) := by omega
    refine x_waysSg (x := x) hW (hz.2.2.2.2 i (by omega)) (by omega) (by omega) (by rw [e1]; exact k3) (fun g8 => hs _ _ _ g8 (usd_sg hr (by omega) g8) (by omega) (Or.inl (by omega))) ?_
    refine x_waysBehind (x := x) hW hr hi (by omega) (by omega) (by rw [e2]; exact k4) (fun s q1 q2 => hs s _ _ q1 q2 (by omega) (Or.inr ⟨rfl, by omega⟩)) (fun q => hre r (i + 1) _ hr (by omega) (by omega) (by omega) (by rw [e2]; exact k4)) ?_
    rw [e1, e2]
    have hone : q_sm (wb B x r i a0 (e0 - a0) v) (e0 - a0) = q_sm (wb B x r i a0 (e0 - a0) (v &&& (v - 1))) (e0 - a0) + wk B x r i a0 (e0 - a0) kk := by
      have z1 : wb B x r i a0 (e0 - a0) (v &&& (v - 1)) kk = 0 := by unfold wb; rw [b_drop t1 t2]; simp
      have z2 : ∀ k, k ≠ kk → wb B x r i a0 (e0 - a0) v k = wb B x r i a0 (e0 - a0) (v &&& (v - 1)) k := by
        intro k hk
        have hne : a0 + (k + 1) ≠ a0 + (kk + 1) := by omega
        unfold wb
        rw [b_drop t1 t2]
        simp [hk]
      have := q_sm_one (p := wb B x r i a0 (e0 - a0) v) (q := wb B x r i a0 (e0 - a0) (v &&& (v - 1))) (t := kk) k1 z1 z2
      rw [this]
      unfold wb
      rw [if_pos t1]
    have hwk : wT B x (gsg B r i) a0 (kk + 1) * wR B x r (i + 1) (a0 + (kk + 1)) (e0 - a0 - (kk + 1)) = wk B x r i a0 (e0 - a0) kk := rfl
    have hb1 : wk B x r i a0 (e0 - a0) kk < 9223372036854775808 := Nat.lt_of_le_of_lt wk_le (by decide)
    have hb2 : g + wk B x r i a0 (e0 - a0) kk < 9223372036854775808 := ar_1 h3 (Nat.le_trans hle hle2) wk_le
    rw [← Int.natCast_mul, hwk, w64_n hb1, ← Int.natCast_add, w64_n hb2, hdrop, w_m1 (cnt_le 32), w_pr hv0 h1, b_and (ar_2 h1) (ar_3 h1)]
    refine am_x_le [some (.inr (.inr 119)), some (.inl ((gsg B r i : Int))), some (.inl ((rsc B r i : Int))), some (.inl ((a0 : Int))), some (.inl ((e0 : Int))), some (.inl (w32 ((v &&& (v - 1) : Nat) : Int))), some (.inr (.inl ((g + wk B x r i a0 (e0 - a0) kk : Nat) : Int))), none, some (.inl (((cnt (v &&& (v - 1)).testBit 32 : Nat) : Int))), none] (am_lb_le _ _ ⟨rfl, rfl, rfl, rfl, rfl, rfl, rfl, rfl, trivial⟩) ?_
    have hlt := b_drop_lt hv0
    refine go _ (v &&& (v - 1), g + wk B x r i a0 (e0 - a0) kk) hlt ⟨rfl, Nat.lt_trans hlt h1, fun t ht => ?_, ar_4 hone h3⟩
    have ht : (v &&& (v - 1)).testBit t = true := ht
    rw [Nat.testBit_and] at ht
    exact h2 t ((Bool.and_eq_true _ _).mp ht).1
  · intro hc
    have hv0 : v = 0 := b_bits0 (n := 32) (by omega) (by omega)
    have e0' : q_sm (wb B x r i a0 (e0 - a0) v) (e0 - a0) = 0 := q_sm_0 (fun k _ => by unfold wb; rw [hv0, Nat.zero_testBit, if_neg (by decide)])
    have hg : g = q_sm (wk B x r i a0 (e0 - a0)) (e0 - a0) := by omega
    have hmin : i_min (g : Int) 1000000 = ((min g 1000000 : Nat) : Int) := by unfold i_min; omega
    rw [hmin, w32_nat (by omega), hg]
    rw [hfin] at hQ
    exact hQ
end Sb0
