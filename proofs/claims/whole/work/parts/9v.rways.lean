/-! ways of a text: the reference counts them -/
def wC : Nat := 1000000
def wL (x : Nat → Nat) (s a : Nat) : Nat := if x a = s - 16 then 1 else 0
def wT (B : Nat → Nat) (x : Nat → Nat) (s a n : Nat) : Nat := q_T wC (wL x) B q_N s a n
def wR (B : Nat → Nat) (x : Nat → Nat) (r i a n : Nat) : Nat := q_row wC (q_T wC (wL x) B q_N) B r (gsz B r - i) a n
section S9v
variable {B : Nat → Nat} {x y : Nat → Nat} {r i a n s k : Nat}
theorem wL_le : ∀ s a, wL x s a ≤ 1 := fun s a => by unfold wL; split <;> omega
theorem wT_let (hW : gW B) (hs : ¬ s < 8) (hn : n ≤ 24) : wT B x s a n = if n = 1 then wL x s a else 0 := by
  unfold wT
  rw [q_T_eq hW hn]; unfold q_one; rw [if_neg hs]
def wm (B : Nat → Nat) (x : Nat → Nat) (s a n r : Nat) : Nat := if gon B r = true ∧ gsy B r = s then wR B x r 0 a n else 0
theorem wT_sym (hW : gW B) (hs : s < 8) (hn : n ≤ 24) : wT B x s a n = min (q_sm (wm B x s a n) (B 0)) wC := by
  unfold wT
  rw [q_T_eq hW hn]; unfold q_one; rw [if_pos hs]; rfl
theorem wR_end : wR B x r (gsz B r) a n = if n = 0 then 1 else 0 := by
  unfold wR; rw [Nat.sub_self]; rfl
def wk (B : Nat → Nat) (x : Nat → Nat) (r i a n k : Nat) : Nat := wT B x (gsg B r i) a (k + 1) * wR B x r (i + 1) (a + (k + 1)) (n - (k + 1))
theorem wR_step (hi : i < gsz B r) : wR B x r i a n = min (q_sm (wk B x r i a n) n) wC := by
  unfold wR
  rw [show gsz B r - i = (gsz B r - (i + 1)) + 1 by omega]
  show min (q_sm _ n) wC = _
  rw [show gsz B r - ((gsz B r - (i + 1)) + 1) = i by omega]
  rfl
theorem wR_0 (h : n < gsz B r - i) : wR B x r i a n = 0 := q_row_0 _ _ _ h
theorem wT_le : wT B x s a n ≤ wC := q_T_le (by decide) wL_le
theorem wR_le : wR B x r i a n ≤ wC := q_row_le _ _ _ (by decide)
theorem wT_nil (hW : gW B) : wT B x s a 0 = 0 := q_T_nil hW
theorem wR_last (hi : i + 1 = gsz B r) (hn : 1 ≤ n) : wR B x r i a n = wT B x (gsg B r i) a n := by
  rw [wR_step (by omega)]
  obtain ⟨m, rfl⟩ : ∃ m, n = m + 1 := ⟨n - 1, by omega⟩
  have e : q_sm (wk B x r i a (m + 1)) (m + 1) = wT B x (gsg B r i) a (m + 1) := by
    show q_sm _ m + _ * _ = _
    rw [q_sm_0, hi, wR_end, if_pos (by omega), Nat.mul_one, Nat.zero_add]
    intro k hk
    show _ * _ = 0
    rw [hi, wR_end, if_neg (by omega), Nat.mul_zero]
  rw [e]
  have := wT_le (B := B) (x := x) (s := gsg B r i) (a := a) (n := m + 1)
  omega
/-- only the letters of the span count -/
theorem q_row_x {C : Nat} {t t' : Nat → Nat → Nat → Nat} (j : Nat) : ∀ a n, (∀ s a' n', a ≤ a' → a' + n' ≤ a + n → t s a' n' = t' s a' n') → q_row C t B r j a n = q_row C t' B r j a n := by
  induction j with
  | zero => intro a n _; rfl
  | succ j ih =>
    intro a n h
    show min (q_sm _ n) C = min (q_sm _ n) C
    rw [q_sm_cg]
    intro k hk
    show t _ _ _ * q_row C t B r j _ _ = t' _ _ _ * q_row C t' B r j _ _
    rw [h _ _ _ (Nat.le_refl _) (by omega), ih _ _ (fun s a' n' h1 h2 => h s a' n' (by omega) (by omega))]
theorem q_T_x (f : Nat) : ∀ s a n, (∀ j, a ≤ j → j < a + n → x j = y j) → q_T wC (wL x) B f s a n = q_T wC (wL y) B f s a n := by
  induction f with
  | zero => intro s a n _; rfl
  | succ f ih =>
    intro s a n h
    show q_one _ _ _ _ _ _ _ = q_one _ _ _ _ _ _ _
    unfold q_one
    split
    · rw [q_sm_cg]
      intro r hr
      show (if _ then _ else 0) = (if _ then _ else 0)
      rw [q_row_x _ _ _ (fun s a' n' h1 h2 => ih s a' n' (fun j h3 h4 => h j (by omega) (by omega)))]
    · split
      · unfold wL; rw [h a (Nat.le_refl _) (by omega)]
      · rfl
theorem wT_x (h : ∀ j, a ≤ j → j < a + n → x j = y j) : wT B x s a n = wT B y s a n := q_T_x _ _ _ _ h
theorem wR_x (h : ∀ j, a ≤ j → j < a + n → x j = y j) : wR B x r i a n = wR B y r i a n := q_row_x _ _ _ (fun s a' n' h1 h2 => q_T_x _ _ _ _ (fun j h3 h4 => h j (by omega) (by omega)))
end S9v
/-- the reference's text and what it keeps of spans -/
def wI (B : Nat → Nat) (x : Nat → Nat) (N : Nat) (M : (Nat → Int → Int)) : Prop := rb (M 174) 0 B ∧ M 173 42 = (N : Int) ∧ N ≤ 16 ∧ (∀ j : Nat, j < N → M 195 (j : Int) = (x j : Int) ∧ x j < 16) ∧ ∀ s a n : Nat, s < 8 → a + n ≤ N → M 196 (((s * 17 + a) * 17 + (a + n) : Nat) : Int) = -1 ∨ M 196 (((s * 17 + a) * 17 + (a + n) : Nat) : Int) = (wT B x s a n : Int)
def f196 (M M' : (Nat → Int → Int)) : Prop := ∀ c, c ≠ 196 → M' c = M c
def rWO (B x : Nat → Nat) (N d s a n : Nat) : Prop := ∀ (M : (Nat → Int → Int)) (Q : Int → (Nat → Int → Int) → Prop), wI B x N M → (∀ M', wI B x N M' → f196 M M' → Q (wT B x s a n : Int) M') → am_s am_P am_gg d 337 [.inr (.inr 174), .inl (s : Int), .inl (a : Int), .inl ((a + n : Nat) : Int)] M Q
def rXO (B x : Nat → Nat) (N d r i a n : Nat) : Prop := ∀ (M : (Nat → Int → Int)) (Q : Int → (Nat → Int → Int) → Prop), wI B x N M → (∀ M', wI B x N M' → f196 M M' → Q (wR B x r i a n : Int) M') → am_s am_P am_gg d 338 [.inr (.inr 174), .inl (r : Int), .inl (i : Int), .inl (a : Int), .inl ((a + n : Nat) : Int)] M Q
section S9v2
variable {B : Nat → Nat} {x : Nat → Nat} {N r i a n s k d : Nat} {M : (Nat → Int → Int)} {Q : Int → (Nat → Int → Int) → Prop}
theorem f196_rf : f196 M M := fun _ _ => rfl
theorem f196_tr {M' M'' : (Nat → Int → Int)} (h : f196 M M') (h' : f196 M' M'') : f196 M M'' := fun c h1 => (h' c h1).trans (h c h1)
theorem rWO_mono {d' : Nat} (h : rWO B x N d s a n) (hd : d ≤ d') : rWO B x N d' s a n := fun M Q hI hQ => am_s_mono hd (h M Q hI hQ) (fun _ _ q => q)
theorem rXO_mono {d' : Nat} (h : rXO B x N d r i a n) (hd : d ≤ d') : rXO B x N d' r i a n := fun M Q hI hQ => am_s_mono hd (h M Q hI hQ) (fun _ _ q => q)
theorem m_most {v : Nat} (hv : v < 4000000000000) (hQ : Q ((min v wC : Nat) : Int) M) : am_s am_P am_gg (d + 1) 336 [.inr (.inl (v : Int))] M Q := by
  refine (v_336 _ _ _ _).mpr ?_
  unfold wC at hQ
  refine @p_if _ _ _ _ ?_ ?_
  · intro h; have h := lc_gt.mp h
    rw [show min v 1000000 = 1000000 by omega] at hQ; exact hQ
  · intro h; have h := mt lc_gt.mpr h
    rw [show min v 1000000 = v by omega] at hQ
    rw [w32_i (by omega) (by omega)]; exact hQ
theorem wI_s (h : wI B x N M) (hs : s < 8) (hn : a + n ≤ N) : wI B x N (am_up M 196 (((s * 17 + a) * 17 + (a + n) : Nat) : Int) (wT B x s a n : Int)) := by
  obtain ⟨h1, h2, h3, h4, h5⟩ := h
  refine ⟨by rw [up_nc _ _ _ _ (by decide)]; exact h1, by rw [up_nc _ _ _ _ (by decide)]; exact h2, h3, fun j hj => by rw [up_nc _ _ _ _ (by decide)]; exact h4 j hj, fun s' a' n' g1 g2 => ?_⟩
  rw [up_ci]
  by_cases e : s' = s ∧ a' = a ∧ n' = n
  · obtain ⟨rfl, rfl, rfl⟩ := e
    rw [if_pos rfl]; exact Or.inr rfl
  · have key : ¬ ((s' * 17 + a') * 17 + (a' + n') = (s * 17 + a) * 17 + (a + n)) := fun q => by
      have q1 : s' * 17 + a' = s * 17 + a := by omega
      have q2 : s' = s := by omega
      omega
    rw [if_neg (fun q => key (Int.ofNat_inj.mp q))]; exact h5 s' a' n' g1 g2
theorem m_wLet (hW : gW B) (hs : 16 ≤ s ∧ s < 32) (h1 : 1 ≤ n) (hn : a + n ≤ N) : rWO B x N (d + 1) s a n := by
  intro M Q hI hQ
  have hN := hI.2.2.1
  refine (v_337_174 _ _ _ _ _ _).mpr ?_
  rw [if_neg (by omega)]
  have q := hQ M hI f196_rf
  rw [wT_let hW (by omega) (by omega)] at q
  rw [w32_s (by omega), w32_i (by omega) (by omega)]
  have hx := hI.2.2.2.1 a (by omega)
  refine @p_if _ _ _ _ ?_ ?_
  · intro h
    rw [if_pos (by omega)]
    rw [if_pos (by omega)] at q
    unfold wL at q
    rw [hx.1]
    refine @p_if _ _ _ _ ?_ ?_
    · intro g; rw [if_pos (by omega)] at q; exact q
    · intro g; rw [if_neg (by omega)] at q; exact q
  · intro h; rw [if_neg (by omega)] at q; exact q
theorem m_wSym (hW : gW B) (hs : s < 8) (hn : a + n ≤ N) (hd : 2 ≤ d) (h : ∀ r, r < B 0 → gon B r = true → gsy B r = s → rXO B x N d r 0 a n) : rWO B x N (d + 1) s a n := by
  intro M Q hI hQ
  obtain ⟨d, rfl⟩ : ∃ e, d = e + 2 := ⟨d - 2, by omega⟩
  have hN := hI.2.2.1
  have hn16 := hW.1
  refine (v_337_174 _ _ _ _ _ _).mpr ?_
  rw [if_pos (by omega)]
  rw [show w32 ((s : Int) * 17) = ((s * 17 : Nat) : Int) by rw [w32_i (by omega) (by omega)]; omega, show w32 (((s * 17 : Nat) : Int) + (a : Int)) = ((s * 17 + a : Nat) : Int) by rw [w32_i (by omega) (by omega)]; omega, show w32 (((s * 17 + a : Nat) : Int) * 17) = (((s * 17 + a) * 17 : Nat) : Int) by rw [w32_i (by omega) (by omega)]; omega, show w32 ((((s * 17 + a) * 17 : Nat) : Int) + ((a + n : Nat) : Int)) = (((s * 17 + a) * 17 + (a + n) : Nat) : Int) by rw [w32_i (by omega) (by omega)]; omega]
  rw [if_pos (by omega)]
  have hk := hI.2.2.2.2 s a n hs hn
  refine @p_if _ _ _ _ ?_ ?_
  · intro hc
    clear hk hc
    refine p_for (S := (Nat → Int → Int) × Nat) (X := fun k z => am_x am_P am_gg (d + 2) am_k337 1 Q 69 [some (.inr (.inr 174)), some (.inl ((s : Int))), some (.inl ((a : Int))), some (.inl (((a + n : Nat) : Int))), some (.inl ((((s * 17 + a) * 17 + (a + n) : Nat) : Int))), some (.inr (.inl (z.2 : Int))), none, some (.inl (k))] [] z.1 0 0) (B 0) (fun k z => wI B x N z.1 ∧ f196 M z.1 ∧ z.2 = q_sm (wm B x s a n) k) ?_ ?_ 0 (M, 0) (by omega) ⟨hI, f196_rf, rfl⟩
    · rintro ⟨M1, g⟩ ⟨hI1, hF1, hg⟩
      refine (h_337_69_174 _ _ _ _ _ _ _ _ _).mpr (m_rules hI1.1 ?_)
      rw [if_neg (by omega)]
      dsimp only at hg ⊢
      have hb : ∀ k, q_sm (wm B x s a n) k ≤ k * wC := by
        intro k
        induction k with
        | zero => exact Nat.zero_le _
        | succ k ih =>
          show q_sm _ k + wm B x s a n k ≤ _
          have : wm B x s a n k ≤ wC := by unfold wm; split; exact wR_le; exact Nat.zero_le _
          rw [Nat.succ_mul]; omega
      have hb := hb (B 0)
      have hb2 : B 0 * wC ≤ 16 * wC := Nat.mul_le_mul_right _ hn16
      have hb3 : 16 * wC = 16000000 := rfl
      refine m_most (by omega) ?_
      rw [if_pos (by omega)]
      rw [if_pos (by omega)]
      rw [up_eq, hg, ← wT_sym hW hs (by omega)]
      exact hQ _ (wI_s hI1 hs hn) (fun c hc => by rw [up_nc _ _ _ _ hc]; exact hF1 c hc)
    · rintro k ⟨M1, g⟩ hk ⟨hI1, hF1, hg⟩ go
      refine (h_337_69_174 _ _ _ _ _ _ _ _ _).mpr (m_rules hI1.1 ?_)
      rw [if_pos (by omega)]
      have hb : ∀ k, q_sm (wm B x s a n) k ≤ k * wC := by
        intro k
        induction k with
        | zero => exact Nat.zero_le _
        | succ k ih =>
          show q_sm _ k + wm B x s a n k ≤ _
          have : wm B x s a n k ≤ wC := by unfold wm; split; exact wR_le; exact Nat.zero_le _
          rw [Nat.succ_mul]; omega
      have hb := hb k
      have hb2 : k * wC ≤ 16 * wC := Nat.mul_le_mul_right _ (by omega)
      have hb3 : 16 * wC = 16000000 := rfl
      have hg' : g = q_sm (wm B x s a n) k := hg
      have skip : ¬ (gon B k = true ∧ gsy B k = s) → am_x am_P am_gg (d + 2) am_k337 1 Q 69 [some (.inr (.inr 174)), some (.inl ((s : Int))), some (.inl ((a : Int))), some (.inl (((a + n : Nat) : Int))), some (.inl ((((s * 17 + a) * 17 + (a + n) : Nat) : Int))), some (.inr (.inl (g : Int))), none, some (.inl (w32 ((k : Int) + 1)))] [] M1 0 0 := by
        intro hno
        rw [w32_s (by omega)]
        refine go (M1, g) ⟨hI1, hF1, ?_⟩
        dsimp only
        rw [hg']
        show _ = q_sm _ k + (if _ then _ else 0)
        rw [if_neg hno]; rfl
      refine m_isOn hI1.1 hW.on (by omega) ?_ ?_
      · intro ho
        rw [if_neg (by omega)]
        refine m_sym hI1.1 (by omega) ?_
        refine @p_if _ _ _ _ ?_ ?_
        · intro e
          have e : gsy B k = s := by omega
          refine h k hk ho e _ _ hI1 (fun M2 hI2 hF2 => ?_)
          have hwl := wR_le (B := B) (x := x) (r := k) (i := 0) (a := a) (n := n)
          have hwc : wC = 1000000 := rfl
          rw [w32_s (by omega), show w64 ((g : Int) + (wR B x k 0 a n : Int)) = ((g + wR B x k 0 a n : Nat) : Int) by rw [w64_i (by omega) (by omega)]; omega]
          refine go (M2, _) ⟨hI2, f196_tr hF1 hF2, ?_⟩
          dsimp only
          rw [hg']
          show _ = q_sm _ k + (if _ then _ else 0)
          rw [if_pos ⟨ho, e⟩]
        · intro e; exact skip (fun q => e (by omega))
      · intro ho
        rw [if_pos (by omega)]
        exact skip (fun q => by rw [ho] at q; exact absurd q.1 (by decide))
  · intro hc
    rw [if_pos (by omega)]
    rcases hk with hk | hk
    · omega
    · rw [hk]; exact hQ M hI f196_rf
/-- a row from a sign on -/
theorem m_wRow (hW : gW B) (hr : r < B 0) (hi : i < gsz B r) (h0 : 1 ≤ n) (hn : a + n ≤ N) (hN : N ≤ 16) (hd : 1 ≤ d) (h1 : ∀ k, 1 ≤ k → k + (gsz B r - i - 1) ≤ n → gsz B r - i - 1 ≠ 0 → rXO B x N d r (i + 1) (a + k) (n - k)) (h2 : ∀ k, 1 ≤ k → k + (gsz B r - i - 1) ≤ n → (gsz B r - i - 1 = 0 → k = n) → rWO B x N d (gsg B r i) a k) : rXO B x N (d + 1) r i a n := by
  intro M Q hI hQ
  obtain ⟨d, rfl⟩ : ∃ e, d = e + 1 := ⟨d - 1, by omega⟩
  refine (v_338_174 _ _ _ _ _ _ _).mpr ?_
  have hz := (hW.2.2.2.1 r hr).2.2.1
  have hn16 := hW.1
  refine m_size hI.1 (by omega) ?_
  obtain ⟨m, hm⟩ : ∃ m, gsz B r = i + 1 + m := ⟨gsz B r - i - 1, by omega⟩
  rw [show w32 ((gsz B r : Int) - (i : Int)) = ((m + 1 : Nat) : Int) by rw [w32_i (by omega) (by omega)]; omega, show w32 (((m + 1 : Nat) : Int) - 1) = (m : Int) by rw [w32_i (by omega) (by omega)]; omega]
  refine @p_if _ _ _ _ ?_ ?_
  · intro hm0
    refine m_sign hI.1 (by omega) (by omega) (h2 n h0 (by omega) (fun _ => rfl) _ _ hI (fun M1 hI1 hF1 => ?_))
    have q := hQ M1 hI1 hF1
    rw [wR_last (by omega) h0] at q; exact q
  · intro hm0
    have ht0 : ∀ k, n - m ≤ k → k < n → wk B x r i a n k = 0 := fun k h3 h4 => by unfold wk; rw [wR_0 (i := i + 1) (by omega), Nat.mul_zero]
    have e2 : wR B x r i a n = min (q_sm (wk B x r i a n) (n - m)) wC := by rw [wR_step hi, q_sm_cut (by omega) ht0]
    rw [w32_s (by omega)]
    refine p_for (S := (Nat → Int → Int) × Nat) (X := fun k z => am_x am_P am_gg (d + 1) am_k338 1 Q 38 [some (.inr (.inr 174)), some (.inl ((r : Int))), some (.inl ((i : Int))), some (.inl ((a : Int))), some (.inl (((a + n : Nat) : Int))), some (.inl ((m : Int))), some (.inr (.inl (z.2 : Int))), none, some (.inl (k)), none] [] z.1 0 0) (a + (n - m) + 1) (fun k z => a + 1 ≤ k ∧ wI B x N z.1 ∧ f196 M z.1 ∧ z.2 = min (q_sm (wk B x r i a n) (k - a - 1)) wC) ?_ ?_ (a + 1) (M, 0) (by omega) ⟨Nat.le_refl _, hI, f196_rf, by rw [show a + 1 - a - 1 = 0 by omega]; rfl⟩
    · rintro ⟨M1, g⟩ ⟨_, hI1, hF1, hg⟩
      refine (h_338_38_174 _ _ _ _ _ _ _ _ _ _).mpr ?_
      rw [w32_i (by omega) (by omega)]
      dsimp only at hg
      have hgl : g ≤ wC := by rw [hg]; exact Nat.min_le_right _ _
      have hwc : wC = 1000000 := rfl
      by_cases hlt : n < m
      · rw [show n - m = 0 by omega] at e2 hg
        refine @p_if _ _ _ _ ?_ ?_
        · intro _
          refine m_most (by omega) ?_
          dsimp only
          rw [show min g wC = g by omega, hg, show a + 0 + 1 - a - 1 = 0 by omega, ← e2]; exact hQ M1 hI1 hF1
        · intro q; omega
      · rw [if_pos (by omega)]
        refine m_most (by omega) ?_
        dsimp only
        rw [show min g wC = g by omega, hg, show a + (n - m) + 1 - a - 1 = n - m by omega, ← e2]; exact hQ M1 hI1 hF1
    · rintro k ⟨M1, g⟩ hk ⟨hk1, hI1, hF1, hg⟩ go
      obtain ⟨j, rfl⟩ : ∃ j, k = a + (j + 1) := ⟨k - a - 1, by omega⟩
      refine (h_338_38_174 _ _ _ _ _ _ _ _ _ _).mpr ?_
      rw [w32_i (by omega) (by omega)]
      rw [if_neg (by omega)]
      have hg' : g = min (q_sm (wk B x r i a n) j) wC := by have hg : g = _ := hg; rw [hg, show a + (j + 1) - a - 1 = j by omega]
      have hgl : g ≤ wC := by rw [hg']; exact Nat.min_le_right _ _
      have hwc : wC = 1000000 := rfl
      refine m_sign hI1.1 (by omega) (by omega) (h2 (j + 1) (by omega) (by omega) (by omega) _ _ hI1 (fun M2 hI2 hF2 => ?_))
      have hwt := wT_le (B := B) (x := x) (s := gsg B r i) (a := a) (n := j + 1)
      have es : q_sm (wk B x r i a n) (j + 1) = q_sm (wk B x r i a n) j + wT B x (gsg B r i) a (j + 1) * wR B x r (i + 1) (a + (j + 1)) (n - (j + 1)) := rfl
      refine @p_if _ _ _ _ ?_ ?_
      · intro hp
        rw [w32_s (by omega)]
        have hX := h1 (j + 1) (by omega) (by omega) (by omega) M2
        rw [show a + (j + 1) + (n - (j + 1)) = a + n by omega] at hX
        refine hX _ hI2 (fun M3 hI3 hF3 => ?_)
        have hwr := wR_le (B := B) (x := x) (r := r) (i := i + 1) (a := a + (j + 1)) (n := n - (j + 1))
        have hmul : wT B x (gsg B r i) a (j + 1) * wR B x r (i + 1) (a + (j + 1)) (n - (j + 1)) ≤ wC * wC := Nat.mul_le_mul hwt hwr
        have hwc2 : wC * wC = 1000000000000 := rfl
        rw [← Int.natCast_mul, w64_n (by omega), ← Int.natCast_add, w64_n (by omega)]
        refine m_most (by omega) ?_
        rw [w32_s (by omega)]
        refine am_x_le [some (.inr (.inr 174)), some (.inl ((r : Int))), some (.inl ((i : Int))), some (.inl ((a : Int))), some (.inl (((a + n : Nat) : Int))), some (.inl ((m : Int))), some (.inr (.inl ((min (g + wT B x (gsg B r i) a (j + 1) * wR B x r (i + 1) (a + (j + 1)) (n - (j + 1))) wC : Nat) : Int))), none, some (.inl (((a + (j + 1) + 1 : Nat) : Int))), none] (am_lb_le _ _ ⟨rfl, rfl, rfl, rfl, rfl, rfl, rfl, rfl, trivial⟩) ?_
        refine go (M3, _) ⟨by omega, hI3, f196_tr hF1 (f196_tr hF2 hF3), ?_⟩
        dsimp only
        rw [show a + (j + 1) + 1 - a - 1 = j + 1 by omega, es, hg']
        exact q_cap _ _ _
      · intro hp
        refine m_most (by omega) ?_
        rw [w32_s (by omega)]
        refine am_x_le [some (.inr (.inr 174)), some (.inl ((r : Int))), some (.inl ((i : Int))), some (.inl ((a : Int))), some (.inl (((a + n : Nat) : Int))), some (.inl ((m : Int))), some (.inr (.inl ((min g wC : Nat) : Int))), none, some (.inl (((a + (j + 1) + 1 : Nat) : Int))), none] (am_lb_le _ _ ⟨rfl, rfl, rfl, rfl, rfl, rfl, rfl, rfl, trivial⟩) ?_
        refine go (M2, _) ⟨by omega, hI2, f196_tr hF1 hF2, ?_⟩
        dsimp only
        rw [show a + (j + 1) + 1 - a - 1 = j + 1 by omega, es, show wT B x (gsg B r i) a (j + 1) = 0 by omega, Nat.zero_mul, hg', Nat.add_zero]
        omega
theorem m_wRowAll (hW : gW B) (hr : r < B 0) (hN : N ≤ 16) (D : Nat) (hd : 1 ≤ D) : ∀ j i a n, i + j + 1 = gsz B r → 1 ≤ n → a + n ≤ N → (∀ i' a' k, i ≤ i' → i' < gsz B r → 1 ≤ k → a' + k ≤ N → (k < n ∨ k = n ∧ j = 0) → rWO B x N D (gsg B r i') a' k) → rXO B x N (D + (j + 1)) r i a n := by
  intro j
  induction j with
  | zero =>
    intro i a n hi h0 hn h
    exact m_wRow hW hr (by omega) h0 hn hN hd (fun k _ _ q => by omega) (fun k h1 h2 h3 => h i a k (Nat.le_refl _) (by omega) h1 (by omega) (by omega))
  | succ j ih =>
    intro i a n hi h0 hn h
    rw [show D + (j + 1 + 1) = D + (j + 1) + 1 by omega]
    exact m_wRow hW hr (by omega) h0 hn hN (by omega) (fun k h1 h2 h3 => ih (i + 1) (a + k) (n - k) (by omega) (by omega) (by omega) (fun i' a' k' a1 a2 a3 a4 a5 => h i' a' k' (by omega) a2 a3 a4 (by omega))) (fun k h1 h2 h3 => rWO_mono (h i a k (Nat.le_refl _) (by omega) h1 (by omega) (by omega)) (by omega))
theorem m_ways0 (hW : gW B) (hN : N ≤ 16) : ∃ pos : Nat → Nat, (∀ s, pos s < 8) ∧ ∀ K s a n, 8 * n + pos s < K → s < 8 → 1 ≤ n → a + n ≤ N → rWO B x N (40 * n + 3 * pos s + 40) s a n := by
  obtain ⟨pos, hp, hu⟩ := hW.2.2.2.2
  refine ⟨pos, hp, ?_⟩
  intro K
  induction K with
  | zero => intro s a n h; omega
  | succ K ih =>
    intro s a n hK hs h0 hn
    have hps := hp s
    rw [show 40 * n + 3 * pos s + 40 = 40 * n + 3 * pos s + 39 + 1 by omega]
    refine m_wSym hW hs hn (by omega) (fun r hr ho hy => ?_)
    have hg := hW.2.2.2.1 r hr
    by_cases h1 : gsz B r = 1
    · refine rXO_mono (m_wRowAll hW hr hN (40 * n + 3 * pos s + 37) (by omega) 0 0 a n (by omega) h0 hn (fun i' a' k a1 a2 a3 a4 a5 => ?_)) (by omega)
      have e : i' = 0 := by omega
      subst e
      rcases hg.2.2.2.2 0 (by omega) with g | g
      · have := hp (gsg B r 0)
        have hlt := hu r hr h1 g
        rw [hy] at hlt
        exact rWO_mono (ih _ a' k (by omega) g a3 a4) (by omega)
      · exact rWO_mono (m_wLet (d := 0) hW g a3 a4) (by omega)
    · refine rXO_mono (m_wRowAll hW hr hN (40 * n + 3 * pos s + 31) (by omega) (gsz B r - 1) 0 a n (by omega) h0 hn (fun i' a' k a1 a2 a3 a4 a5 => ?_)) (by omega)
      rcases hg.2.2.2.2 i' (by omega) with g | g
      · have := hp (gsg B r i')
        exact rWO_mono (ih _ a' k (by omega) g a3 a4) (by omega)
      · exact rWO_mono (m_wLet (d := 0) hW g a3 a4) (by omega)
theorem m_ways (hW : gW B) (hN : N ≤ 16) (hs : s < 8 ∨ (16 ≤ s ∧ s < 32)) (h0 : 1 ≤ n) (hn : a + n ≤ N) : rWO B x N (40 * n + 61) s a n := by
  rcases hs with hs | hs
  · obtain ⟨pos, hp, h⟩ := m_ways0 (x := x) hW hN
    have := hp s
    exact rWO_mono (h _ s a n (Nat.lt_succ_self _) hs h0 hn) (by omega)
  · exact rWO_mono (m_wLet (d := 0) hW hs h0 hn) (by omega)
theorem m_wRows (hW : gW B) (hN : N ≤ 16) (hr : r < B 0) (hi : i < gsz B r) (h0 : 1 ≤ n) (hn : a + n ≤ N) : rXO B x N (40 * n + 66) r i a n := by
  have hg := hW.2.2.2.1 r hr
  exact rXO_mono (m_wRowAll hW hr hN (40 * n + 61) (by omega) (gsz B r - i - 1) i a n (by omega) h0 hn (fun i' a' k a1 a2 a3 a4 a5 => rWO_mono (m_ways hW hN (hg.2.2.2.2 i' a2) a3 a4) (by omega))) (by omega)
end S9v2
