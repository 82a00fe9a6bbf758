/-! the class counts trees -/
/-- the code of a row; of what stands behind a place -/
def rwc (B : Nat → Nat) (r : Nat) : Nat := if gsz B r = 1 then gsg B r 0 else 32 + 4 * r
def rsc (B : Nat → Nat) (r i : Nat) : Nat := if i + 2 = gsz B r then gsg B r (i + 1) else 32 + 4 * r + i + 1
/-- what a code counts -/
def cv (B : Nat → Nat) (c n : Nat) : Nat := if c < 32 then tT B c n else tR B ((c - 32) / 4) ((c - 32) % 4) n
/-- the table holds a code at a length -/
def tbl (B : Nat → Nat) (M : (Nat → Int → Int)) (c n : Nat) : Prop := M 101 ((25 * c + n : Nat) : Int) = (cv B c n : Int)
def cL (B : Nat → Nat) (M : (Nat → Int → Int)) : Prop := ∀ l n : Nat, 16 ≤ l → l < 32 → 1 ≤ n → n ≤ 24 → tbl B M l n
def cT (B : Nat → Nat) (f : Nat) (M : (Nat → Int → Int)) : Prop := cL B M ∧ ∀ n, 1 ≤ n → n ≤ f → (∀ s, s < 8 → tbl B M s n) ∧ ∀ r i, r < B 0 → gon B r = true → i + 1 < gsz B r → tbl B M (32 + 4 * r + i) n
section S9r
variable {B : Nat → Nat} {M : (Nat → Int → Int)} {d : Nat} {Q : Int → (Nat → Int → Int) → Prop} {r i n s k c f : Nat}
theorem x_rowCode (hg : xgb B M 2) (hW : gW B) (hr : r < B 0) (hQ : Q (rwc B r : Int) M) : am_s am_P am_gg (d + 1) 68 [.inr (.inr 3), .inl (r : Int)] M Q := by
  have hn := hW.1
  have hz := hW.2.2.2.1 r hr
  obtain ⟨c1, c2, c3, c4⟩ := hg.2.2.2.2.1 r hr
  have c2 : M 4 (r : Int) = (gsz B r : Int) := c2
  refine (v_68_3 _ _ _ _).mpr ?_
  rw [w32_i (by omega) (by omega), c2]
  unfold rwc at hQ
  rw [if_pos (by omega)]
  refine @p_if _ _ _ _ ?_ ?_
  · intro h
    rw [if_pos (by omega)]
    have c4 := c4 0 (by omega)
    have c4 : M 6 ((4 * r + 0 : Nat) : Int) = (gsg B r 0 : Int) := c4
    rw [show (r : Int) * 4 = ((4 * r + 0 : Nat) : Int) by omega, c4]
    rw [if_pos (by omega)] at hQ; exact hQ
  · intro h
    rw [if_neg (by omega)] at hQ
    rw [show w32 (32 + (r : Int) * 4) = ((32 + 4 * r : Nat) : Int) by rw [w32_i (by omega) (by omega)]; omega]
    exact hQ
theorem x_restCode (hg : xgb B M 2) (hW : gW B) (hr : r < B 0) (hi : i + 1 < gsz B r) (hQ : Q (rsc B r i : Int) M) : am_s am_P am_gg (d + 1) 69 [.inr (.inr 3), .inl (r : Int), .inl (i : Int)] M Q := by
  have hn := hW.1
  have hz := hW.2.2.2.1 r hr
  obtain ⟨c1, c2, c3, c4⟩ := hg.2.2.2.2.1 r hr
  have c2 : M 4 (r : Int) = (gsz B r : Int) := c2
  refine (v_69_3 _ _ _ _ _).mpr ?_
  rw [show w32 ((r : Int) * 4) = ((4 * r : Nat) : Int) by rw [w32_i (by omega) (by omega)]; omega, show w32 (((4 * r : Nat) : Int) + (i : Int)) = ((4 * r + i : Nat) : Int) by rw [w32_i (by omega) (by omega)]; omega, w32_s (by omega), w32_i (by omega) (by omega), c2]
  unfold rsc at hQ
  rw [if_pos (by omega)]
  refine @p_if _ _ _ _ ?_ ?_
  · intro h
    rw [if_pos (by omega)]
    have c4 := c4 (i + 1) (by omega)
    have c4 : M 6 ((4 * r + (i + 1) : Nat) : Int) = (gsg B r (i + 1) : Int) := c4
    rw [show ((4 * r + i + 1 : Nat) : Int) = ((4 * r + (i + 1) : Nat) : Int) by omega, c4]
    rw [if_pos (by omega)] at hQ; exact hQ
  · intro h
    rw [if_neg (by omega)] at hQ
    rw [show w32 (32 + ((4 * r + i + 1 : Nat) : Int)) = ((32 + 4 * r + i + 1 : Nat) : Int) by rw [w32_i (by omega) (by omega)]; omega]
    exact hQ
theorem cv_rest (h : i < 4) : cv B (32 + 4 * r + i) n = tR B r i n := by
  unfold cv
  rw [if_neg (by omega), show (32 + 4 * r + i - 32) / 4 = r by omega, show (32 + 4 * r + i - 32) % 4 = i by omega]
theorem cv_rwc (hW : gW B) (hr : r < B 0) (hn : 1 ≤ n) : cv B (rwc B r) n = tR B r 0 n := by
  have hz := hW.2.2.2.1 r hr
  unfold rwc
  by_cases h : gsz B r = 1
  · rw [if_pos h, tR_last (by omega) hn]
    have := hz.2.2.2.2 0 (by omega)
    unfold cv; rw [if_pos (by omega)]
  · rw [if_neg h]; exact cv_rest (i := 0) (by omega)
theorem cv_rsc (hW : gW B) (hr : r < B 0) (hi : i + 1 < gsz B r) (hn : 1 ≤ n) : cv B (rsc B r i) n = tR B r (i + 1) n := by
  have hz := hW.2.2.2.1 r hr
  unfold rsc
  by_cases h : i + 2 = gsz B r
  · rw [if_pos h, tR_last (by omega) hn]
    have := hz.2.2.2.2 (i + 1) (by omega)
    unfold cv; rw [if_pos (by omega)]
  · rw [if_neg h]; exact cv_rest (i := i + 1) (by omega)
theorem cv_le : cv B c n ≤ tG := by unfold cv; split; exact tT_le; exact tR_le
theorem cv_sg (h : c < 32) : cv B c n = tT B c n := by unfold cv; rw [if_pos h]
theorem x_of (hc : c < 96) (hn : n ≤ 24) (h : tbl B M c n) (hQ : Q (cv B c n : Int) M) : am_s am_P am_gg (d + 1) 145 [.inr (.inr 101), .inl (c : Int), .inl (n : Int)] M Q := by
  refine (v_145_101 _ _ _ _ _).mpr ?_
  rw [show w32 ((c : Int) * 25) = ((25 * c : Nat) : Int) by rw [w32_i (by omega) (by omega)]; omega, show w32 (((25 * c : Nat) : Int) + (n : Int)) = ((25 * c + n : Nat) : Int) by rw [w32_i (by omega) (by omega)]; omega]
  rw [if_pos (by omega)]
  rw [h]; exact hQ
theorem x_plus {a b : Nat} (ha : a ≤ tG) (hb : b ≤ tG) (hQ : Q ((min (a + b) tG : Nat) : Int) M) : am_s am_P am_gg (d + 1) 146 [.inr (.inl (a : Int)), .inr (.inl (b : Int))] M Q := by
  refine (v_146 _ _ _ _ _).mpr ?_
  unfold tG at ha hb hQ
  rw [w64_i (by omega) (by omega)]
  unfold i_min
  by_cases h : (1000000000000 : Int) < (a : Int) + (b : Int)
  · rw [if_pos h]
    rw [show min (a + b) 1000000000000 = 1000000000000 by omega] at hQ; exact hQ
  · rw [if_neg h]
    rw [show min (a + b) 1000000000000 = a + b by omega] at hQ; exact hQ
theorem x_times {a b : Nat} (ha : a ≤ tG) (hb : b ≤ tG) (hQ : Q ((min (a * b) tG : Nat) : Int) M) : am_s am_P am_gg (d + 1) 147 [.inr (.inl (a : Int)), .inr (.inl (b : Int))] M Q := by
  refine (v_147 _ _ _ _ _).mpr ?_
  have e0 : ((1000000000000 : Nat) : Int) = 1000000000000 := rfl
  unfold tG at ha hb hQ
  refine @p_if _ _ _ _ ?_ ?_
  · intro h; have h := lc_eq.mp h
    rw [show a = 0 by omega, Nat.zero_mul] at hQ; exact hQ
  intro h; have h := mt lc_eq.mpr h
  refine @p_if _ _ _ _ ?_ ?_
  · intro h; have h := lc_eq.mp h
    rw [show b = 0 by omega, Nat.mul_zero] at hQ; exact hQ
  intro h2; have h2 := mt lc_eq.mpr h2
  rw [if_neg (by omega)]
  rw [← e0, tdiv_n]
  have hd : 1000000000000 / b ≤ 1000000000000 := Nat.div_le_self _ _
  have ho := mul_over (G := 1000000000000) (b := a) (show 0 < b by omega)
  rw [Nat.mul_comm b a] at ho
  rw [← Int.natCast_mul]
  revert hd ho hQ
  generalize 1000000000000 / b = q
  generalize a * b = p
  intro hQ hd ho
  rw [w64_i (by omega) (by omega)]
  refine @p_if _ _ _ _ ?_ ?_
  · intro g; have g := lc_gt.mp g
    have g := ho.mp (by omega)
    rw [show min p 1000000000000 = 1000000000000 by omega] at hQ; exact hQ
  · intro g; have g := mt lc_gt.mpr g
    have g : ¬ 1000000000000 < p := fun z => by have := ho.mpr z; omega
    rw [show min p 1000000000000 = p by omega] at hQ
    rw [w64_i (by omega) (by omega)]; exact hQ
theorem x_sumBelow {a b cut : Nat} (ha : a < 96) (hb : b < 96) (hn : n ≤ 24) (hcut : cut ≤ n) (h : ∀ k, 1 ≤ k → k < cut → tbl B M a k ∧ tbl B M b (n - k)) (hQ : Q ((min (q_sm (fun k => cv B a (k + 1) * cv B b (n - (k + 1))) (cut - 1)) tG : Nat) : Int) M) : am_s am_P am_gg (d + 2) 150 [.inr (.inr 101), .inl (a : Int), .inl (b : Int), .inl (n : Int), .inl (cut : Int)] M Q := by
  refine (v_150_101 _ _ _ _ _ _ _).mpr ?_
  by_cases h0 : cut = 0
  · subst h0
    refine (h_150_6_101 _ _ _ _ _ _ _ _ _).mpr ?_
    rw [if_neg (by omega)]
    exact hQ
  refine p_for (S := Nat) (X := fun k x => am_x am_P am_gg (d + 1) am_k150 2 Q 6 [some (.inr (.inr 101)), some (.inl ((a : Int))), some (.inl ((b : Int))), some (.inl ((n : Int))), some (.inl ((cut : Int))), some (.inr (.inl (x : Int))), none, some (.inl (k)), none, none] [] M 0 0) cut (fun k x => 1 ≤ k ∧ x = min (q_sm (fun k => cv B a (k + 1) * cv B b (n - (k + 1))) (k - 1)) tG) ?_ ?_ 1 0 (by omega) ⟨Nat.le_refl _, rfl⟩
  · rintro x ⟨_, hx⟩
    refine (h_150_6_101 _ _ _ _ _ _ _ _ _).mpr ?_
    rw [if_neg (by omega)]
    rw [hx]; exact hQ
  · rintro k x hk ⟨hk1, hx⟩ go
    refine (h_150_6_101 _ _ _ _ _ _ _ _ _).mpr ?_
    rw [if_pos (by omega)]
    obtain ⟨g1, g2⟩ := h k hk1 hk
    have hxl : x ≤ tG := by rw [hx]; exact Nat.min_le_right _ _
    refine x_of ha (by omega) g1 ?_
    rw [w32_s (by omega)]
    obtain ⟨k, rfl⟩ : ∃ j, k = j + 1 := ⟨k - 1, by omega⟩
    have e : q_sm (fun k => cv B a (k + 1) * cv B b (n - (k + 1))) (k + 1 + 1 - 1) = q_sm (fun k => cv B a (k + 1) * cv B b (n - (k + 1))) (k + 1 - 1) + cv B a (k + 1) * cv B b (n - (k + 1)) := rfl
    refine @p_if _ _ _ _ ?_ ?_
    · intro hc; have hc := lc_eq.mp hc
      refine am_x_le [some (.inr (.inr 101)), some (.inl ((a : Int))), some (.inl ((b : Int))), some (.inl ((n : Int))), some (.inl ((cut : Int))), some (.inr (.inl (x : Int))), none, some (.inl (((k + 1 + 1 : Nat) : Int))), none, none] (am_lb_le _ _ ⟨rfl, rfl, rfl, rfl, rfl, rfl, rfl, trivial⟩) ?_
      refine go x ⟨by omega, ?_⟩
      rw [e, show cv B a (k + 1) = 0 by omega, Nat.zero_mul]; exact hx
    · intro hc
      rw [show w32 ((n : Int) - ((k + 1 : Nat) : Int)) = ((n - (k + 1) : Nat) : Int) by rw [w32_i (by omega) (by omega)]; omega]
      refine x_of hb (by omega) g2 (x_times cv_le cv_le (x_plus hxl (Nat.min_le_right _ _) ?_))
      refine am_x_le [some (.inr (.inr 101)), some (.inl ((a : Int))), some (.inl ((b : Int))), some (.inl ((n : Int))), some (.inl ((cut : Int))), some (.inr (.inl ((min (x + min (cv B a (k + 1) * cv B b (n - (k + 1))) tG) tG : Nat) : Int))), none, some (.inl (((k + 1 + 1 : Nat) : Int))), none, none] (am_lb_le _ _ ⟨rfl, rfl, rfl, rfl, rfl, rfl, rfl, trivial⟩) ?_
      refine go _ ⟨by omega, ?_⟩
      rw [e, hx]; exact q_cap2 _ _ _
/-- codes in a grammar -/
theorem sg_32 (hW : gW B) (hr : r < B 0) (hi : i < gsz B r) : gsg B r i < 32 ∧ (gsg B r i < 8 ∨ 16 ≤ gsg B r i) := by have := (hW.2.2.2.1 r hr).2.2.2.2 i hi; omega
theorem tbl_sg (hW : gW B) (h : cT B f M) (hr : r < B 0) (hi : i < gsz B r) (h1 : 1 ≤ n) (hf : n ≤ f) (hn : n ≤ 24) : tbl B M (gsg B r i) n := by
  rcases (hW.2.2.2.1 r hr).2.2.2.2 i hi with g | g
  · exact (h.2 n h1 hf).1 _ g
  · exact h.1 _ n g.1 g.2 h1 hn
theorem tbl_rsc (hW : gW B) (h : cT B f M) (hr : r < B 0) (ho : gon B r = true) (hi : i + 1 < gsz B r) (h1 : 1 ≤ n) (hf : n ≤ f) (hn : n ≤ 24) : tbl B M (rsc B r i) n := by
  unfold rsc
  split
  · exact tbl_sg hW h hr (by omega) h1 hf hn
  · exact (h.2 n h1 hf).2 r (i + 1) hr ho (by omega)
theorem rsc_lt (hW : gW B) (hr : r < B 0) (hi : i + 1 < gsz B r) : rsc B r i < 96 := by
  have := hW.1
  have hz := hW.2.2.2.1 r hr
  unfold rsc
  split
  · have := sg_32 hW hr (show i + 1 < gsz B r by omega); omega
  · omega
theorem rwc_lt (hW : gW B) (hr : r < B 0) : rwc B r < 96 := by
  have := hW.1
  have hz := hW.2.2.2.1 r hr
  unfold rwc
  split
  · have := sg_32 hW hr (show 0 < gsz B r by omega); omega
  · omega
theorem x_sumCuts (hg : xgb B M 2) (hW : gW B) (hr : r < B 0) (ho : gon B r = true) (hi : i + 1 < gsz B r) (h1 : 1 ≤ n) (hn : n ≤ 24) (h : cT B (n - 1) M) (hQ : Q (tR B r i n : Int) M) : am_s am_P am_gg (d + 3) 149 [.inr (.inr 101), .inl (r : Int), .inl (i : Int), .inl (n : Int)] M Q := by
  refine (v_149_101 _ _ _ _ _ _).mpr ?_
  refine x_signAt hg hW hr (by omega) (x_restCode hg hW hr hi ?_)
  have hsg := sg_32 hW hr (show i < gsz B r by omega)
  have e : ∀ k, k + 1 < n → cv B (gsg B r i) (k + 1) * cv B (rsc B r i) (n - (k + 1)) = tT B (gsg B r i) (k + 1) * tR B r (i + 1) (n - (k + 1)) := fun k hk => by rw [cv_sg (by omega), cv_rsc hW hr hi (by omega)]
  have hs : tR B r i n = min (q_sm (fun k => tT B (gsg B r i) (k + 1) * tR B r (i + 1) (n - (k + 1))) (n - 1)) tG := by
    rw [tR_step (by omega), q_sm_cut (m := n - 1) (by omega) (fun k h3 h4 => by rw [tR_0 (i := i + 1) (by omega), Nat.mul_zero])]
  refine @p_if _ _ _ _ ?_ ?_
  · intro hl
    refine x_sumBelow (by omega) (rsc_lt hW hr hi) hn (Nat.le_refl _) (fun k h2 h3 => ⟨tbl_sg hW h hr (by omega) h2 (by omega) (by omega), tbl_rsc hW h hr ho hi (by omega) (by omega) (by omega)⟩) ?_
    rw [q_sm_cg (fun k hk => e k (by omega)), ← hs]; exact hQ
  · intro hl
    have e2 : i_min (n : Int) 2 = ((min n 2 : Nat) : Int) := by unfold i_min; split <;> omega
    rw [e2]
    refine x_sumBelow (by omega) (rsc_lt hW hr hi) hn (Nat.min_le_left _ _) (fun k h2 h3 => ⟨tbl_sg hW h hr (by omega) h2 (by omega) (by omega), tbl_rsc hW h hr ho hi (by omega) (by omega) (by omega)⟩) ?_
    rw [q_sm_cg (fun k hk => e k (by omega))]
    rw [hs, q_sm_cut (m := min n 2 - 1) (by omega) (fun k h3 h4 => by rw [tT_let hW (by omega) (by omega), if_neg (by omega), Nat.zero_mul])] at hQ
    exact hQ
/-- the sum over the rules of a symbol that stand below one -/
theorem x_sumRules (hg : xgb B M 2) (hW : gW B) {lim : Nat} (hs : s < 8) (h1 : 1 ≤ n) (hn : n ≤ 24) (hl : lim ≤ 16) (h : ∀ r, r < B 0 → r < lim → gon B r = true → gsy B r = s → tbl B M (rwc B r) n) (hQ : Q ((min (q_sm (tm B s n) (min (B 0) lim)) tG : Nat) : Int) M) : am_s am_P am_gg (d + 2) 151 [.inr (.inr 101), .inl (s : Int), .inl (lim : Int), .inl (n : Int)] M Q := by
  have hn16 := hW.1
  refine (v_151_101 _ _ _ _ _ _).mpr ?_
  have hB0 : M 2 1 = (B 0 : Int) := hg.1
  refine p_for (S := Nat) (X := fun k x => am_x am_P am_gg (d + 1) am_k151 2 Q 6 [some (.inr (.inr 101)), some (.inl ((s : Int))), some (.inl ((lim : Int))), some (.inl ((n : Int))), some (.inr (.inl (x : Int))), none, some (.inl (k))] [] M 0 0) (min (B 0) lim) (fun k x => x = min (q_sm (tm B s n) k) tG) ?_ ?_ 0 0 (by omega) rfl
  · intro x hx
    refine (h_151_6_101 _ _ _ _ _ _ _ _).mpr ?_
    rw [hB0]
    refine @p_if _ _ _ _ ?_ ?_
    · intro q
      rw [if_neg (by omega)]
      rw [hx]; exact hQ
    · intro q; rw [hx]; exact hQ
  · intro k x hk hx go
    refine (h_151_6_101 _ _ _ _ _ _ _ _).mpr ?_
    rw [hB0]
    rw [if_pos (by omega)]
    rw [if_pos (by omega)]
    rw [if_pos (by omega)]
    obtain ⟨c1, c2, c3, c4⟩ := hg.2.2.2.2.1 k (by omega)
    have c1 : M 3 (k : Int) = (gsy B k : Int) := c1
    have hxl : x ≤ tG := by rw [hx]; exact Nat.min_le_right _ _
    have e : q_sm (tm B s n) (k + 1) = q_sm (tm B s n) k + (if gon B k = true ∧ gsy B k = s then tR B k 0 n else 0) := rfl
    have skip : ¬ (gon B k = true ∧ gsy B k = s) → am_x am_P am_gg (d + 1) am_k151 2 Q 6 [some (.inr (.inr 101)), some (.inl ((s : Int))), some (.inl ((lim : Int))), some (.inl ((n : Int))), some (.inr (.inl (x : Int))), none, some (.inl (w32 ((k : Int) + 1)))] [] M 0 0 := by
      intro hno
      rw [w32_s (by omega)]
      exact go x (by rw [e, if_neg hno]; exact hx)
    rw [c1]
    refine @p_if _ _ _ _ ?_ ?_
    · intro hy
      have hy : gsy B k = s := by omega
      refine x_isOn hg hW.on (by omega) ?_ ?_
      · intro ho
        rw [if_neg (by omega)]
        refine x_rowCode hg hW (by omega) (x_of (rwc_lt hW (by omega)) hn (h k (by omega) (by omega) ho hy) ?_)
        rw [cv_rwc hW (by omega) h1]
        refine x_plus hxl tR_le ?_
        rw [w32_s (by omega)]
        refine go _ ?_
        rw [e, if_pos ⟨ho, hy⟩, hx]; exact q_cap _ _ _
      · intro ho
        rw [if_pos (by omega)]
        exact skip (fun q => by rw [ho] at q; cases q.1)
    · intro hy; exact skip (fun q => hy (by omega))
end S9r
