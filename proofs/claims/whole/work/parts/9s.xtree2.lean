/-! the class makes ready its counts -/
def cLet (M : (Nat → Int → Int)) : Prop := ∀ l n : Nat, 16 ≤ l → l < 32 → n ≤ 24 → M 101 ((25 * l + n : Nat) : Int) = if n = 1 then 1 else 0
def f101 (M M' : (Nat → Int → Int)) : Prop := ∀ c, c ≠ 101 → M' c = M c
section S9s
variable {B : Nat → Nat} {M : (Nat → Int → Int)} {d : Nat} {Q : Int → (Nat → Int → Int) → Prop} {r i n s k c f : Nat}
theorem cL_of (hW : gW B) (h : cLet M) : cL B M := by
  intro l n h1 h2 h3 h4
  unfold tbl
  rw [h l n h1 h2 h4, cv_sg h2, tT_let hW (by omega) h4]
  split <;> rfl
theorem tbl_up {c' n' : Nat} {v : Int} (h : tbl B M c n) (hn : n ≤ 24) (hn' : n' ≤ 24) (hne : c ≠ c' ∨ n ≠ n') : tbl B (am_up M 101 ((25 * c' + n' : Nat) : Int) v) c n := by
  unfold tbl at h ⊢
  rw [up_ci, if_neg (by omega)]; exact h
theorem tbl_new {v : Int} (h : v = (cv B c n : Int)) : tbl B (am_up M 101 ((25 * c + n : Nat) : Int) v) c n := by
  unfold tbl
  rw [up_eq]; exact h
theorem cT_up {v : Int} (h : cT B f M) (hf : f < n) (hn : n ≤ 24) (hc : c < 16 ∨ 32 ≤ c) : cT B f (am_up M 101 ((25 * c + n : Nat) : Int) v) := by
  refine ⟨fun l m h1 h2 h3 h4 => tbl_up (h.1 l m h1 h2 h3 h4) h4 hn (by omega), fun m h1 h2 => ⟨fun s hs => tbl_up ((h.2 m h1 h2).1 s hs) (by omega) hn (by omega), fun r i a b c => tbl_up ((h.2 m h1 h2).2 r i a b c) (by omega) hn (by omega)⟩⟩
theorem cLet_up {v : Int} (h : cLet M) (hn : n ≤ 24) (hc : c < 16 ∨ 32 ≤ c) : cLet (am_up M 101 ((25 * c + n : Nat) : Int) v) := by
  intro l m h1 h2 h3
  rw [up_ci, if_neg (by omega)]; exact h l m h1 h2 h3
theorem xgb_f (h : xgb B M 2) {M' : (Nat → Int → Int)} (hF : f101 M M') : xgb B M' 2 := xgb_eq h (fun c h1 h2 => hF c (by omega))
/-- rows' ends at a length, of rules below one -/
def fI (B : Nat → Nat) (n k : Nat) (M0 M : (Nat → Int → Int)) : Prop := f101 M0 M ∧ cLet M ∧ cT B (n - 1) M ∧ ∀ r i, r < k → gon B r = true → i + 1 < gsz B r → tbl B M (32 + 4 * r + i) n
theorem x_fillRests (hW : gW B) (h1 : 1 ≤ n) (hn : n ≤ 24) (hr : r < B 0) (ho : gon B r = true) {M0 : (Nat → Int → Int)} (hg : xgb B M0 2) : ∀ j i (M : (Nat → Int → Int)), i + j + 1 = gsz B r → fI B n r M0 M → (∀ i', i' < i → tbl B M (32 + 4 * r + i') n) → (∀ M', fI B n (r + 1) M0 M' → am_x am_P am_gg (d + 3) am_k148 0 Q 2 [some (.inr (.inr 101)), some (.inl ((n : Int))), some (.inl (((r + 1 : Nat) : Int))), none, none] [] M' 0 0) → am_x am_P am_gg (d + 3) am_k148 0 Q 26 [some (.inr (.inr 101)), some (.inl ((n : Int))), some (.inl ((r : Int))), some (.inl ((i : Int))), none] [] M 0 0 := by
  have hn16 := hW.1
  have hz := hW.2.2.2.1 r hr
  intro j
  induction j with
  | zero =>
    intro i M hi hI hd hQ
    refine (h_148_26_101 _ _ _ _ _ _).mpr ?_
    have hg' := xgb_f hg hI.1
    obtain ⟨c1, c2, c3, c4⟩ := hg'.2.2.2.2.1 r hr
    have c2 : M 4 (r : Int) = (gsz B r : Int) := c2
    rw [if_pos (by omega)]
    rw [c2, w32_i (by omega) (by omega)]
    rw [if_neg (by omega)]
    rw [w32_s (by omega)]
    refine am_x_le [some (.inr (.inr 101)), some (.inl ((n : Int))), some (.inl (((r + 1 : Nat) : Int))), none, none] (am_lb_le _ _ ⟨rfl, rfl, rfl, trivial⟩) ?_
    refine hQ M ⟨hI.1, hI.2.1, hI.2.2.1, fun r' i' a b c => ?_⟩
    by_cases e : r' = r
    · subst e; exact hd i' (by omega)
    · exact hI.2.2.2 r' i' (by omega) b c
  | succ j ih =>
    intro i M hi hI hd hQ
    refine (h_148_26_101 _ _ _ _ _ _).mpr ?_
    have hg' := xgb_f hg hI.1
    obtain ⟨c1, c2, c3, c4⟩ := hg'.2.2.2.2.1 r hr
    have c2 : M 4 (r : Int) = (gsz B r : Int) := c2
    rw [if_pos (by omega)]
    rw [c2, w32_i (x := (gsz B r : Int) - 1) (by omega) (by omega)]
    rw [if_pos (by omega)]
    refine x_sumCuts hg' hW hr ho (by omega) h1 hn hI.2.2.1 ?_
    rw [show w32 ((r : Int) * 4) = ((4 * r : Nat) : Int) by rw [w32_i (by omega) (by omega)]; omega, show w32 (32 + ((4 * r : Nat) : Int)) = ((32 + 4 * r : Nat) : Int) by rw [w32_i (by omega) (by omega)]; omega, show w32 (((32 + 4 * r : Nat) : Int) + (i : Int)) = ((32 + 4 * r + i : Nat) : Int) by rw [w32_i (by omega) (by omega)]; omega, show w32 (((32 + 4 * r + i : Nat) : Int) * 25) = ((25 * (32 + 4 * r + i) : Nat) : Int) by rw [w32_i (by omega) (by omega)]; omega, show w32 (((25 * (32 + 4 * r + i) : Nat) : Int) + (n : Int)) = ((25 * (32 + 4 * r + i) + n : Nat) : Int) by rw [w32_i (by omega) (by omega)]; omega, w32_s (by omega)]
    rw [if_pos (by omega)]
    refine am_x_le [some (.inr (.inr 101)), some (.inl ((n : Int))), some (.inl ((r : Int))), some (.inl (((i + 1 : Nat) : Int))), none] (am_lb_le _ _ ⟨rfl, rfl, rfl, rfl, trivial⟩) ?_
    refine ih (i + 1) _ (by omega) ⟨fun c hc => by rw [up_nc _ _ _ _ hc]; exact hI.1 c hc, cLet_up hI.2.1 hn (by omega), cT_up hI.2.2.1 (by omega) hn (by omega), fun r' i' a b c => ?_⟩ (fun i' hi' => ?_) hQ
    · have := hW.2.2.2.1 r' (by omega)
      exact tbl_up (hI.2.2.2 r' i' a b c) hn hn (by omega)
    · by_cases e : i' = i
      · subst e; exact tbl_new (by rw [cv_rest (by omega)])
      · exact tbl_up (hd i' (by omega)) hn hn (by omega)
theorem x_fillLength (hW : gW B) (h1 : 1 ≤ n) (hn : n ≤ 24) (hg : xgb B M 2) (hL : cLet M) (hT : cT B (n - 1) M) (hQ : ∀ M', f101 M M' → cLet M' → cT B n M' → Q 0 M') : am_s am_P am_gg (d + 4) 148 [.inr (.inr 101), .inl (n : Int)] M Q := by
  have hn16 := hW.1
  refine (v_148_101 _ _ _ _).mpr ?_
  refine p_for (S := (Nat → Int → Int)) (X := fun k M => am_x am_P am_gg (d + 3) am_k148 0 Q 2 [some (.inr (.inr 101)), some (.inl ((n : Int))), some (.inl (k)), none, none] [] M 0 0) (B 0) (fun k M' => fI B n k M M') ?_ ?_ 0 M (by omega) ⟨fun _ _ => rfl, hL, hT, fun r i h => absurd h (Nat.not_lt_zero r)⟩
  · intro M1 hI
    refine (h_148_2_101 _ _ _ _ _).mpr ?_
    have hg' := xgb_f hg hI.1
    have hB0 : M1 2 1 = (B 0 : Int) := hg'.1
    rw [hB0]
    rw [if_neg (by omega)]
    obtain ⟨o, o1, o2, o3, o4⟩ := hg.2.2.2.2.2
    have o1 : ∀ i : Nat, i < 8 → M 7 (i : Int) = (o i : Int) ∧ o i < 8 := o1
    refine p_for (S := (Nat → Int → Int)) (X := fun k M => am_x am_P am_gg (d + 3) am_k148 0 Q 84 [some (.inr (.inr 101)), some (.inl ((n : Int))), some (.inl (k)), none, none] [] M 0 0) 8 (fun k M' => fI B n (B 0) M M' ∧ ∀ j, j < k → tbl B M' (o j) n) ?_ ?_ 0 M1 (by omega) ⟨hI, fun j h => absurd h (Nat.not_lt_zero j)⟩
    · rintro M2 ⟨hI2, hj⟩
      refine (h_148_84_101 _ _ _ _ _).mpr ?_
      rw [if_neg (by omega)]
      refine hQ M2 hI2.1 hI2.2.1 ⟨hI2.2.2.1.1, fun m h2 h3 => ?_⟩
      by_cases e : m = n
      · subst e
        refine ⟨fun s hs => ?_, fun r i a b c => hI2.2.2.2 r i a b c⟩
        obtain ⟨j, hj8, rfl⟩ := o2 s hs
        exact hj j hj8
      · exact hI2.2.2.1.2 m h2 (by omega)
    · rintro k M2 hk ⟨hI2, hj⟩ go
      refine (h_148_84_101 _ _ _ _ _).mpr ?_
      have hg2 := xgb_f hg hI2.1
      have e7 : M2 7 = M 7 := hI2.1 7 (by decide)
      have ho := o1 k hk
      rw [if_pos (by omega)]
      rw [if_pos (by omega)]
      rw [e7, ho.1]
      refine x_sumRules (lim := 16) hg2 hW ho.2 h1 hn (by omega) (fun r hr _ hon hy => ?_) ?_
      · unfold rwc
        by_cases hz : gsz B r = 1
        · rw [if_pos hz]
          rcases (hW.2.2.2.1 r hr).2.2.2.2 0 (by omega) with g | g
          · obtain ⟨j, hj8, hjo⟩ := o2 _ g
            rw [← hjo]
            exact hj j (o4 r hr hz g j k hj8 hk hjo hy.symm)
          · exact hI2.2.2.1.1 _ n g.1 g.2 h1 hn
        · rw [if_neg hz]
          have := (hW.2.2.2.1 r hr).2.1
          exact hI2.2.2.2 r 0 hr hon (by omega)
      · rw [show min (B 0) 16 = B 0 by omega, show w32 ((o k : Int) * 25) = ((25 * o k : Nat) : Int) by rw [w32_i (by omega) (by omega)]; omega, show w32 (((25 * o k : Nat) : Int) + (n : Int)) = ((25 * o k + n : Nat) : Int) by rw [w32_i (by omega) (by omega)]; omega, w32_s (by omega)]
        rw [if_pos (by omega)]
        refine am_x_le [some (.inr (.inr 101)), some (.inl ((n : Int))), some (.inl (((k + 1 : Nat) : Int))), none, none] (am_lb_le _ _ ⟨rfl, rfl, rfl, trivial⟩) ?_
        refine go _ ⟨⟨fun c hc => by rw [up_nc _ _ _ _ hc]; exact hI2.1 c hc, cLet_up hI2.2.1 hn (by omega), cT_up hI2.2.2.1 (by omega) hn (by omega), fun r i a b c => tbl_up (hI2.2.2.2 r i a b c) hn hn (by omega)⟩, fun j hjk => ?_⟩
        by_cases e : j = k
        · subst e; exact tbl_new (by rw [cv_sg (by omega), tT_sym hW ho.2 hn]; rfl)
        · exact tbl_up (hj j (by omega)) hn hn (Or.inl (fun q => e (o3 j k (by omega) hk q)))
  · intro k M1 hk hI go
    refine (h_148_2_101 _ _ _ _ _).mpr ?_
    have hg' := xgb_f hg hI.1
    have hB0 : M1 2 1 = (B 0 : Int) := hg'.1
    rw [hB0]
    rw [if_pos (by omega)]
    refine x_isOn hg' hW.on (by omega) ?_ ?_
    · intro ho
      rw [if_neg (by omega)]
      have hz := hW.2.2.2.1 k hk
      exact x_fillRests hW h1 hn hk ho hg (gsz B k - 1) 0 M1 (by omega) hI (fun i' h => absurd h (Nat.not_lt_zero i')) go
    · intro ho
      rw [if_pos (by omega)]
      rw [w32_s (by omega)]
      refine go M1 ⟨hI.1, hI.2.1, hI.2.2.1, fun r i a b c => ?_⟩
      by_cases e : r = k
      · subst e; rw [ho] at b; cases b
      · exact hI.2.2.2 r i (by omega) b c
end S9s
