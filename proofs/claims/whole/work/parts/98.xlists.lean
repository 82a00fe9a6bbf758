/-! the class: lists of what a pair has, and of who has a pair -/
section S98
variable {B : Nat → Nat} {M M0 : (Nat → Int → Int)} {d : Nat} {Q : Int → (Nat → Int → Int) → Prop} {P : Nat → Prop}
theorem pOK_eq (h : pOK B M) (e : ∀ c, 81 ≤ c → c ≤ 92 → M0 c = M c) : pOK B M0 := by
  obtain ⟨a, b, c, f, D, φ, g, k⟩ := h
  exact ⟨pnI_eq a (fun i _ => by rw [e 81 (by omega) (by omega)]) (fun c x y => e c (by omega) (by omega)), fun f hf => by rw [e 85 (by omega) (by omega)]; exact b f hf, fun r hr w hw => by rw [e 88 (by omega) (by omega)]; exact c r hr w hw, ⟨fun n hn => by rw [e 89 (by omega) (by omega)]; exact f.1 n hn, fun n hn => by rw [e 90 (by omega) (by omega)]; exact f.2 n hn⟩, D, φ, ⟨by rw [e 81 (by omega) (by omega)]; exact g.1, fun i hi => by rw [e 86 (by omega) (by omega)]; exact g.2.1 i hi, g.2.2.1, g.2.2.2.1, g.2.2.2.2.1, fun f hf w hw => by rw [e 87 (by omega) (by omega)]; exact g.2.2.2.2.2 f hf w hw⟩, k⟩
theorem x_listOne_97 {k : Nat} (h : lst 97 P M) (hk : k < 1024) (h0 : ¬ P k) (hQ : ∀ M', wF1 97 M M' → lst 97 (fun m => P m ∨ m = k) M' → Q ((cnt (dc (fun m => P m ∨ m = k)) 1024 : Nat) : Int) M') : am_s am_P am_gg (d + 1) 99 [.inl (k : Int), .inr (.inr 98), .inl ((cnt (dc P) 1024 : Nat) : Int)] M Q := by
  obtain ⟨a, b, c⟩ := lst_add h hk h0
  refine (v_99_98 _ _ _ _ _).mpr ?_
  rw [if_pos (by omega)]
  rw [if_pos (by omega)]
  rw [w32_s (by omega), ← b]
  exact hQ _ (fun c hc => up_nc _ _ _ _ hc) c
theorem x_listOne_98 {k : Nat} (h : lst 98 P M) (hk : k < 1024) (h0 : ¬ P k) (hQ : ∀ M', wF1 98 M M' → lst 98 (fun m => P m ∨ m = k) M' → Q ((cnt (dc (fun m => P m ∨ m = k)) 1024 : Nat) : Int) M') : am_s am_P am_gg (d + 1) 99 [.inl (k : Int), .inr (.inr 99), .inl ((cnt (dc P) 1024 : Nat) : Int)] M Q := by
  obtain ⟨a, b, c⟩ := lst_add h hk h0
  refine (v_99_99 _ _ _ _ _).mpr ?_
  rw [if_pos (by omega)]
  rw [if_pos (by omega)]
  rw [w32_s (by omega), ← b]
  exact hQ _ (fun c hc => up_nc _ _ _ _ hc) c
theorem cnt_cg {P P' : Nat → Prop} {n : Nat} (h : ∀ k, k < n → (P k ↔ P' k)) : cnt (dc P) n = cnt (dc P') n := cnt_congr (fun k hk => dc_congr (h k hk))
/-- the bits of one word are listed -/
theorem lh_bits {n w : Nat} (hn : n < gN B) (hw : w < 16) {x y z : Int} (hk : ∀ M', wF1 97 M0 M' → lst 97 (fun m => aH B n m ∧ m < 64 * (w + 1)) M' → ∀ e : Int, am_x am_P am_gg (d + 2) am_k98 1 Q 25 [some (.inr (.inr 82)), some (.inl (x)), some (.inr (.inr 98)), some (.inl (y)), some (.inl (z)), some (.inl (((cnt (dc (fun m => aH B n m ∧ m < 64 * (w + 1))) 1024 : Nat) : Int))), some (.inl (((w + 1 : Nat) : Int))), some (.inr (.inl e)), none, some (.inl (0))] [] M' 0 0) : ∀ (m : Nat) (v : Int) (P : Nat → Prop) (M : (Nat → Int → Int)), m = cnt (dc P) 64 → ld v P → (∀ k, k < 64 → P k → aH B n (64 * w + k)) → wF1 97 M0 M → lst 97 (fun m => aH B n m ∧ (m < 64 * w ∨ m / 64 = w ∧ ¬ P (m % 64))) M → am_x am_P am_gg (d + 2) am_k98 1 Q 63 [some (.inr (.inr 82)), some (.inl (x)), some (.inr (.inr 98)), some (.inl (y)), some (.inl (z)), some (.inl (((cnt (dc (fun m => aH B n m ∧ (m < 64 * w ∨ m / 64 = w ∧ ¬ P (m % 64)))) 1024 : Nat) : Int))), some (.inl ((w : Int))), some (.inr (.inl v)), none, some (.inl ((m : Int)))] [] M 0 0 := by
  have n2 := gN_le (B := B)
  intro m
  induction m with
  | zero =>
    intro v P M hm hv hP f w1
    have e : ∀ k, (aH B n k ∧ (k < 64 * w ∨ k / 64 = w ∧ ¬ P (k % 64))) ↔ (aH B n k ∧ k < 64 * (w + 1)) := fun k => and_congr_right (fun _ => ⟨fun z => by omega, fun z => by
      by_cases q : k < 64 * w
      · exact Or.inl q
      · exact Or.inr ⟨by omega, dc0 hm.symm (by omega)⟩⟩)
    refine (h_98_63_82_98 _ _ _ _ _ _ _ _ _ _).mpr ?_
    rw [if_neg (by omega)]
    rw [w32_s (i := w) (by omega), cnt_cg (fun k _ => e k)]
    exact hk M f (lst_cong w1 (fun k _ => e k)) v
  | succ m ih =>
    intro v P M hm hv hP f w1
    obtain ⟨t, ht, t1, t0, lv, lc, ln⟩ := ld_low hv (by omega)
    have hTt := hP t ht t1
    have cl64 := cnt_le (p := dc P) 64
    have hlt := aH_lt hTt
    obtain ⟨a1, a2, a3⟩ := lst_add w1 (k := 64 * w + t) (by omega) (fun z => by
      rcases z.2 with z | z
      · omega
      · exact z.2 (by rw [show (64 * w + t) % 64 = t by omega]; exact t1))
    refine (h_98_63_82_98 _ _ _ _ _ _ _ _ _ _).mpr ?_
    rw [if_pos (by omega)]
    rw [if_pos (by omega)]
    refine ln ?_
    rw [if_pos (by omega)]
    rw [show (6 : Int) = ((6 : Nat) : Int) from rfl, shl_mul (a := w) (n := 6) (by omega) (by omega), show (2 : Nat) ^ 6 = 64 from rfl, show w32 (((w * 64 : Nat) : Int) + (t : Int)) = ((64 * w + t : Nat) : Int) by rw [w32_i (by omega) (by omega)]; omega]
    rw [show w32 (((m + 1 : Nat) : Int) + -1) = (m : Int) by rw [w32_i (by omega) (by omega)]; omega, w32_s (by omega), ← a2]
    have e : ∀ k, ((aH B n k ∧ (k < 64 * w ∨ k / 64 = w ∧ ¬ P (k % 64))) ∨ k = 64 * w + t) ↔ (aH B n k ∧ (k < 64 * w ∨ k / 64 = w ∧ ¬ (P (k % 64) ∧ k % 64 ≠ t))) := fun k => by
      constructor
      · rintro (z | z)
        · exact ⟨z.1, z.2.imp id (fun y => ⟨y.1, fun x => y.2 x.1⟩)⟩
        · rw [z]; exact ⟨hTt, Or.inr ⟨by omega, fun x => x.2 (by omega)⟩⟩
      · intro z
        by_cases q : k = 64 * w + t
        · exact Or.inr q
        · exact Or.inl ⟨z.1, z.2.imp id (fun y => ⟨y.1, fun x => y.2 ⟨x, by omega⟩⟩)⟩
    rw [cnt_cg (fun k _ => e k)]
    exact ih _ (fun k => P k ∧ k ≠ t) _ (by omega) lv (fun k hk2 z => hP k hk2 z.1) (fun k hk2 => by rw [up_nc _ _ _ _ hk2]; exact f k hk2) (lst_cong a3 (fun k _ => e k))
theorem x_listHad (h : pOK B M) {n : Nat} (hn : n < gN B) (hQ : ∀ M', wF1 97 M M' → lst 97 (nH B n) M' → Q ((cnt (dc (nH B n)) 1024 : Nat) : Int) M') : am_s am_P am_gg (d + 3) 98 [.inr (.inr 82), .inl (n : Int), .inr (.inr 98)] M Q := by
  have n2 := gN_le (B := B)
  obtain ⟨c1, c2, c3⟩ := cdP hn
  refine (v_98_82_98 _ _ _ _).mpr ?_
  refine x_83 h hn (x_82 h hn ?_)
  have key := p_for (S := (Nat → Int → Int)) (X := fun j M1 => ∃ t : Nat, j = (t : Int) ∧ am_x am_P am_gg (d + 2) am_k98 1 Q 25 [some (.inr (.inr 82)), some (.inl ((n : Int))), some (.inr (.inr 98)), some (.inl (w32 (((cd (gp B) n / 16 : Nat) : Int) * 16))), some (.inl (w32 (((cd (gp B) n % 16 : Nat) : Int) * 16))), some (.inl (((cnt (dc (fun m => aH B n m ∧ m < 64 * t)) 1024 : Nat) : Int))), some (.inl (j)), none, none, none] [] M1 0 0) ((gN B + 63) / 64) (fun w M1 => wF1 97 M M1 ∧ lst 97 (fun m => aH B n m ∧ m < 64 * w) M1) ?_ ?_ 0 M (by omega) ⟨fun _ _ => rfl, lst_cong lst_0 (fun k _ => ⟨fun z => z.elim, fun z => absurd z.2 (by omega)⟩)⟩
  · obtain ⟨t, ht, kx⟩ := key
    have ht : t = 0 := by omega
    subst ht
    rw [show cnt (dc (fun m => aH B n m ∧ m < 64 * 0)) 1024 = 0 from cnt_skip (t := 0) (by omega) (fun c _ _ => dc_f (fun z => absurd z.2 (by omega)))] at kx
    exact kx
  · intro M1 ⟨f1, l1⟩
    have h1 := pOK_eq h (M0 := M1) (fun c a b => f1 c (by omega))
    refine ⟨_, rfl, ?_⟩
    refine (h_98_25_82_98 _ _ _ _ _ _ _ _).mpr ?_
    rw [h1.1.2]
    rw [if_neg (by omega)]
    have e : ∀ m, (aH B n m ∧ m < 64 * ((gN B + 63) / 64)) ↔ aH B n m := fun m => ⟨fun z => z.1, fun z => ⟨z, by have := aH_lt z; omega⟩⟩
    rw [cnt_cg (fun k _ => e k)]
    have l2 := lst_cong l1 (fun k _ => e k)
    refine x_isAround h1 hn hn (fun z => ?_) (fun z => ?_)
    · rw [if_neg (by decide)]
      have e2 : ∀ k, aH B n k ↔ nH B n k := fun k => ⟨Or.inr, fun y => y.elim (fun y => by rw [y]; exact z) id⟩
      rw [cnt_cg (fun k _ => e2 k)]
      exact hQ M1 f1 (lst_cong l2 (fun k _ => e2 k))
    · rw [if_pos rfl]
      refine x_listOne_97 l2 (by omega) z (fun M2 f2 l3 => ?_)
      have e2 : ∀ k, (aH B n k ∨ k = n) ↔ nH B n k := fun k => or_comm
      rw [cnt_cg (fun k _ => e2 k)]
      exact hQ M2 (fun c hc => by rw [f2 c hc]; exact f1 c hc) (lst_cong l3 (fun k _ => e2 k))
  · intro w M1 hw ⟨f1, l1⟩ k
    have h1 := pOK_eq h (M0 := M1) (fun c a b => f1 c (by omega))
    have wrd := word_aH h1 hn (w := w) (by omega)
    refine ⟨w, rfl, ?_⟩
    refine (h_98_25_82_98 _ _ _ _ _ _ _ _).mpr ?_
    rw [h1.1.2, w32_16 (by omega) (by omega), w32_16 (by omega) (by omega)]
    rw [if_pos (by omega)]
    rw [if_pos (by omega)]
    rw [if_pos (by omega)]
    refine x_lbitsP wrd ?_
    have e : ∀ m, (aH B n m ∧ m < 64 * w) ↔ (aH B n m ∧ (m < 64 * w ∨ m / 64 = w ∧ ¬ aH B n (64 * w + m % 64))) := fun m => and_congr_right (fun z => ⟨Or.inl, fun y => y.elim id (fun y => absurd (show aH B n (64 * w + m % 64) by rw [show 64 * w + m % 64 = m by omega]; exact z) y.2)⟩)
    rw [cnt_cg (fun k _ => e k)]
    refine lh_bits (M0 := M) hn (by omega) (fun M5 f5 l5 e5 => ?_) _ _ (fun k => aH B n (64 * w + k)) _ rfl wrd (fun k _ z => z) f1 (lst_cong l1 (fun k _ => e k))
    obtain ⟨t, ht, kx⟩ := k M5 ⟨f5, l5⟩
    have ht : t = w + 1 := by omega
    subst ht
    refine am_x_le [some (.inr (.inr 82)), some (.inl ((n : Int))), some (.inr (.inr 98)), some (.inl (w32 (((cd (gp B) n / 16 : Nat) : Int) * 16))), some (.inl (w32 (((cd (gp B) n % 16 : Nat) : Int) * 16))), some (.inl (((cnt (dc (fun m => aH B n m ∧ m < 64 * (w + 1))) 1024 : Nat) : Int))), some (.inl (((w + 1 : Nat) : Int))), none, none, none] (am_lb_le _ _ ⟨rfl, rfl, rfl, rfl, rfl, rfl, rfl, trivial⟩) ?_
    exact kx
end S98
