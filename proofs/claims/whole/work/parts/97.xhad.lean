/-! the class: what a pair's sentence has -/
/-- the sentence of pair n has pair m (numbers), the pair itself left aside -/
def aH (B : Nat → Nat) (n m : Nat) : Prop := frmN B (cd (gp B) n / 16) m ∨ whN B (cd (gp B) n % 16) ∧ rowN B (cd (gp B) n % 16) m
def nH (B : Nat → Nat) (n m : Nat) : Prop := m = n ∨ aH B n m
/-- a list without repetition -/
def lst (c : Nat) (P : Nat → Prop) (M : (Nat → Int → Int)) : Prop := ∃ ν : Nat → Nat, (∀ i, i < cnt (dc P) 1024 → M c (i : Int) = (ν i : Int) ∧ ν i < 1024 ∧ P (ν i)) ∧ (∀ k, k < 1024 → P k → ∃ i, i < cnt (dc P) 1024 ∧ ν i = k) ∧ ∀ i j, i < j → j < cnt (dc P) 1024 → ν i ≠ ν j
theorem lst_cong {c : Nat} {P P' : Nat → Prop} {M : (Nat → Int → Int)} (h : lst c P M) (e : ∀ k, k < 1024 → (P k ↔ P' k)) : lst c P' M := by
  have ec : cnt (dc P') 1024 = cnt (dc P) 1024 := cnt_congr (fun k hk => dc_congr (e k hk).symm)
  obtain ⟨ν, a, b, q⟩ := h
  refine ⟨ν, ?_, ?_, ?_⟩ <;> rw [ec]
  · exact fun i hi => ⟨(a i hi).1, (a i hi).2.1, (e _ (a i hi).2.1).mp (a i hi).2.2⟩
  · exact fun k hk hp => b k hk ((e k hk).mpr hp)
  · exact q
theorem lst_0 {c : Nat} {M : (Nat → Int → Int)} : lst c (fun _ => False) M := by
  have e : cnt (dc (fun _ => False)) 1024 = 0 := cnt_skip (p := dc (fun _ => False)) (t := 0) (t' := 1024) (by omega) (fun c _ _ => dc_f id)
  refine ⟨fun _ => 0, ?_, fun k _ h => h.elim, ?_⟩ <;> rw [e]
  · exact fun i hi => absurd hi (Nat.not_lt_zero i)
  · exact fun i j _ hj => absurd hj (Nat.not_lt_zero j)
theorem cnt_ins {P : Nat → Prop} {k N : Nat} (hk : k < N) (h0 : ¬ P k) : cnt (dc (fun m => P m ∨ m = k)) N = cnt (dc P) N + 1 := by
  have h := cnt_out (κ := dc (fun m => P m ∨ m = k)) (j := k) (dc_iff.mpr (Or.inr rfl)) N
  rw [if_pos hk] at h
  rw [← h]
  congr 1
  refine cnt_congr (fun c _ => ?_)
  by_cases e : c = k
  · subst e; rw [if_pos rfl]; exact (dc_f h0).symm
  · rw [if_neg e]; exact dc_congr ⟨fun z => z.elim id (fun z => absurd z e), Or.inl⟩
theorem lst_add {c k : Nat} {P : Nat → Prop} {M : (Nat → Int → Int)} (h : lst c P M) (hk : k < 1024) (h0 : ¬ P k) : cnt (dc P) 1024 < 1024 ∧ cnt (dc (fun m => P m ∨ m = k)) 1024 = cnt (dc P) 1024 + 1 ∧ lst c (fun m => P m ∨ m = k) (am_up M c ((cnt (dc P) 1024 : Nat) : Int) (k : Int)) := by
  have e := cnt_ins hk h0
  have le := cnt_le (p := dc (fun m => P m ∨ m = k)) 1024
  refine ⟨by omega, e, ?_⟩
  obtain ⟨ν, a, b, q⟩ := h
  refine ⟨fun i => if i = cnt (dc P) 1024 then k else ν i, ?_, ?_, ?_⟩ <;> rw [e]
  · intro i hi
    rw [up_ci]
    by_cases e2 : i = cnt (dc P) 1024
    · rw [if_pos (by omega)]
      dsimp only
      rw [if_pos e2]
      exact ⟨rfl, hk, Or.inr rfl⟩
    · rw [if_neg (by omega)]
      dsimp only
      rw [if_neg e2]
      obtain ⟨x, y, z⟩ := a i (by omega)
      exact ⟨x, y, Or.inl z⟩
  · intro m hm z
    rcases z with z | z
    · obtain ⟨i, hi, e2⟩ := b m hm z
      exact ⟨i, by omega, by dsimp only; rw [if_neg (by omega)]; exact e2⟩
    · exact ⟨cnt (dc P) 1024, by omega, by dsimp only; rw [if_pos rfl]; exact z.symm⟩
  · intro i j hij hj
    dsimp only
    rw [if_neg (show i ≠ cnt (dc P) 1024 by omega)]
    by_cases e2 : j = cnt (dc P) 1024
    · rw [if_pos e2]
      intro z
      exact h0 (z ▸ (a i (by omega)).2.2)
    · rw [if_neg e2]; exact q i j hij (by omega)
section S97
variable {B : Nat → Nat} {M M0 : (Nat → Int → Int)} {d : Nat} {Q : Int → (Nat → Int → Int) → Prop}
theorem cdP {n : Nat} (hn : n < gN B) : cd (gp B) n < 1024 ∧ isP B (gK B) (gX B) (cd (gp B) n) ∧ cnt (gp B) (cd (gp B) n) = n := by
  obtain ⟨a, b, c⟩ := cd_ok (p := gp B) hn
  exact ⟨a, gp_iff.mp b, c⟩
theorem cd_inj {n m : Nat} (hn : n < gN B) (hm : m < gN B) (h : cd (gp B) n = cd (gp B) m) : n = m := by
  rw [← (cdP hn).2.2, h, (cdP hm).2.2]
theorem aH_lt {n m : Nat} (h : aH B n m) : m < gN B := by
  rcases h with h | h
  · exact h.1
  · exact h.2.1
theorem nH_lt {n m : Nat} (hn : n < gN B) (h : nH B n m) : m < gN B := by
  rcases h with h | h
  · omega
  · exact aH_lt h
/-- has, by codes and by numbers -/
theorem nH_iff {n m : Nat} (hn : n < gN B) (hm : m < gN B) : nH B n m ↔ gH B n (cd (gp B) m) := by
  obtain ⟨c1, c2, c3⟩ := cdP hn
  unfold nH gH hP
  refine or_congr ⟨fun e => by rw [e], fun e => cd_inj hm hn e⟩ (or_congr ?_ ?_)
  · unfold frmN
    rw [show cd (gp B) n / 16 / 4 = cd (gp B) n / 64 by omega]
    exact ⟨fun z => z.2, fun z => ⟨hm, z⟩⟩
  · exact ⟨fun z => z.2.2, fun z => ⟨⟨c2.2.2.2.2.2.1, c2.2.2.2.2.2.2.2.1, c2.2.2.2.2.2.2.2.2.1⟩, hm, z⟩⟩
theorem gH_gp (hW : gW B) {n c : Nat} (hn : n < gN B) (h : gH B n c) : gp B c = true := gp_iff.mpr (hP_pair hW (cdP hn).2.1 h)
theorem x_82 (h : pOK B M) {n : Nat} (hn : n < gN B) (hQ : Q ((cd (gp B) n % 16 : Nat) : Int) M) : am_s am_P am_gg (d + 1) 82 [.inr (.inr 82), .inl (n : Int)] M Q := by
  have n2 := gN_le (B := B)
  obtain ⟨c1, c2, c3⟩ := cdP hn
  have e := (h.1.1.2.2 _ c1 (gp_iff.mpr c2)).1
  rw [c3] at e
  refine (v_82_82 _ _ _ _).mpr ?_
  rw [e]
  rw [if_pos (by omega)]
  rw [show (15 : Int) = ((2 ^ 4 - 1 : Nat) : Int) from rfl, and_mod (by omega) (by omega)]
  exact hQ
theorem x_83 (h : pOK B M) {n : Nat} (hn : n < gN B) (hQ : Q ((cd (gp B) n / 16 : Nat) : Int) M) : am_s am_P am_gg (d + 1) 83 [.inr (.inr 82), .inl (n : Int)] M Q := by
  have n2 := gN_le (B := B)
  obtain ⟨c1, c2, c3⟩ := cdP hn
  have e := (h.1.1.2.2 _ c1 (gp_iff.mpr c2)).1
  rw [c3] at e
  refine (v_83_82 _ _ _ _).mpr ?_
  rw [e]
  rw [if_pos (by omega)]
  rw [show (4 : Int) = ((4 : Nat) : Int) from rfl, shr_div (by omega) (by omega)]
  exact hQ
theorem hasF_cd {n : Nat} (hn : n < gN B) : hasF B (cd (gp B) n / 16) := by
  obtain ⟨c1, c2, c3⟩ := cdP hn
  exact ⟨cd (gp B) n % 16, by omega, by rw [show 16 * (cd (gp B) n / 16) + cd (gp B) n % 16 = cd (gp B) n by omega]; exact c2⟩
theorem x_isAround (h : pOK B M) {n m : Nat} (hn : n < gN B) (hm : m < gN B) (h1 : aH B n m → Q 1 M) (h0 : ¬ aH B n m → Q 0 M) : am_s am_P am_gg (d + 2) 95 [.inr (.inr 82), .inl (n : Int), .inl (m : Int)] M Q := by
  have n2 := gN_le (B := B)
  obtain ⟨c1, c2, c3⟩ := cdP hn
  have hl := h.2.2.2.1.1 m hm
  have hb := h.2.2.2.1.2 m hm
  refine (v_95_82 _ _ _ _ _).mpr ?_
  rw [if_pos (by omega)]
  refine x_83 h hn ?_
  refine ld_bit hl (by omega) (fun a => ?_) (fun a => h1 (Or.inl a.2.2))
  rw [if_pos (by omega)]
  refine x_82 h hn ?_
  obtain ⟨q1, q0⟩ := bs_bit (k := cd (gp B) n % 16) hb (by omega)
  by_cases z : whN B (cd (gp B) n % 16) ∧ rowN B (cd (gp B) n % 16) m
  · rw [q1 z, if_neg (by decide)]; exact h1 (Or.inr z)
  · rw [q0 z, if_pos rfl]
    exact h0 (fun y => y.elim (fun y => a ⟨by omega, hasF_cd hn, y⟩) z)
theorem x_includes (h : pOK B M) {n m : Nat} (hn : n < gN B) (hm : m < gN B) (h1 : nH B n m → Q 1 M) (h0 : ¬ nH B n m → Q 0 M) : am_s am_P am_gg (d + 3) 96 [.inr (.inr 82), .inl (n : Int), .inl (m : Int)] M Q := by
  refine (v_96_82 _ _ _ _ _).mpr ?_
  refine @p_if _ _ _ _ ?_ ?_
  · intro e; exact h1 (Or.inl (by omega))
  · intro e
    refine x_isAround h hn hm (fun z => ?_) (fun z => ?_)
    · rw [if_neg (by decide)]; exact h1 (Or.inr z)
    · rw [if_pos rfl]; exact h0 (fun y => y.elim (fun y => by omega) z)
/-- one word of what the sentence of a pair has -/
theorem word_aH (h : pOK B M) {n w : Nat} (hn : n < gN B) (hw : w < 16) : ld (l_or (M 87 ((16 * (cd (gp B) n / 16) + w : Nat) : Int)) (M 88 ((16 * (cd (gp B) n % 16) + w : Nat) : Int))) (fun k => aH B n (64 * w + k)) := by
  obtain ⟨c1, c2, c3⟩ := cdP hn
  obtain ⟨D, φ, hf, hD⟩ := h.2.2.2.2
  refine ld_cong (ld_or (hf.2.2.2.2.2 (cd (gp B) n / 16) (by omega) w hw) (h.2.2.1 (cd (gp B) n % 16) (by omega) w hw)) (fun k hk => ?_)
  exact or_congr ⟨fun z => z.2, fun z => ⟨hD _ (by omega) (hasF_cd hn), z⟩⟩ Iff.rfl
theorem w32_16 {q w : Nat} (hq : q < 64) (hw : w < 16) : w32 (w32 ((q : Int) * 16) + (w : Int)) = ((16 * q + w : Nat) : Int) := by
  rw [w32_i (x := (q : Int) * 16) (by omega) (by omega), w32_i (by omega) (by omega)]; omega
theorem cnt_64 (p : Nat → Bool) (w : Nat) : cnt p (64 * (w + 1)) = cnt p (64 * w) + cnt (fun k => p (64 * w + k)) 64 := by
  have : ∀ m, cnt p (64 * w + m) = cnt p (64 * w) + cnt (fun k => p (64 * w + k)) m := by
    intro m
    induction m with
    | zero => rfl
    | succ m ih => rw [← Nat.add_assoc, cnt_s, ih, cnt_s]; omega
  exact this 64
theorem cnt_gN {P : Nat → Prop} (hP : ∀ m, P m → m < gN B) {t : Nat} (h1 : gN B ≤ t) : cnt (dc P) t = cnt (dc P) (gN B) := cnt_skip h1 (fun c a _ => dc_f (fun z => by have := hP c z; omega))
theorem x_countHad (h : pOK B M) {n : Nat} (hn : n < gN B) (hQ : Q ((cnt (dc (nH B n)) 1024 : Nat) : Int) M) : am_s am_P am_gg (d + 3) 97 [.inr (.inr 82), .inl (n : Int)] M Q := by
  have n2 := gN_le (B := B)
  obtain ⟨c1, c2, c3⟩ := cdP hn
  have e4 : M 81 4 = (((gN B + 63) / 64 : Nat) : Int) := h.1.2
  have lp : ∀ s : Nat, s ≤ 1 → cnt (dc (nH B n)) 1024 = s + cnt (dc (aH B n)) 1024 → am_x am_P am_gg (d + 2) am_k97 1 Q 37 [some (.inr (.inr 82)), none, some (.inl (w32 (((cd (gp B) n / 16 : Nat) : Int) * 16))), some (.inl (w32 (((cd (gp B) n % 16 : Nat) : Int) * 16))), some (.inl ((s : Int))), some (.inl (((0 : Nat) : Int)))] [] M 0 0 := by
    intro s hs es
    have key := p_for (S := Int) (X := fun j x => am_x am_P am_gg (d + 2) am_k97 1 Q 37 [some (.inr (.inr 82)), none, some (.inl (w32 (((cd (gp B) n / 16 : Nat) : Int) * 16))), some (.inl (w32 (((cd (gp B) n % 16 : Nat) : Int) * 16))), some (.inl (x)), some (.inl (j))] [] M 0 0) ((gN B + 63) / 64) (fun w x => x = ((s + cnt (dc (aH B n)) (64 * w) : Nat) : Int)) ?_ ?_ 0 (s : Int) (by omega) rfl
    · exact key
    · intro x ex
      refine (h_97_37_82 _ _ _ _ _ _ _).mpr ?_
      rw [e4]
      rw [if_neg (by omega)]
      rw [ex, show cnt (dc (aH B n)) (64 * ((gN B + 63) / 64)) = cnt (dc (aH B n)) 1024 by rw [cnt_gN (fun m => aH_lt) (by omega), cnt_gN (fun m => aH_lt) n2], ← es]
      exact hQ
    · intro w x hw ex k
      have cl := cnt_le (p := dc (aH B n)) (64 * w)
      have cl2 := cnt_le (p := fun k => dc (aH B n) (64 * w + k)) 64
      refine (h_97_37_82 _ _ _ _ _ _ _).mpr ?_
      rw [e4, w32_16 (by omega) (by omega), w32_16 (by omega) (by omega)]
      rw [if_pos (by omega)]
      rw [if_pos (by omega)]
      rw [if_pos (by omega)]
      refine x_lbitsP (word_aH h hn (by omega)) ?_
      rw [w32_s (i := w) (by omega)]
      refine k _ ?_
      have : (dc fun k => aH B n (64 * w + k)) = (fun k => dc (aH B n) (64 * w + k)) := funext (fun k => dc_congr Iff.rfl)
      rw [ex, cnt_64, this, w32_i (by omega) (by omega)]
      omega
  refine (v_97_82 _ _ _ _).mpr ?_
  refine x_83 h hn (x_82 h hn ?_)
  refine x_isAround h hn hn (fun z => ?_) (fun z => ?_)
  · rw [if_neg (by decide)]
    refine am_x_le [some (.inr (.inr 82)), none, some (.inl (w32 (((cd (gp B) n / 16 : Nat) : Int) * 16))), some (.inl (w32 (((cd (gp B) n % 16 : Nat) : Int) * 16))), some (.inl (((0 : Nat) : Int))), some (.inl (((0 : Nat) : Int)))] (am_lb_le _ _ ⟨rfl, rfl, rfl, rfl, rfl, trivial⟩) ?_
    refine lp 0 (by omega) ?_
    rw [Nat.zero_add]
    exact cnt_congr (fun m _ => dc_congr ⟨fun y => y.elim (fun y => by rw [y]; exact z) id, Or.inr⟩)
  · rw [if_pos rfl]
    refine am_x_le [some (.inr (.inr 82)), none, some (.inl (w32 (((cd (gp B) n / 16 : Nat) : Int) * 16))), some (.inl (w32 (((cd (gp B) n % 16 : Nat) : Int) * 16))), some (.inl (((1 : Nat) : Int))), some (.inl (((0 : Nat) : Int)))] (am_lb_le _ _ ⟨rfl, rfl, rfl, rfl, rfl, trivial⟩) ?_
    refine lp 1 (by omega) ?_
    rw [Nat.add_comm, ← cnt_ins (by omega) z]
    exact cnt_congr (fun m _ => dc_congr or_comm)
end S97
