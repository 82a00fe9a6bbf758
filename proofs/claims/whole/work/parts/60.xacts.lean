/-! the class's acts, as the state tells them -/
/-- the state, as the class holds it; k bounds the version -/
def xS (k : Nat) (s : sS) (M : (Nat → Int → Int)) : Prop := sW s ∧ M 0 1 = (s.tn : Int) ∧ M 0 2 = s.st ∧ M 0 3 = s.fk ∧ M 0 4 = s.fa ∧ (∀ i : Nat, i < s.tn → M 1 (i : Int) = (s.tp i : Int)) ∧ xgb s.B M 2 ∧ (0 ≤ M 2 0 ∧ M 2 0 ≤ (k : Int)) ∧ M 0 8 = (s.H.length : Int) ∧ ∃ top : Nat, top < 8 ∧ M 0 7 = (top : Int) ∧ ∀ j, j < s.H.length → xgb (s.H.getD j (fun _ => 0)) M (125 + 6 * ((top + 7 - j) % 8))
/-- what a call of the class leaves as it was -/
def xA (s s' : sS) (M M' : (Nat → Int → Int)) : Prop := (∀ c, 16 ≤ c → c < 125 ∨ 173 ≤ c → M' c = M c) ∧ (M 2 0 < M' 2 0 ∨ (s'.B = s.B ∧ ∀ c, 2 ≤ c → c ≤ 7 → M' c = M c))
/-- what a call of the class comes to -/
def xC (k : Nat) (s s' : sS) (v : Int) (M : (Nat → Int → Int)) (r : Int) (M' : (Nat → Int → Int)) : Prop := r = v ∧ xS k s' M' ∧ xA s s' M M'
section S60
variable {s : sS} {k : Nat} {M : (Nat → Int → Int)} {d : Nat}
theorem xS_mono {k' : Nat} (h : xS k s M) (hk : k ≤ k') : xS k' s M := by
  obtain ⟨a1, a2, a3, a4, a5, a6, a7, ⟨b1, b2⟩, a8⟩ := h
  exact ⟨a1, a2, a3, a4, a5, a6, a7, ⟨b1, by omega⟩, a8⟩
theorem xC_mono {k' : Nat} {s' : sS} {v r : Int} {M' : (Nat → Int → Int)} (h : xC k s s' v M r M') (hk : k ≤ k') : xC k' s s' v M r M' := ⟨h.1, xS_mono h.2.1 hk, h.2.2⟩
theorem xA_rf : xA s s M M := ⟨fun _ _ _ => rfl, Or.inr ⟨rfl, fun _ _ _ => rfl⟩⟩
theorem xA_tr {s1 s2 s3 : sS} {M1 M2 M3 : (Nat → Int → Int)} (h1 : xA s1 s2 M1 M2) (h2 : xA s2 s3 M2 M3) (h0 : s2.B = s1.B → s3.B = s2.B → s3.B = s1.B := by intro a b; rw [b, a]) : xA s1 s3 M1 M3 := by
  refine ⟨fun c a b => by rw [h2.1 c a b, h1.1 c a b], ?_⟩
  rcases h2.2 with q | ⟨q, e⟩
  · rcases h1.2 with q1 | ⟨q1, e1⟩
    · exact Or.inl (by omega)
    · exact Or.inl (by rw [← e1 2 (by omega) (by omega)]; exact q)
  · rcases h1.2 with q1 | ⟨q1, e1⟩
    · exact Or.inl (by rw [e 2 (by omega) (by omega)]; exact q1)
    · exact Or.inr ⟨h0 q1 q, fun c a b => by rw [e c a b, e1 c a b]⟩
/-- another status -/
theorem xS_st (h : xS k s M) {v : Int} (hv : am_i32 v) : xS k (s.S v) (am_up M 0 2 v) := by
  obtain ⟨a1, a2, a3, a4, a5, a6, a7, a8, a9, top, t1, t2, t3⟩ := h
  refine ⟨⟨hv, a1.2⟩, ?_, up_eq _ _ _ _, ?_, ?_, ?_, ?_, ?_, ?_, top, t1, ?_, ?_⟩
  · rw [up_ni _ _ _ _ (by decide)]; exact a2
  · rw [up_ni _ _ _ _ (by decide)]; exact a4
  · rw [up_ni _ _ _ _ (by decide)]; exact a5
  · intro i hi; rw [up_nc _ _ _ _ (by decide)]; exact a6 i hi
  · exact xgb_eq a7 (fun c b1 b2 => up_nc _ _ _ _ (by omega))
  · rw [up_nc _ _ _ _ (by decide)]; exact a8
  · rw [up_ni _ _ _ _ (by decide)]; exact a9
  · rw [up_ni _ _ _ _ (by decide)]; exact t2
  · intro j hj
    exact xgb_eq (t3 j hj) (fun c b1 b2 => up_nc _ _ _ _ (by omega))
theorem xA_st {v : Int} : xA s (s.S v) M (am_up M 0 2 v) := ⟨fun c a b => up_nc _ _ _ _ (by omega), Or.inr ⟨rfl, fun c a b => up_nc _ _ _ _ (by omega)⟩⟩
theorem x_refuse (h : xS k s M) {v : Int} (hv : am_i32 v) : am_s am_P am_gg (d + 1) 204 [.inr (.inr 1), .inl v] M (xC k s (s.S v) (-1) M) :=
  (v_204_1 _ _ _ _).mpr ⟨rfl, xS_st h hv, xA_st⟩
theorem x_answer (h : xS k s M) (v : Int) : am_s am_P am_gg (d + 1) 205 [.inr (.inr 1), .inl v] M (xC k s (s.S 0) v M) :=
  (v_205_1 _ _ _ _).mpr ⟨rfl, xS_st h am_0, xA_st⟩
theorem x_status (h : xS k s M) : am_s am_P am_gg (d + 1) 167 [.inr (.inr 1)] M (xC k s (sp_status s).2 (sp_status s).1 M) :=
  (v_167_1 _ _ _).mpr ⟨h.2.2.1, h, xA_rf⟩
theorem x_fault (h : xS k s M) (w : Int) : am_s am_P am_gg (d + 1) 170 [.inr (.inr 1), .inl w] M (xC k s (sp_fault s w).2 (sp_fault s w).1 M) := by
  refine (v_170_1 _ _ _ _).mpr ?_
  unfold sp_fault
  dsimp only
  refine @p_if _ _ _ _ ?_ ?_
  · intro e; rw [if_pos e]; exact ⟨h.2.2.2.1, h, xA_rf⟩
  intro e
  rw [if_neg e]
  refine @p_if _ _ _ _ ?_ ?_
  · intro e; rw [if_pos e]; exact ⟨h.2.2.2.2.1, h, xA_rf⟩
  · intro e; rw [if_neg e]; exact ⟨rfl, h, xA_rf⟩
theorem x_drop (h : xS k s M) (a : Int) : am_s am_P am_gg (d + 2) 203 [.inr (.inr 1), .inl a] M (xC k s (sp_drop s a).2 (sp_drop s a).1 M) := by
  refine (v_203_1 _ _ _ _).mpr ?_
  have hn : s.tn ≤ 400 := h.1.2.2.2.1
  unfold sp_drop
  rw [h.2.1]
  refine @p_if _ _ _ _ ?_ ?_
  · intro q; rw [if_neg (by omega)]; exact x_refuse h (by unfold am_i32; omega)
  intro q
  refine @p_if _ _ _ _ ?_ ?_
  · intro q; rw [if_neg (by omega)]; exact x_refuse h (by unfold am_i32; omega)
  intro q2
  rw [if_pos (by omega), w32_i (by omega) (by omega)]
  have h' : xS k (s.st, s.fk, s.fa, s.tn - a.toNat, s.tp, s.B, s.H) (am_up M 0 1 ((s.tn : Int) - a)) := by
    obtain ⟨⟨w1, w2, w3, w4, w5, w6⟩, a2, a3, a4, a5, a6, a7, a8, a9, top, t1, t2, t3⟩ := h
    refine ⟨⟨w1, w2, w3, show s.tn - a.toNat ≤ 400 by omega, fun i hi => w5 i (by have : i < s.tn - a.toNat := hi; omega), w6⟩, ?_, ?_, ?_, ?_, ?_, ?_, ?_, ?_, top, t1, ?_, ?_⟩
    · rw [up_eq]; show _ = ((s.tn - a.toNat : Nat) : Int); omega
    · rw [up_ni _ _ _ _ (by decide)]; exact a3
    · rw [up_ni _ _ _ _ (by decide)]; exact a4
    · rw [up_ni _ _ _ _ (by decide)]; exact a5
    · intro i hi; have hi : i < s.tn - a.toNat := hi
      rw [up_nc _ _ _ _ (by decide)]; exact a6 i (by omega)
    · exact xgb_eq a7 (fun c b1 b2 => up_nc _ _ _ _ (by omega))
    · rw [up_nc _ _ _ _ (by decide)]; exact a8
    · rw [up_ni _ _ _ _ (by decide)]; exact a9
    · rw [up_ni _ _ _ _ (by decide)]; exact t2
    · intro j hj
      exact xgb_eq (t3 j hj) (fun c b1 b2 => up_nc _ _ _ _ (by omega))
  refine am_s_mono (Nat.le_refl _) (x_answer h' _) (fun r M' q => ?_)
  refine ⟨q.1, q.2.1, fun c a b => ?_, ?_⟩
  · rw [q.2.2.1 c a b, up_nc _ _ _ _ (by omega)]
  · rcases q.2.2.2 with g | ⟨_, g⟩
    · rw [up_nc _ _ _ _ (by decide)] at g; exact Or.inl g
    · exact Or.inr ⟨rfl, fun c a b => by rw [g c a b, up_nc _ _ _ _ (by omega)]⟩
theorem x_feedBytes {Q : Int → (Nat → Int → Int) → Prop} {n : Nat} {a : Int} (hn : M 0 1 = (n : Int)) (hn4 : n + 4 ≤ 400) (ha : am_i32 a) (hQ : ∀ M', M' 0 1 = ((n + 4 : Nat) : Int) → (∀ i : Int, i ≠ 1 → M' 0 i = M 0 i) → (∀ c, c ≠ 0 → c ≠ 1 → M' c = M c) → (∀ j : Nat, M' 1 (j : Int) = if n ≤ j ∧ j < n + 4 then (by8 a (j - n) : Int) else M 1 (j : Int)) → Q 0 M') : am_s am_P am_gg (d + 1) 207 [.inr (.inr 1), .inl a] M Q := by
  have k1 : ∀ x : Nat, x < 4294967296 → i_and (w32 (x : Int)) 255 = ((x % 256 : Nat) : Int) := fun x hx => by
    rw [show (255 : Int) = w32 ((255 : Nat) : Int) from by decide, b_and hx (by decide), show (255 : Nat) = 2 ^ 8 - 1 from rfl, Nat.and_two_pow_sub_one_eq_mod, show (2 : Nat) ^ 8 = 256 from rfl, w32_nat (by omega)]
  have hm : (0 : Int) ≤ a % 4294967296 := Int.emod_nonneg _ (by decide)
  have dd : ∀ (n : Nat) (p : Int), n < 32 → (2 : Int) ^ n = p → 0 < p → i_and (i_ushr a (n : Int)) 255 = a % 4294967296 / p % 256 := fun n p hn hp h0 => by
    rw [i_ushr_div hn, hp]
    have q0 : 0 ≤ a % 4294967296 / p := Int.ediv_nonneg hm (by omega)
    have q1 : a % 4294967296 / p ≤ a % 4294967296 := Int.ediv_le_self _ hm
    obtain ⟨x, hx⟩ := p_nat q0
    rw [hx] at q1 ⊢
    rw [k1 x (by omega)]; omega
  have d0 : i_and (i_ushr a 24) 255 = (by8 a 0 : Int) := by
    have := dd 24 16777216 (by decide) (by decide) (by decide)
    rw [show ((24 : Nat) : Int) = 24 from rfl] at this
    rw [this, by8_0]; omega
  have d1 : i_and (i_ushr a 16) 255 = (by8 a 1 : Int) := by
    have := dd 16 65536 (by decide) (by decide) (by decide)
    rw [show ((16 : Nat) : Int) = 16 from rfl] at this
    rw [this, by8_1]; omega
  have d2 : i_and (i_ushr a 8) 255 = (by8 a 2 : Int) := by
    have := dd 8 256 (by decide) (by decide) (by decide)
    rw [show ((8 : Nat) : Int) = 8 from rfl] at this
    rw [this, by8_2]; omega
  have d3 : i_and (i_ushr a 0) 255 = (by8 a 3 : Int) := by
    have := dd 0 1 (by decide) (by decide) (by decide)
    rw [show ((0 : Nat) : Int) = 0 from rfl] at this
    rw [this, show by8 a 3 = _ from by8_3 a 0]; omega
  refine (v_207_1 _ _ _ _).mpr ?_
  refine (h_207_3_1 _ _ _ _ _).mpr ?_
  rw [if_neg (by omega)]
  rw [hn]; rw [if_pos (by omega)]
  rw [show w32 (24 + (-8)) = 16 from by decide, w32_s (by omega), d0]
  refine (h_207_3_1 _ _ _ _ _).mpr ?_
  rw [if_neg (by omega)]
  rw [up_eq]; rw [if_pos (by omega)]
  rw [show w32 (16 + (-8)) = 8 from by decide, w32_s (by omega), d1]
  refine (h_207_3_1 _ _ _ _ _).mpr ?_
  rw [if_neg (by omega)]
  rw [up_eq]; rw [if_pos (by omega)]
  rw [show w32 (8 + (-8)) = 0 from by decide, w32_s (by omega), d2]
  refine (h_207_3_1 _ _ _ _ _).mpr ?_
  rw [if_neg (by omega)]
  rw [up_eq]; rw [if_pos (by omega)]
  rw [show w32 (0 + (-8)) = -8 from by decide, w32_s (by omega), d3]
  refine (h_207_3_1 _ _ _ _ _).mpr ?_
  rw [if_pos (by omega)]
  refine hQ _ (up_eq _ _ _ _) ?_ ?_ ?_
  · intro i hi
    simp only [up_if]
    simp [hi]
  · intro c h1 h2
    simp only [up_nc _ _ _ _ h1, up_nc _ _ _ _ h2]
  · intro j
    simp only [up_if]
    simp
    by_cases g3 : j = n + 3
    · subst g3; simp; omega
    by_cases g2 : j = n + 2
    · subst g2; simp; omega
    by_cases g1 : j = n + 1
    · subst g1; simp; omega
    by_cases g0 : j = n
    · subst g0; simp; omega
    rw [if_neg (by omega), if_neg (by omega), if_neg (by omega), if_neg (by omega), if_neg (by omega)]
theorem x_feedBytes2 {Q : Int → (Nat → Int → Int) → Prop} (h : xS k s M) (hn : s.tn + 4 ≤ 400) {a : Int} (ha : am_i32 a) (hQ : ∀ M', xS k (s.st, s.fk, s.fa, (sp_lay (s.tn, s.tp) a).1, (sp_lay (s.tn, s.tp) a).2, s.B, s.H) M' → xA s (s.st, s.fk, s.fa, (sp_lay (s.tn, s.tp) a).1, (sp_lay (s.tn, s.tp) a).2, s.B, s.H) M M' → Q 0 M') : am_s am_P am_gg (d + 1) 207 [.inr (.inr 1), .inl a] M Q := by
  obtain ⟨⟨w1, w2, w3, w4, w5, w6⟩, a2, a3, a4, a5, a6, a7, a8, a9, top, t1, t2, t3⟩ := h
  refine x_feedBytes a2 hn ha (fun M' b1 b2 b3 b4 => hQ M' ⟨⟨w1, w2, w3, hn, ?_, w6⟩, b1, ?_, ?_, ?_, ?_, ?_, ?_, ?_, top, t1, ?_, ?_⟩ ⟨?_, Or.inr ⟨rfl, ?_⟩⟩)
  · intro i hi
    show (sp_lay (s.tn, s.tp) a).2 i < 256
    unfold sp_lay
    dsimp only
    split
    · exact by8_lt _ _
    · exact w5 i (by have : i < s.tn + 4 := hi; omega)
  · rw [b2 _ (by decide)]; exact a3
  · rw [b2 _ (by decide)]; exact a4
  · rw [b2 _ (by decide)]; exact a5
  · intro i hi
    have hi : i < s.tn + 4 := hi
    rw [b4]
    show _ = ((sp_lay (s.tn, s.tp) a).2 i : Int)
    unfold sp_lay
    dsimp only
    by_cases q : s.tn ≤ i ∧ i < s.tn + 4
    · rw [if_pos q, if_pos q]
    · rw [if_neg q, if_neg q]; exact a6 i (by omega)
  · exact xgb_eq a7 (fun c b1 b2 => b3 c (by omega) (by omega))
  · rw [b3 2 (by omega) (by omega)]; exact a8
  · rw [b2 _ (by decide)]; exact a9
  · rw [b2 _ (by decide)]; exact t2
  · intro j hj
    exact xgb_eq (t3 j hj) (fun c b1 b2 => b3 c (by omega) (by omega))
  · intro c b1 b2; exact b3 c (by omega) (by omega)
  · intro c b1 b2; exact b3 c (by omega) (by omega)
theorem x_feed (h : xS k s M) {a b c e f : Int} (ha : am_i32 a) (hb : am_i32 b) (hc : am_i32 c) (he : am_i32 e) (hf : am_i32 f) : am_s am_P am_gg (d + 2) 168 [.inr (.inr 1), .inl a, .inl b, .inl c, .inl e, .inl f] M (xC k s (sp_feed s a b c e f).2 (sp_feed s a b c e f).1 M) := by
  refine (v_168_1 _ _ _ _ _ _ _ _).mpr ?_
  have hn : s.tn ≤ 400 := h.1.2.2.2.1
  rw [h.2.1, w32_i (by omega) (by omega)]
  unfold sp_feed
  refine @p_if _ _ _ _ ?_ ?_
  · intro q
    rw [if_pos (show 380 < s.tn by omega)]
    exact ⟨rfl, h, xA_rf⟩
  · intro q
    rw [if_neg (show ¬ 380 < s.tn by omega)]
    refine x_feedBytes2 h (show s.tn + 4 ≤ 400 by omega) ha (fun M1 h1 a1 => ?_)
    refine x_feedBytes2 h1 (show s.tn + 4 + 4 ≤ 400 by omega) hb (fun M2 h2 a2 => ?_)
    refine x_feedBytes2 h2 (show s.tn + 4 + 4 + 4 ≤ 400 by omega) hc (fun M3 h3 a3 => ?_)
    refine x_feedBytes2 h3 (show s.tn + 4 + 4 + 4 + 4 ≤ 400 by omega) he (fun M4 h4 a4 => ?_)
    refine x_feedBytes2 h4 (show s.tn + 4 + 4 + 4 + 4 + 4 ≤ 400 by omega) hf (fun M5 h5 a5 => ?_)
    exact ⟨h5.2.1, h5, xA_tr a1 (xA_tr a2 (xA_tr a3 (xA_tr a4 a5)))⟩
theorem x_hasRule {Q : Int → (Nat → Int → Int) → Prop} {B : Nat → Nat} (hg : xgb B M 2) {a : Int} (h1 : 0 ≤ a ∧ a < B 0 → Q 1 M) (h0 : ¬ (0 ≤ a ∧ a < B 0) → Q 0 M) : am_s am_P am_gg (d + 1) 59 [.inr (.inr 3), .inl a] M Q := by
  refine (v_59_3 _ _ _ _).mpr ?_
  rw [hg.1]
  refine @p_if _ _ _ _ ?_ ?_
  · intro q; exact h0 (by omega)
  intro q
  refine @p_if _ _ _ _ ?_ ?_
  · intro q; exact h1 (by omega)
  · intro q; exact h0 (by omega)
theorem x_isOn {Q : Int → (Nat → Int → Int) → Prop} {B : Nat → Nat} (hg : xgb B M 2) (hn : B 1 < 65536) {r : Nat} (hr : r < 32) (h1 : gon B r = true → Q 1 M) (h0 : gon B r = false → Q 0 M) : am_s am_P am_gg (d + 1) 60 [.inr (.inr 3), .inl (r : Int)] M Q := by
  refine (v_60_3 _ _ _ _).mpr ?_
  rw [hg.2.1, ← w32_nat (n := B 1) (by omega), b_bit (by omega) hr]
  show (if (if gon B r = true then (1 : Int) else 0) = 0 then Q 0 M else Q 1 M)
  cases e : gon B r with
  | true => rw [if_neg (by simp)]; exact h1 e
  | false => rw [if_pos (by simp)]; exact h0 e
theorem x_isTold {Q : Int → (Nat → Int → Int) → Prop} {B : Nat → Nat} (hg : xgb B M 2) (hW : gW B) {r : Nat} (hr : r < 32) (h1 : gT B (r : Int) → Q 1 M) (h0 : ¬ gT B (r : Int) → Q 0 M) : am_s am_P am_gg (d + 1) 61 [.inr (.inr 3), .inl (r : Int)] M Q := by
  refine (v_61_3 _ _ _ _).mpr ?_
  have hl := gtold_lt hW
  rw [hg.2.2.1, ← w32_nat (n := gtold B) (by omega), b_bit (by omega) hr]
  cases e : (gtold B).testBit r with
  | true => rw [if_neg (by simp)]; obtain ⟨q, hq, e⟩ := (gtold_bit B r).mp e; exact h1 ⟨q, hq, by rw [e]⟩
  | false => rw [if_pos (by simp)]; exact h0 (fun ⟨q, hq, g⟩ => by rw [(gtold_bit B r).mpr ⟨q, hq, by omega⟩] at e; cases e)
/-- why a symbol can't be asked for -/
theorem x_whyNoSymbol {Q : Int → (Nat → Int → Int) → Prop} {B : Nat → Nat} (hg : xgb B M 2) (hW : gW B) {a : Int} (h1 : ¬ (0 ≤ a ∧ a < 8) → Q 1 M) (h2 : 0 ≤ a ∧ a < 8 → ¬ gT B a → Q 2 M) (h0 : 0 ≤ a ∧ a < 8 → gT B a → Q 0 M) : am_s am_P am_gg (d + 2) 212 [.inr (.inr 1), .inl a] M Q := by
  refine (v_212_1 _ _ _ _).mpr ?_
  refine @p_if _ _ _ _ ?_ ?_
  · intro q; exact h1 (by omega)
  intro q
  refine @p_if _ _ _ _ ?_ ?_
  · intro q2
    obtain ⟨r, rfl⟩ := p_nat (show 0 ≤ a by omega)
    refine x_isTold hg hW (by omega) ?_ ?_
    · intro t; rw [if_neg (by decide)]; exact h0 (by omega) t
    · intro t; rw [if_pos (by decide)]; exact h2 (by omega) t
  · intro q2; exact h1 (by omega)
theorem x_signAt {Q : Int → (Nat → Int → Int) → Prop} {B : Nat → Nat} (hg : xgb B M 2) (hW : gW B) {r i : Nat} (hr : r < B 0) (hi : i < gsz B r) (hQ : Q (gsg B r i : Int) M) : am_s am_P am_gg (d + 1) 65 [.inr (.inr 3), .inl (r : Int), .inl (i : Int)] M Q := by
  refine (v_65_3 _ _ _ _ _).mpr ?_
  have hn := hW.1
  have hs := (hW.2.2.2.1 r hr).2.2.1
  rw [show w32 (w32 ((r : Int) * 4) + (i : Int)) = ((4 * r + i : Nat) : Int) by rw [w32_i (x := (r : Int) * 4) (by omega) (by omega), w32_i (by omega) (by omega)]; omega]
  rw [if_pos (by omega)]
  rw [(hg.2.2.2.2.1 r hr).2.2.2 i hi]; exact hQ
/-- behind remember: another grammar -/
theorem x_keep2 {Q : Int → (Nat → Int → Int) → Prop} (h : xS k s M) (hQ : ∀ M1, xgb s.B M1 2 → M1 2 0 = M 2 0 → (∀ (B' : Nat → Nat) (M2 : (Nat → Int → Int)) (x : Int) (d : Nat), gW B' → xgb B' M2 2 → M2 2 0 = w32 (M1 2 0 + 1) → (∀ c, c < 2 ∨ 7 < c → M2 c = M1 c) → k < 2147483647 → am_s am_P am_gg (d + 1) 205 [.inr (.inr 1), .inl x] M2 (xC (k + 1) s (sp_keep s B') x M)) → Q 0 M1) : am_s am_P am_gg (d + 2) 208 [.inr (.inr 1)] M Q := by
  obtain ⟨⟨w1, w2, w3, w4, w5, w6, w7, w8⟩, a2, a3, a4, a5, a6, a7, ⟨a8, a8'⟩, a9, top, t1, t2, t3⟩ := h
  refine x_remember t1 t2 a9 w7 w6 a7 (fun M1 b1 b2 b3 b4 b5 => hQ M1 (xgb_eq a7 (fun c _ _ => b5 c (by omega) (by omega))) (by rw [b5 2 (by omega) (by omega)]) (fun B' M2 x d hB' c1 c2 c3 hk => ?_))
  have e0 : M2 0 = M1 0 := c3 0 (by omega)
  have hver : M2 2 0 = M 2 0 + 1 := by rw [c2, b5 2 (by omega) (by omega), w32_i (by omega) (by omega)]
  have hs : xS (k + 1) (s.st, s.fk, s.fa, s.tn, s.tp, B', (s.B :: s.H).take 8) M2 := by
    refine ⟨⟨w1, w2, w3, w4, w5, hB', ?_, ?_⟩, ?_, ?_, ?_, ?_, ?_, c1, ?_, ?_, (top + 1) % 8, by omega, by rw [e0]; exact b2, ?_⟩
    · show ((s.B :: s.H).take 8).length ≤ 8
      rw [List.length_take]; omega
    · intro B hb
      have hb : B ∈ (s.B :: s.H).take 8 := hb
      rcases List.mem_cons.mp (List.mem_of_mem_take hb) with rfl | q
      · exact w6
      · exact w8 B q
    · rw [e0, b4 1 (by decide) (by decide)]; exact a2
    · rw [e0, b4 2 (by decide) (by decide)]; exact a3
    · rw [e0, b4 3 (by decide) (by decide)]; exact a4
    · rw [e0, b4 4 (by decide) (by decide)]; exact a5
    · intro i hi; rw [c3 1 (by omega), b5 1 (by omega) (by omega)]; exact a6 i hi
    · rw [hver]; constructor <;> omega
    · rw [e0, b3]; show _ = (((s.B :: s.H).take 8).length : Int); rw [rb_len]
    · intro j hj
      have hj : j < ((s.B :: s.H).take 8).length := hj
      rw [rb_len] at hj
      match j, hj with
      | 0, _ =>
        rw [show ((top + 1) % 8 + 7 - 0) % 8 = top by omega]
        exact xgb_eq b1 (fun c _ _ => c3 c (by omega))
      | j + 1, hj =>
        have hj8 : j + 1 < 8 := by split at hj <;> omega
        have hjl : j < s.H.length := by split at hj <;> omega
        rw [show ((top + 1) % 8 + 7 - (j + 1)) % 8 = (top + 7 - j) % 8 by omega]
        show xgb (((s.B :: s.H).take 8).getD (j + 1) (fun _ => 0)) _ _
        rw [rb_get hj8]
        exact xgb_eq (t3 j hjl) (fun c _ _ => by rw [c3 c (by omega), b5 c (by omega) (by omega)])
  refine am_s_mono (Nat.le_refl _) (x_answer hs x) (fun r M' q => ⟨q.1, q.2.1, fun c a b => ?_, Or.inl ?_⟩)
  · rw [q.2.2.1 c a b, c3 c (by omega), b5 c (by omega) (by omega)]
  · rcases q.2.2.2 with g | ⟨_, g⟩
    · omega
    · rw [g 2 (by omega) (by omega)]; omega
end S60
