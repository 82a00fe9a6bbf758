/-! the class fills the chart -/
def dS (T : Nat → Nat × Nat) (f : Nat) (r i : Nat) : Prop := ∃ j, j < f ∧ T j = (r, i)
/-- what is made at a place just now: all behind a0, some at it, nothing ahead -/
def DD (B : Nat → Nat) (T : Nat → Nat × Nat) (a0 f0 a : Nat) (r i : Nat) : Prop := (a0 < a ∧ dF B r i) ∨ (a = a0 ∧ dS T f0 r i)
def colD (B x : Nat → Nat) (T : Nat → Nat × Nat) (e0 a0 f0 : Nat) (M : (Nat → Int → Int)) : Prop := ∀ c : Nat, c < 96 → bs (M 111 ((96 * e0 + c : Nat) : Int)) (fun a => a < e0 ∧ mk B x (DD B T a0 f0 a) c a (e0 - a))
def endD (B x : Nat → Nat) (T : Nat → Nat × Nat) (e0 a0 f0 : Nat) (M : (Nat → Int → Int)) : Prop := ∀ s a : Nat, s < 8 → a < 17 → bs (M 110 ((17 * s + a : Nat) : Int)) (fun e => a < e ∧ (e < e0 ∧ mk B x (dF B) s a (e - a) ∨ e = e0 ∧ mk B x (DD B T a0 f0 a) s a (e0 - a)))
def colF (B x : Nat → Nat) (e0 : Nat) (M : (Nat → Int → Int)) : Prop := ∀ c : Nat, c < 96 → bs (M 111 ((96 * e0 + c : Nat) : Int)) (fun a => a < e0 ∧ mk B x (dF B) c a (e0 - a))
def endF (B x : Nat → Nat) (f : Nat) (M : (Nat → Int → Int)) : Prop := ∀ s a : Nat, s < 8 → a < 17 → bs (M 110 ((17 * s + a : Nat) : Int)) (fun e => a < e ∧ e ≤ f ∧ mk B x (dF B) s a (e - a))
def txI (x : Nat → Nat) (f : Nat) (M : (Nat → Int → Int)) : Prop := ∀ j : Nat, j < f → M 109 (j : Int) = (x j : Int) ∧ x j < 16
section Sa0
variable {B x o : Nat → Nat} {a n r i s k c e f d a0 e0 f0 N : Nat} {T : Nat → Nat × Nat} {M M0 : (Nat → Int → Int)} {Q : Int → (Nat → Int → Int) → Prop} {D D' : Nat → Nat → Prop}
theorem mk_cg (h : ∀ r i, D r i ↔ D' r i) : mk B x D c a n ↔ mk B x D' c a n := by
  have e : D = D' := by funext r i; exact propext (h r i)
  rw [e]
theorem mk_let {D' : Nat → Nat → Prop} (h : 16 ≤ c ∧ c < 32) : mk B x D c a n ↔ (n = 1 ∧ x a + 16 = c) := by
  unfold mk
  constructor
  · rintro (⟨h1, _⟩ | ⟨_, _, h1⟩ | ⟨r, i, h1, _⟩)
    · omega
    · exact h1
    · omega
  · intro h1; exact Or.inr (Or.inl ⟨h.1, h.2, h1⟩)
/-- the part of a row that a step is about -/
def pl0 (i : Nat) : Nat := if i = 4 then 0 else i
theorem mk_dS : mk B x (dS T (f + 1)) c a n ↔ mk B x (dS T f) c a n ∨ (c = cdC B (T f) ∧ (c < 8 ∨ (T f).2 < 4) ∧ ((T f).2 = 4 → c < 8) ∧ 0 < wR B x (T f).1 (pl0 (T f).2) a n) := by
  have hd : ∀ r i, dS T (f + 1) r i ↔ dS T f r i ∨ T f = (r, i) := by
    intro r i
    constructor
    · rintro ⟨j, hj, e⟩
      by_cases q : j = f
      · subst q; exact Or.inr e
      · exact Or.inl ⟨j, by omega, e⟩
    · rintro (⟨j, hj, e⟩ | e)
      · exact ⟨j, by omega, e⟩
      · exact ⟨f, by omega, e⟩
  unfold mk
  constructor
  · rintro (⟨h1, r, h2, h3, h4⟩ | h | ⟨r, i, h1, h2, h3, h4⟩)
    · rcases (hd r 4).mp h2 with q | q
      · exact Or.inl (Or.inl ⟨h1, r, q, h3, h4⟩)
      · refine Or.inr ?_
        rw [q]
        refine ⟨?_, Or.inl h1, fun _ => h1, h4⟩
        unfold cdC; rw [if_pos rfl]; exact h3.symm
    · exact Or.inl (Or.inr (Or.inl h))
    · rcases (hd r i).mp h3 with q | q
      · exact Or.inl (Or.inr (Or.inr ⟨r, i, h1, h2, q, h4⟩))
      · refine Or.inr ?_
        rw [q]
        have hp : pl0 i = i := by unfold pl0; rw [if_neg (by omega)]
        refine ⟨?_, Or.inr h2, fun e => by have e : i = 4 := e; omega, ?_⟩
        · unfold cdC; rw [if_neg (by dsimp only; omega)]; exact h1
        · dsimp only; rw [hp]; exact h4
  · rintro ((⟨h1, r, h2, h3, h4⟩ | h | ⟨r, i, h1, h2, h3, h4⟩) | ⟨h1, h2, h3, h4⟩)
    · exact Or.inl ⟨h1, r, (hd r 4).mpr (Or.inl h2), h3, h4⟩
    · exact Or.inr (Or.inl h)
    · exact Or.inr (Or.inr ⟨r, i, h1, h2, (hd r i).mpr (Or.inl h3), h4⟩)
    · by_cases q : (T f).2 = 4
      · unfold cdC at h1
        rw [if_pos q] at h1
        unfold pl0 at h4
        rw [if_pos q] at h4
        exact Or.inl ⟨h3 q, (T f).1, (hd _ _).mpr (Or.inr (Prod.ext rfl q)), h1.symm, h4⟩
      · unfold cdC at h1
        rw [if_neg q] at h1
        unfold pl0 at h4
        rw [if_neg q] at h4
        exact Or.inr (Or.inr ⟨(T f).1, (T f).2, h1, by omega, (hd _ _).mpr (Or.inr rfl), h4⟩)
theorem DD_at : mk B x (DD B T a0 f0 a0) c a n ↔ mk B x (dS T f0) c a n := mk_cg (fun r i => by
  unfold DD
  constructor
  · rintro (⟨h, _⟩ | h)
    · omega
    · exact h.2
  · intro h; exact Or.inr ⟨rfl, h⟩)
theorem DD_gt (h : a0 < e) : mk B x (DD B T a0 f0 e) c a n ↔ mk B x (dF B) c a n := mk_cg (fun r i => by
  unfold DD
  constructor
  · rintro (h1 | ⟨h1, _⟩)
    · exact h1.2
    · omega
  · intro h1; exact Or.inl ⟨h, h1⟩)
theorem dS_full (hs : stI B o 1024 n T M) (hW : gW B) (ho : oO B o) (r i : Nat) : dS T n r i ↔ dF B r i := by
  constructor
  · rintro ⟨j, hj, e⟩
    have := (hs.2.1 j hj).1
    rw [e] at this; exact this
  · intro h
    have a1 := dF_lt hW h
    have a2 := oi_ok ho a1.2.2.2
    have a3 := spl_lt (i := i)
    obtain ⟨j, hj, e⟩ := hs.2.2.2 (r, i) h (by unfold skey; dsimp only; omega)
    exact ⟨j, hj, e⟩
/-- what a row needs of its own span is made ahead of it -/
theorem mk_rwc (hs : stI B o 1024 n T M) (hW : gW B) (ho : oO B o) (hf : f < n) (h4 : (T f).2 = 4) (h1 : 1 ≤ k) (hk : k ≤ 24) : mk B x (dS T f) (rwc B (T f).1) a k ↔ 0 < wR B x (T f).1 0 a k := by
  have hd := (hs.2.1 f hf).1
  have hu := hd.1
  have hz := hW.2.2.2.1 _ hu.1
  have a1 := dF_lt hW hd
  have bef : ∀ t : Nat × Nat, dF B t.1 t.2 → skey B o t < skey B o (T f) → dS T f t.1 t.2 := by
    intro t ht hlt
    have b1 := dF_lt hW ht
    have b2 := oi_ok ho b1.2.2.2
    have b3 := spl_lt (i := t.2)
    obtain ⟨j, hj, e⟩ := hs.2.2.2 t ht (by unfold skey; omega)
    refine ⟨j, ?_, e⟩
    rcases Nat.lt_trichotomy j f with q | q | q
    · exact q
    · subst q; rw [e] at hlt; omega
    · have := hs.2.2.1 f j q hj
      rw [e] at this; omega
  unfold rwc
  by_cases e1 : gsz B (T f).1 = 1
  · rw [if_pos e1, wR_last (by omega) h1, ← mk_sgn hW hk hu (by omega)]
    rcases hz.2.2.2.2 0 (by omega) with g | g
    · constructor
      · rintro (⟨h2, r, h3, h5, h6⟩ | h2 | ⟨r, i, h2, _⟩)
        · obtain ⟨j, hj, e⟩ := h3
          have := (hs.2.1 j (by omega)).1
          rw [e] at this
          exact Or.inl ⟨h2, r, this, h5, h6⟩
        · omega
        · omega
      · rintro (⟨h2, r, h3, h5, h6⟩ | h2 | ⟨r, i, h2, _⟩)
        · refine Or.inl ⟨h2, r, bef (r, 4) h3 ?_, h5, h6⟩
          have b1 := dF_lt hW h3
          have q1 := oi_ok ho b1.2.2.2
          have q2 := oi_ok ho a1.2.2.2
          have := ho.2.2.2 _ hu.1 e1 g _ _ q1.1 q2.1 (by rw [q1.2]; exact h5) q2.2
          have l1 := spl_lt (i := 4)
          unfold skey
          dsimp only
          omega
        · omega
        · omega
    · rw [mk_let (D' := dN) g, mk_let (D' := dN) g]
  · rw [if_neg e1, show 32 + 4 * (T f).1 = 32 + 4 * (T f).1 + 0 from rfl, mk_rest (by omega)]
    constructor
    · intro h; exact h.2
    · intro h
      refine ⟨bef ((T f).1, 0) ⟨hu, Or.inl (by dsimp only; omega)⟩ ?_, h⟩
      unfold skey
      dsimp only
      rw [h4]
      show _ + 3 < _ + 4
      omega
theorem w_17 {s a : Nat} (hs : s < 8) (ha : a < 17) : w32 (w32 ((s : Int) * 17) + (a : Int)) = ((17 * s + a : Nat) : Int) := by
  rw [show w32 ((s : Int) * 17) = ((17 * s : Nat) : Int) by rw [w32_i (by omega) (by omega)]; omega, w32_i (by omega) (by omega)]; omega
theorem w_96 {e c : Nat} (he : e ≤ 16) (hc : c < 96) : w32 (((96 * e : Nat) : Int) + (c : Int)) = ((96 * e + c : Nat) : Int) := by rw [w32_i (by omega) (by omega)]; omega
theorem w_96' {e c : Nat} (he : e ≤ 16) (hc : c < 96) : w32 (w32 ((e : Int) * 96) + (c : Int)) = ((96 * e + c : Nat) : Int) := by
  rw [show w32 ((e : Int) * 96) = ((96 * e : Nat) : Int) by rw [w32_i (by omega) (by omega)]; omega, w_96 he hc]
theorem b_96 {e c : Nat} (he : e ≤ 16) (hc : c < 96) : 0 ≤ ((96 * e + c : Nat) : Int) ∧ ((96 * e + c : Nat) : Int) < 1632 := by omega
theorem b_17 {s a : Nat} (hs : s < 8) (ha : a < 17) : 0 ≤ ((17 * s + a : Nat) : Int) ∧ ((17 * s + a : Nat) : Int) < 136 := by omega
theorem b_n {f m : Nat} (h : f < m) : 0 ≤ (f : Int) ∧ (f : Int) < (m : Int) := by omega
/-- where a sign can end -/
def enS (B x : Nat → Nat) (T : Nat → Nat × Nat) (e0 a0 f0 N : Nat) (g a e : Nat) : Prop := (g < 8 ∧ a < e ∧ (e < e0 ∧ mk B x (dF B) g a (e - a) ∨ e = e0 ∧ mk B x (DD B T a0 f0 a) g a (e0 - a))) ∨ (16 ≤ g ∧ g < 32 ∧ a < N ∧ e = a + 1 ∧ x a + 16 = g)
theorem bs_two (ha : a < 16) : bs (i_shl 2 (a : Int)) (fun e => e = a + 1) := by
  have e : i_shl 2 (a : Int) = i_shl 1 ((a + 1 : Nat) : Int) := by
    rw [i_shl_mul (by omega), i_shl_mul (by omega), Int.one_mul]
    congr 1
    rw [show (2 : Int) ^ (a + 1) = 2 * 2 ^ a by rw [Int.pow_succ, Int.mul_comm]]
  rw [e]; exact bs_one (by omega)
theorem x_endsOf {g : Nat} (hE : ∀ s a : Nat, s < 8 → a < 17 → bs (M 110 ((17 * s + a : Nat) : Int)) (fun e => enS B x T e0 a0 f0 N s a e)) (h4 : M 108 4 = (N : Int)) (hN : N ≤ 16) (ha : a < 17) (hx : ∀ j : Nat, j ≤ a → j < N → M 109 (j : Int) = (x j : Int) ∧ x j < 16) (hg : g < 8 ∨ (16 ≤ g ∧ g < 32)) (hQ : ∀ v, bs v (enS B x T e0 a0 f0 N g a) → Q v M) : am_s am_P am_gg (d + 1) 7 [.inr (.inr 109), .inl (g : Int), .inl (a : Int)] M Q := by
  refine (v_7_109 _ _ _ _ _).mpr ?_
  refine @p_if _ _ _ _ ?_ ?_
  · intro h8
    rw [w_17 (by omega) ha]
    rw [if_pos (by omega)]
    exact hQ _ (hE g a (by omega) ha)
  · intro h8
    rw [h4]
    have no : ¬ (a < N ∧ x a + 16 = g) → bs 0 (enS B x T e0 a0 f0 N g a) := fun q => bs_cong bs_0 (fun j => by
      unfold enS
      constructor
      · intro z; exact z.elim
      · rintro (⟨z, _⟩ | ⟨_, _, z1, _, z2⟩)
        · omega
        · exact q ⟨z1, z2⟩)
    refine @p_if _ _ _ _ ?_ ?_
    · intro hlt
      rw [if_pos (by omega)]
      have hxa := hx a (Nat.le_refl _) (by omega)
      rw [hxa.1, show w32 ((g : Int) - 16) = ((g - 16 : Nat) : Int) by rw [w32_i (by omega) (by omega)]; omega]
      refine @p_if _ _ _ _ ?_ ?_
      · intro e
        refine hQ _ (bs_cong (bs_two (by omega)) (fun j => ?_))
        unfold enS
        constructor
        · intro z; exact Or.inr ⟨by omega, by omega, by omega, z, by omega⟩
        · rintro (⟨z, _⟩ | ⟨_, _, z1, z2, _⟩)
          · omega
          · exact z2
      · intro e; exact hQ _ (no (fun q => e (by omega)))
    · intro hlt; exact hQ _ (no (fun q => hlt (by omega)))
end Sa0
