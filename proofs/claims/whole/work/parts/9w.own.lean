/-! what it says that there is a way: rules are used, letters can stand so -/
section S9w
variable {B : Nat → Nat} {x : Nat → Nat} {r i a n s k : Nat}
theorem n_mul_pos {a b : Nat} : 0 < a * b ↔ 0 < a ∧ 0 < b := by
  constructor
  · intro h
    refine ⟨?_, ?_⟩
    · rcases Nat.eq_zero_or_pos a with q | q
      · subst q; rw [Nat.zero_mul] at h; omega
      · exact q
    · rcases Nat.eq_zero_or_pos b with q | q
      · subst q; rw [Nat.mul_zero] at h; omega
      · exact q
  · rintro ⟨h1, h2⟩; exact Nat.mul_pos h1 h2
theorem wC_pos {v : Nat} : 0 < min v wC ↔ 0 < v := by unfold wC; omega
theorem wT_pos (hW : gW B) (hs : s < 8) (hn : n ≤ 24) : 0 < wT B x s a n ↔ ∃ r, r < B 0 ∧ gon B r = true ∧ gsy B r = s ∧ 0 < wR B x r 0 a n := by
  rw [wT_sym hW hs hn, wC_pos, q_sm_pos]
  constructor
  · rintro ⟨k, hk, h⟩
    unfold wm at h
    split at h
    · next q => exact ⟨k, hk, q.1, q.2, h⟩
    · omega
  · rintro ⟨k, hk, h1, h2, h3⟩
    refine ⟨k, hk, ?_⟩
    unfold wm
    rw [if_pos ⟨h1, h2⟩]; exact h3
theorem wk_pos : 0 < wk B x r i a n k ↔ 0 < wT B x (gsg B r i) a (k + 1) ∧ 0 < wR B x r (i + 1) (a + (k + 1)) (n - (k + 1)) := by
  unfold wk; exact n_mul_pos
theorem wR_pos (hi : i < gsz B r) : 0 < wR B x r i a n ↔ ∃ k, k < n ∧ 0 < wT B x (gsg B r i) a (k + 1) ∧ 0 < wR B x r (i + 1) (a + (k + 1)) (n - (k + 1)) := by
  rw [wR_step hi, wC_pos, q_sm_pos]
  constructor
  · rintro ⟨k, hk, h⟩; exact ⟨k, hk, wk_pos.mp h⟩
  · rintro ⟨k, hk, h⟩; exact ⟨k, hk, wk_pos.mpr h⟩
theorem wR_len (h : 0 < wR B x r i a n) : gsz B r - i ≤ n := by
  rcases Nat.lt_or_ge n (gsz B r - i) with q | q
  · rw [wR_0 q] at h; omega
  · exact q
/-- each sign of a row that makes something makes something -/
theorem q_row_all {C : Nat} {t : Nat → Nat → Nat → Nat} (j : Nat) : ∀ a n, j ≤ gsz B r → 0 < q_row C t B r j a n → ∀ i, gsz B r - j ≤ i → i < gsz B r → ∃ a' k, 0 < t (gsg B r i) a' k := by
  induction j with
  | zero => intro a n _ _ i h1 h2; omega
  | succ j ih =>
    intro a n hj h i h1 h2
    have h : 0 < min (q_sm (fun k => t (gsg B r (gsz B r - (j + 1))) a (k + 1) * q_row C t B r j (a + (k + 1)) (n - (k + 1))) n) C := h
    obtain ⟨k, hk, hp⟩ := q_sm_pos.mp (Nat.lt_of_lt_of_le h (Nat.min_le_left _ _))
    have hp : 0 < t (gsg B r (gsz B r - (j + 1))) a (k + 1) * q_row C t B r j (a + (k + 1)) (n - (k + 1)) := hp
    obtain ⟨hp1, hp2⟩ := n_mul_pos.mp hp
    by_cases e : i = gsz B r - (j + 1)
    · subst e; exact ⟨_, _, hp1⟩
    · exact ih _ _ (by omega) hp2 i (by omega) h2
theorem q_T_good {C : Nat} {L : Nat → Nat → Nat} (hC : 1 ≤ C) (f : Nat) : ∀ s a n, s < 8 → 0 < q_T C L B f s a n → gGood B s := by
  induction f with
  | zero => intro s a n _ h; exact absurd h (Nat.lt_irrefl 0)
  | succ f ih =>
    intro s a n hs h
    have h : 0 < q_one C L B (q_T C L B f) s a n := h
    unfold q_one at h
    rw [if_pos hs] at h
    obtain ⟨r, hr, hp⟩ := q_sm_pos.mp (Nat.lt_of_lt_of_le h (Nat.min_le_left _ _))
    split at hp
    · next q =>
      rw [← q.2]
      refine gGood_in hr ⟨q.1, fun i hi h8 => ?_⟩
      obtain ⟨a', k, hk⟩ := q_row_all _ _ _ (Nat.le_refl _) hp i (by omega) hi
      exact ih _ _ _ h8 hk
    · omega
theorem wT_good (hs : s < 8) (h : 0 < wT B x s a n) : gGood B s := q_T_good (by decide) _ _ _ _ hs h
theorem wR_all (h : 0 < wR B x r 0 a n) : gAll B (gGood B) r := by
  intro i hi h8
  have h : 0 < q_row wC (q_T wC (wL x) B q_N) B r (gsz B r - 0) a n := h
  obtain ⟨a', k, hk⟩ := q_row_all _ _ _ (by omega) h i (by omega) hi
  exact q_T_good (by decide) _ _ _ _ h8 hk
/-- a rule by which a symbol that is come to makes something is used -/
theorem wR_usd (hr : r < B 0) (ho : gon B r = true) (hc : gRch B (gsy B r)) (h : 0 < wR B x r 0 a n) : gUsd B r := ⟨hr, ⟨ho, wR_all h⟩, hc⟩
theorem usd_sg (h : gUsd B r) (hi : i < gsz B r) (h8 : gsg B r i < 8) : gRch B (gsg B r i) := gRch_in h.1 h.2.1 h.2.2 hi h8
theorem wT_pos_u (hW : gW B) (hs : s < 8) (hc : gRch B s) (hn : n ≤ 24) : 0 < wT B x s a n ↔ ∃ r, gUsd B r ∧ gsy B r = s ∧ 0 < wR B x r 0 a n := by
  rw [wT_pos hW hs hn]
  constructor
  · rintro ⟨r, h1, h2, h3, h4⟩; exact ⟨r, wR_usd h1 h2 (by rw [h3]; exact hc) h4, h3, h4⟩
  · rintro ⟨r, h1, h3, h4⟩; exact ⟨r, h1.1, h1.2.1.1, h3, h4⟩
/-- what letters stand at the ends and side by side -/
def lsd (B x : Nat → Nat) (s a n : Nat) : Prop := gEs B (e0 B) s (x a) ∧ gEs B (e1 B) s (x (a + n - 1)) ∧ ∀ j, a ≤ j → j + 1 < a + n → gBes B (x j) (x (j + 1))
theorem row_lsd (hr : gUsd B r) (j : Nat) : ∀ i a n, i + j + 1 = gsz B r → 0 < wR B x r i a n → (∀ i' a' k, i ≤ i' → i' < gsz B r → 0 < wT B x (gsg B r i') a' (k + 1) → (k + 1 < n ∨ k + 1 = n ∧ j = 0) → lsd B x (gsg B r i') a' (k + 1)) → gEs B (e0 B) (gsg B r i) (x a) ∧ gEs B (e1 B) (gsg B r (gsz B r - 1)) (x (a + n - 1)) ∧ ∀ j, a ≤ j → j + 1 < a + n → gBes B (x j) (x (j + 1)) := by
  induction j with
  | zero =>
    intro i a n hi h hs
    obtain ⟨k, hk, h1, h2⟩ := (wR_pos (by omega)).mp h
    rw [show i + 1 = gsz B r by omega, wR_end] at h2
    have e : k + 1 = n := by
      split at h2
      · omega
      · omega
    have q := hs i a k (Nat.le_refl _) (by omega) h1 (by omega)
    rw [e] at q
    rw [show gsz B r - 1 = i by omega]
    exact q
  | succ j ih =>
    intro i a n hi h hs
    obtain ⟨k, hk, h1, h2⟩ := (wR_pos (by omega)).mp h
    have hl := wR_len h2
    have q := hs i a k (Nat.le_refl _) (by omega) h1 (by omega)
    have q2 := ih (i + 1) (a + (k + 1)) (n - (k + 1)) (by omega) h2 (fun i' a' k' a1 a2 a3 a4 => hs i' a' k' (by omega) a2 a3 (by omega))
    refine ⟨q.1, ?_, fun m h3 h4 => ?_⟩
    · have := q2.2.1
      rw [show a + (k + 1) + (n - (k + 1)) - 1 = a + n - 1 by omega] at this; exact this
    · rcases Nat.lt_trichotomy (m + 1) (a + (k + 1)) with g | g | g
      · exact q.2.2 m h3 g
      · refine ⟨r, i, hr, by omega, ?_, ?_⟩
        · have := q.2.1
          rw [show a + (k + 1) - 1 = m by omega] at this; exact this
        · rw [g]; exact q2.1
      · exact q2.2.2 m (by omega) (by omega)
theorem wT_lsd0 (hW : gW B) {pos : Nat → Nat} (hp : ∀ s, pos s < 8) (hu : ∀ r, r < B 0 → gsz B r = 1 → gsg B r 0 < 8 → pos (gsg B r 0) < pos (gsy B r)) (N : Nat) : ∀ s a n, n ≤ 24 → 8 * n + pos s + 1 ≤ N → s < 8 → gRch B s → 0 < wT B x s a n → lsd B x s a n := by
  induction N with
  | zero => intro s a n _ h; omega
  | succ N ih =>
    intro s a n hn hN hs hc h
    obtain ⟨r, hr, hy, hR⟩ := (wT_pos_u hW hs hc hn).mp h
    have hz := hW.2.2.2.1 r hr.1
    have q := row_lsd (x := x) hr (gsz B r - 1) 0 a n (by omega) hR (fun i' a' k a1 a2 a3 a4 => by
      rcases hz.2.2.2.2 i' a2 with g | g
      · refine ih _ _ _ (by omega) ?_ g (usd_sg hr a2 g) a3
        have := hp (gsg B r i')
        rcases a4 with a4 | ⟨a4, a5⟩
        · omega
        · have e : i' = 0 := by omega
          subst e
          have := hu r hr.1 (by omega) g
          rw [hy] at this
          omega
      · rw [wT_let hW (by omega) (by omega)] at a3
        split at a3
        · next e =>
          have e : k = 0 := by omega
          subst e
          unfold wL at a3
          have e2 : x a' = gsg B r i' - 16 := by
            split at a3
            · assumption
            · omega
          exact ⟨Or.inl (by omega), Or.inl (by rw [show a' + (0 + 1) - 1 = a' by omega]; omega), fun m h1 h2 => by omega⟩
        · omega)
    have hr1 := hr.1
    refine ⟨Or.inr ⟨hs, ?_⟩, Or.inr ⟨hs, ?_⟩, q.2.2⟩
    · rw [← hy]; exact gE_in (e := e0 B) hr.1 hr.2.1 q.1
    · rw [← hy]; exact gE_in (e := e1 B) hr.1 hr.2.1 q.2.1
theorem wT_lsd (hW : gW B) (hs : s < 8) (hc : gRch B s) (hn : n ≤ 24) (h : 0 < wT B x s a n) : lsd B x s a n := by
  obtain ⟨pos, hp, hu⟩ := hW.2.2.2.2
  have := hp s
  exact wT_lsd0 hW hp hu 300 s a n hn (by omega) hs hc h
end S9w
/-! the own tree of a span, its number -/
def q_fst (f : Nat → Nat) : Nat → Nat → Nat
  | 0, k => k
  | m + 1, k => if 0 < f k then k else q_fst f m (k + 1)
theorem q_fst_ok (f : Nat → Nat) : ∀ m k, (∃ j, k ≤ j ∧ j < k + m ∧ 0 < f j) → k ≤ q_fst f m k ∧ q_fst f m k < k + m ∧ 0 < f (q_fst f m k) ∧ ∀ j, k ≤ j → j < q_fst f m k → f j = 0
  | 0, k, ⟨j, h1, h2, _⟩ => by omega
  | m + 1, k, ⟨j, h1, h2, h3⟩ => by
    by_cases q : 0 < f k
    · rw [show q_fst f (m + 1) k = k by show (if _ then _ else _) = _; rw [if_pos q]]
      exact ⟨Nat.le_refl _, by omega, q, fun j h4 h5 => by omega⟩
    · rw [show q_fst f (m + 1) k = q_fst f m (k + 1) by show (if _ then _ else _) = _; rw [if_neg q]]
      have hne : j ≠ k := fun e => by subst e; exact q h3
      have := q_fst_ok f m (k + 1) ⟨j, by omega, by omega, h3⟩
      refine ⟨by omega, by omega, this.2.2.1, fun j h4 h5 => ?_⟩
      by_cases e : j = k
      · subst e; omega
      · exact this.2.2.2 j (by omega) h5
theorem q_fst_eq {f : Nat → Nat} {m j : Nat} (h1 : j < m) (h2 : 0 < f j) (h3 : ∀ i, i < j → f i = 0) : q_fst f m 0 = j := by
  have := q_fst_ok f m 0 ⟨j, Nat.zero_le _, by omega, h2⟩
  rcases Nat.lt_trichotomy (q_fst f m 0) j with g | g | g
  · rw [h3 _ g] at this; omega
  · exact g
  · have := this.2.2.2 j (Nat.zero_le _) g; omega
abbrev nd := Nat × Nat × Nat
abbrev yo := List nd × Nat
def cu (B x : Nat → Nat) (r i a n : Nat) : Nat := q_fst (wk B x r i a n) n 0
def ru (B x : Nat → Nat) (s a n : Nat) : Nat := q_fst (wm B x s a n) (B 0) 0
def y_row (u : Nat → Nat → Nat → yo) (B x : Nat → Nat) (r : Nat) : Nat → Nat → Nat → yo
  | 0, _, _ => ([], 0)
  | j + 1, a, n =>
    ((u (gsg B r (gsz B r - (j + 1))) a (cu B x r (gsz B r - (j + 1)) a n + 1)).1 ++ (y_row u B x r j (a + (cu B x r (gsz B r - (j + 1)) a n + 1)) (n - (cu B x r (gsz B r - (j + 1)) a n + 1))).1,
     q_sm (ctm B r (gsz B r - (j + 1)) n) (cu B x r (gsz B r - (j + 1)) a n) + min ((u (gsg B r (gsz B r - (j + 1))) a (cu B x r (gsz B r - (j + 1)) a n + 1)).2 * tR B r (gsz B r - j) (n - (cu B x r (gsz B r - (j + 1)) a n + 1))) tG + (y_row u B x r j (a + (cu B x r (gsz B r - (j + 1)) a n + 1)) (n - (cu B x r (gsz B r - (j + 1)) a n + 1))).2)
def yq_T (B x : Nat → Nat) : Nat → Nat → Nat → Nat → yo
  | 0 => fun _ _ _ => ([], 0)
  | f + 1 => fun s a n => if s < 8 then ((ru B x s a n, a, n) :: (y_row (yq_T B x f) B x (ru B x s a n) (gsz B (ru B x s a n)) a n).1, min (q_sm (tm B s n) (ru B x s a n) + (y_row (yq_T B x f) B x (ru B x s a n) (gsz B (ru B x s a n)) a n).2) tG) else ([], 0)
section S9w2
variable {B : Nat → Nat} {x y : Nat → Nat} {r i a n s : Nat} {u u' : Nat → Nat → Nat → yo}
theorem ru_ok (hW : gW B) (hs : s < 8) (hn : n ≤ 24) (h : 0 < wT B x s a n) : ru B x s a n < B 0 ∧ gon B (ru B x s a n) = true ∧ gsy B (ru B x s a n) = s ∧ 0 < wR B x (ru B x s a n) 0 a n ∧ ∀ r, r < ru B x s a n → wm B x s a n r = 0 := by
  obtain ⟨r, h1, h2, h3, h4⟩ := (wT_pos hW hs hn).mp h
  have q := q_fst_ok (wm B x s a n) (B 0) 0 ⟨r, Nat.zero_le _, by omega, by unfold wm; rw [if_pos ⟨h2, h3⟩]; exact h4⟩
  have q3 := q.2.2.1
  have e : q_fst (wm B x s a n) (B 0) 0 = ru B x s a n := rfl
  rw [e] at q q3
  unfold wm at q3
  split at q3
  · next g => exact ⟨by omega, g.1, g.2, q3, fun r hr => q.2.2.2 r (Nat.zero_le _) hr⟩
  · omega
theorem cu_ok (hi : i < gsz B r) (h : 0 < wR B x r i a n) : cu B x r i a n < n ∧ 0 < wT B x (gsg B r i) a (cu B x r i a n + 1) ∧ 0 < wR B x r (i + 1) (a + (cu B x r i a n + 1)) (n - (cu B x r i a n + 1)) ∧ (i + 1 = gsz B r → cu B x r i a n + 1 = n) ∧ gsz B r - (i + 1) ≤ n - (cu B x r i a n + 1) ∧ ∀ k, k < cu B x r i a n → wk B x r i a n k = 0 := by
  obtain ⟨k, h1, h2⟩ := (wR_pos hi).mp h
  have q := q_fst_ok (wk B x r i a n) n 0 ⟨k, Nat.zero_le _, by omega, wk_pos.mpr h2⟩
  have e : q_fst (wk B x r i a n) n 0 = cu B x r i a n := rfl
  rw [e] at q
  have q3 := wk_pos.mp q.2.2.1
  refine ⟨by omega, q3.1, q3.2, fun e => ?_, wR_len q3.2, fun k hk => q.2.2.2 k (Nat.zero_le _) hk⟩
  have q4 := q3.2
  rw [e, wR_end] at q4
  split at q4
  · omega
  · omega
theorem y_row_s (j : Nat) (u : Nat → Nat → Nat → yo) (a n : Nat) (hi : i + j + 1 = gsz B r) : y_row u B x r (j + 1) a n = ((u (gsg B r i) a (cu B x r i a n + 1)).1 ++ (y_row u B x r j (a + (cu B x r i a n + 1)) (n - (cu B x r i a n + 1))).1, q_sm (ctm B r i n) (cu B x r i a n) + min ((u (gsg B r i) a (cu B x r i a n + 1)).2 * tR B r (i + 1) (n - (cu B x r i a n + 1))) tG + (y_row u B x r j (a + (cu B x r i a n + 1)) (n - (cu B x r i a n + 1))).2) := by
  have e1 : gsz B r - (j + 1) = i := by omega
  have e2 : gsz B r - j = i + 1 := by omega
  show (_, _) = _
  rw [e1, e2]
theorem y_row_cg (j : Nat) : ∀ i a n, i + j = gsz B r → (j = 0 ∨ 0 < wR B x r i a n) → (∀ i' a' k, i ≤ i' → i' < gsz B r → (k + 1 < n ∨ k + 1 = n ∧ j = 1) → 0 < wT B x (gsg B r i') a' (k + 1) → u (gsg B r i') a' (k + 1) = u' (gsg B r i') a' (k + 1)) → y_row u B x r j a n = y_row u' B x r j a n := by
  induction j with
  | zero => intro i a n _ _ _; rfl
  | succ j ih =>
    intro i a n hi hx h
    have hx : 0 < wR B x r i a n := by omega
    obtain ⟨c1, c2, c3, c4, c5, c6⟩ := cu_ok (by omega) hx
    rw [y_row_s j u a n (by omega), y_row_s j u' a n (by omega), h i a _ (Nat.le_refl _) (by omega) (by omega) c2, ih (i + 1) _ _ (by omega) (Or.inr c3) (fun i' a' k a1 a2 a3 a4 => h i' a' k (by omega) a2 (by omega) a4)]
theorem yq_T_st (hW : gW B) {pos : Nat → Nat} (hp : ∀ s, pos s < 8) (hu : ∀ r, r < B 0 → gsz B r = 1 → gsg B r 0 < 8 → pos (gsg B r 0) < pos (gsy B r)) (f : Nat) : ∀ s a n, n ≤ 24 → 8 * n + pos s + 1 ≤ f → 0 < wT B x s a n → yq_T B x (f + 1) s a n = yq_T B x f s a n := by
  induction f with
  | zero => intro s a n _ h; omega
  | succ f ih =>
    intro s a n hn h hx
    by_cases hs : s < 8
    · obtain ⟨c1, c2, c3, c4, c5⟩ := ru_ok hW hs hn hx
      have e : y_row (yq_T B x (f + 1)) B x (ru B x s a n) (gsz B (ru B x s a n)) a n = y_row (yq_T B x f) B x (ru B x s a n) (gsz B (ru B x s a n)) a n := by
        refine y_row_cg _ 0 _ _ (by omega) (Or.inr c4) (fun i' a' k a1 a2 a3 a4 => ?_)
        revert c1 c2 c3 c4 c5 a1 a2 a3 a4
        generalize ru B x s a n = p
        intro c1 c2 c3 c4 c5 a1 a2 a3 a4
        by_cases hs' : gsg B p i' < 8
        · refine ih _ _ _ (by omega) ?_ a4
          have := hp (gsg B p i')
          rcases a3 with a3 | ⟨a3, a6⟩
          · omega
          · have e : i' = 0 := by omega
            subst e
            have := hu p c1 a6 hs'
            rw [c3] at this
            omega
        · cases f with
          | zero => omega
          | succ f => show (if _ then _ else _) = (if _ then _ else _); rw [if_neg hs', if_neg hs']
      show (if _ then _ else _) = (if _ then _ else _)
      rw [if_pos hs, if_pos hs, e]
    · show (if _ then _ else _) = (if _ then _ else _)
      rw [if_neg hs, if_neg hs]
def yT (B x : Nat → Nat) : Nat → Nat → Nat → yo := yq_T B x q_N
def yR' (B x : Nat → Nat) (r i a n : Nat) : yo := y_row (yT B x) B x r (gsz B r - i) a n
theorem yT_sym (hW : gW B) (hs : s < 8) (hn : n ≤ 24) (h : 0 < wT B x s a n) : yT B x s a n = ((ru B x s a n, a, n) :: (yR' B x (ru B x s a n) 0 a n).1, min (q_sm (tm B s n) (ru B x s a n) + (yR' B x (ru B x s a n) 0 a n).2) tG) := by
  obtain ⟨pos, hp, hu⟩ := hW.2.2.2.2
  have := hp s
  have e := yq_T_st hW hp hu 300 s a n hn (by omega) h
  show yq_T B x 300 s a n = _
  rw [← e]
  show (if _ then _ else _) = _
  rw [if_pos hs]; rfl
theorem yT_let (hs : ¬ s < 8) : yT B x s a n = ([], 0) := by
  show (if _ then _ else _) = _
  rw [if_neg hs]
theorem yR_end : yR' B x r (gsz B r) a n = ([], 0) := by unfold yR'; rw [Nat.sub_self]; rfl
theorem yR_step (hi : i < gsz B r) : yR' B x r i a n = ((yT B x (gsg B r i) a (cu B x r i a n + 1)).1 ++ (yR' B x r (i + 1) (a + (cu B x r i a n + 1)) (n - (cu B x r i a n + 1))).1, q_sm (ctm B r i n) (cu B x r i a n) + min ((yT B x (gsg B r i) a (cu B x r i a n + 1)).2 * tR B r (i + 1) (n - (cu B x r i a n + 1))) tG + (yR' B x r (i + 1) (a + (cu B x r i a n + 1)) (n - (cu B x r i a n + 1))).2) := by
  unfold yR'
  rw [show gsz B r - i = (gsz B r - (i + 1)) + 1 by omega]
  exact y_row_s _ _ _ _ (by omega)
theorem yT_le (hW : gW B) (hs : s < 8 ∨ 16 ≤ s) (hn : n ≤ 24) (h : 0 < wT B x s a n) : (yT B x s a n).2 ≤ tG := by
  rcases hs with hs | hs
  · rw [yT_sym hW hs hn h]; exact Nat.min_le_right _ _
  · rw [yT_let (by omega)]; exact Nat.zero_le _
/-- how many nodes -/
theorem yR_len (j : Nat) : ∀ i a n, i + j = gsz B r → (j = 0 ∨ 0 < wR B x r i a n) → (∀ i' a' k, i ≤ i' → i' < gsz B r → (k + 1 < n ∨ k + 1 = n ∧ j = 1) → 0 < wT B x (gsg B r i') a' (k + 1) → (yT B x (gsg B r i') a' (k + 1)).1.length + 8 ≤ 16 * (k + 1)) → (yR' B x r i a n).1.length + 8 * j ≤ 16 * n := by
  induction j with
  | zero =>
    intro i a n hi hx _
    have e : i = gsz B r := by omega
    subst e
    rw [yR_end]
    exact Nat.zero_le _
  | succ j ih =>
    intro i a n hi hx h
    have hx : 0 < wR B x r i a n := by omega
    obtain ⟨c1, c2, c3, c4, c5, c6⟩ := cu_ok (by omega) hx
    rw [yR_step (by omega)]
    have h1 := h i a _ (Nat.le_refl _) (by omega) (by omega) c2
    have h2 := ih (i + 1) (a + (cu B x r i a n + 1)) (n - (cu B x r i a n + 1)) (by omega) (Or.inr c3) (fun i' a' k a1 a2 a3 a4 => h i' a' k (by omega) a2 (by omega) a4)
    dsimp only
    rw [List.length_append]
    omega
theorem yT_len0 (hW : gW B) {pos : Nat → Nat} (hp : ∀ s, pos s < 8) (hu : ∀ r, r < B 0 → gsz B r = 1 → gsg B r 0 < 8 → pos (gsg B r 0) < pos (gsy B r)) (N : Nat) : ∀ s a n, n ≤ 24 → 8 * n + pos s + 1 ≤ N → s < 8 → 0 < wT B x s a n → (yT B x s a n).1.length + 15 ≤ 16 * n + pos s := by
  induction N with
  | zero => intro s a n _ h; omega
  | succ N ih =>
    intro s a n hn h hs hx
    obtain ⟨c1, c2, c3, c4, c5⟩ := ru_ok hW hs hn hx
    rw [yT_sym hW hs hn hx]
    revert c1 c2 c3 c4 c5
    generalize ru B x s a n = p
    intro c1 c2 c3 c4 c5
    have hz := hW.2.2.2.1 p c1
    by_cases h1 : gsz B p = 1
    · obtain ⟨d1, d2, d3, d4, d5, d6⟩ := cu_ok (by omega) c4
      have e := d4 (by omega)
      rw [yR_step (by omega), show 0 + 1 = gsz B p by omega, yR_end, e]
      rw [e] at d2
      rcases hz.2.2.2.2 0 (by omega) with g | g
      · have hlt := hu p c1 h1 g
        rw [c3] at hlt
        have := ih _ a n hn (by omega) g d2
        dsimp only
        rw [List.length_cons, List.append_nil]
        omega
      · rw [yT_let (by omega)]
        dsimp only
        rw [List.length_cons, List.append_nil, List.length_nil]; omega
    · have q := yR_len (r := p) (gsz B p) 0 a n (by omega) (Or.inr c4) (fun i' a' k a1 a2 a3 a4 => by
        rcases hz.2.2.2.2 i' a2 with g | g
        · have := hp (gsg B p i')
          have := ih _ a' (k + 1) (by omega) (by omega) g a4
          omega
        · rw [yT_let (by omega)]
          dsimp only; rw [List.length_nil]; omega)
      dsimp only
      rw [List.length_cons]
      omega
theorem yT_len (hW : gW B) (hn : n ≤ 24) (h1 : 1 ≤ n) (h : 0 < wT B x s a n) : (yT B x s a n).1.length + 8 ≤ 16 * n := by
  by_cases hs : s < 8
  · obtain ⟨pos, hp, hu⟩ := hW.2.2.2.2
    have := hp s
    have := yT_len0 hW hp hu 300 s a n hn (by omega) hs h
    omega
  · rw [yT_let hs]; dsimp only; rw [List.length_nil]; omega
end S9w2
