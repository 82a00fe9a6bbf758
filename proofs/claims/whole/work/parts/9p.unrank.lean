/-! a tree by its number -/
def q_find (f : Nat → Nat) : Nat → Nat → Nat → Nat × Nat
  | 0, k, x => (k, x)
  | m + 1, k, x => if x < f k then (k, x) else q_find f m (k + 1) (x - f k)
theorem q_find_ok (f : Nat → Nat) : ∀ m k x, q_sm f k + x < q_sm f (k + m) → k ≤ (q_find f m k x).1 ∧ (q_find f m k x).1 < k + m ∧ (q_find f m k x).2 < f (q_find f m k x).1 ∧ q_sm f k + x = q_sm f (q_find f m k x).1 + (q_find f m k x).2
  | 0, k, x, h => by rw [Nat.add_zero] at h; omega
  | m + 1, k, x, h => by
    by_cases q : x < f k
    · rw [show q_find f (m + 1) k x = (k, x) by show (if _ then _ else _) = _; rw [if_pos q]]
      exact ⟨Nat.le_refl _, by dsimp only; omega, q, rfl⟩
    · rw [show q_find f (m + 1) k x = q_find f m (k + 1) (x - f k) by show (if _ then _ else _) = _; rw [if_neg q]]
      have e : q_sm f (k + 1) = q_sm f k + f k := rfl
      have := q_find_ok f m (k + 1) (x - f k) (by rw [e, show k + 1 + m = k + (m + 1) by omega]; omega)
      refine ⟨by omega, by omega, this.2.2.1, ?_⟩
      rw [← this.2.2.2, e]; omega
def tm (B : Nat → Nat) (s n r : Nat) : Nat := if gon B r = true ∧ gsy B r = s then tR B r 0 n else 0
def ctm (B : Nat → Nat) (r i n k : Nat) : Nat := tb B r i (k + 1) n
abbrev uo := List Nat × List Nat
def u_row (u : Nat → Nat → Nat → uo) (B : Nat → Nat) (r : Nat) : Nat → Nat → Nat → uo
  | 0, _, _ => ([], [])
  | j + 1, n, x =>
    let p := q_find (ctm B r (gsz B r - (j + 1)) n) n 0 x
    let o := tR B r (gsz B r - j) (n - (p.1 + 1))
    ((u (gsg B r (gsz B r - (j + 1))) (p.1 + 1) (p.2 / o)).1 ++ (u_row u B r j (n - (p.1 + 1)) (p.2 % o)).1, (u (gsg B r (gsz B r - (j + 1))) (p.1 + 1) (p.2 / o)).2 ++ (u_row u B r j (n - (p.1 + 1)) (p.2 % o)).2)
def uq_T (B : Nat → Nat) : Nat → Nat → Nat → Nat → uo
  | 0 => fun _ _ _ => ([], [])
  | f + 1 => fun s n x => if s < 8 then ((q_find (tm B s n) (B 0) 0 x).1 :: (u_row (uq_T B f) B (q_find (tm B s n) (B 0) 0 x).1 (gsz B (q_find (tm B s n) (B 0) 0 x).1) n (q_find (tm B s n) (B 0) 0 x).2).1, (u_row (uq_T B f) B (q_find (tm B s n) (B 0) 0 x).1 (gsz B (q_find (tm B s n) (B 0) 0 x).1) n (q_find (tm B s n) (B 0) 0 x).2).2) else ([], [s - 16])
section S9p
variable {B : Nat → Nat} {r i n s x : Nat} {u u' : Nat → Nat → Nat → uo}
/-- the rule that a number chooses -/
theorem u_rule (hW : gW B) (hs : s < 8) (hn : n ≤ 24) (hx : x < tT B s n) : (q_find (tm B s n) (B 0) 0 x).1 < B 0 ∧ gon B (q_find (tm B s n) (B 0) 0 x).1 = true ∧ gsy B (q_find (tm B s n) (B 0) 0 x).1 = s ∧ (q_find (tm B s n) (B 0) 0 x).2 < tR B (q_find (tm B s n) (B 0) 0 x).1 0 n ∧ x = q_sm (tm B s n) (q_find (tm B s n) (B 0) 0 x).1 + (q_find (tm B s n) (B 0) 0 x).2 := by
  rw [tT_sym hW hs hn] at hx
  have hx : x < min (q_sm (tm B s n) (B 0)) tG := hx
  have h := q_find_ok (tm B s n) (B 0) 0 x (by show 0 + x < q_sm _ (0 + B 0); rw [Nat.zero_add, Nat.zero_add]; omega)
  have e0 : q_sm (tm B s n) 0 = 0 := rfl
  obtain ⟨-, h1, h2, h3⟩ := h
  rw [e0, Nat.zero_add] at h3
  rw [Nat.zero_add] at h1
  revert h1 h2 h3
  generalize q_find (tm B s n) (B 0) 0 x = p
  intro h1 h2 h3
  have h2' : p.2 < (if gon B p.1 = true ∧ gsy B p.1 = s then tR B p.1 0 n else 0) := h2
  by_cases q : gon B p.1 = true ∧ gsy B p.1 = s
  · rw [if_pos q] at h2'
    exact ⟨h1, q.1, q.2, h2', h3⟩
  · rw [if_neg q] at h2'; omega
/-- the cut that a number chooses -/
theorem u_cut (hi : i < gsz B r) (hx : x < tR B r i n) : (q_find (ctm B r i n) n 0 x).1 < n ∧ (q_find (ctm B r i n) n 0 x).2 < ctm B r i n (q_find (ctm B r i n) n 0 x).1 ∧ x = q_sm (ctm B r i n) (q_find (ctm B r i n) n 0 x).1 + (q_find (ctm B r i n) n 0 x).2 ∧ 0 < tR B r (i + 1) (n - ((q_find (ctm B r i n) n 0 x).1 + 1)) ∧ (q_find (ctm B r i n) n 0 x).2 / tR B r (i + 1) (n - ((q_find (ctm B r i n) n 0 x).1 + 1)) < tT B (gsg B r i) ((q_find (ctm B r i n) n 0 x).1 + 1) ∧ (i + 1 = gsz B r → (q_find (ctm B r i n) n 0 x).1 + 1 = n) ∧ gsz B r - (i + 1) ≤ n - ((q_find (ctm B r i n) n 0 x).1 + 1) := by
  have hx : x < min (q_sm (fun k => tT B (gsg B r i) (k + 1) * tR B r (i + 1) (n - (k + 1))) n) tG := by rw [← tR_step hi]; exact hx
  have hle : ∀ m, min (q_sm (fun k => tT B (gsg B r i) (k + 1) * tR B r (i + 1) (n - (k + 1))) m) tG ≤ q_sm (ctm B r i n) m := by
    intro m
    induction m with
    | zero => exact Nat.min_le_left _ _
    | succ m ih =>
      show min (q_sm _ m + _ * _) tG ≤ q_sm _ m + ctm B r i n m
      unfold ctm tb at ih ⊢
      omega
  have h := q_find_ok (ctm B r i n) n 0 x (by show 0 + x < q_sm _ (0 + n); rw [Nat.zero_add, Nat.zero_add]; have := hle n; omega)
  have e0 : q_sm (ctm B r i n) 0 = 0 := rfl
  obtain ⟨-, h1, h2, h3⟩ := h
  rw [e0, Nat.zero_add] at h3
  rw [Nat.zero_add] at h1
  revert h1 h2 h3
  generalize q_find (ctm B r i n) n 0 x = p
  intro h1 h2 h3
  have h2' : p.2 < min (tT B (gsg B r i) (p.1 + 1) * tR B r (i + 1) (n - (p.1 + 1))) tG := h2
  have ho : 0 < tR B r (i + 1) (n - (p.1 + 1)) := by
    rcases Nat.eq_zero_or_pos (tR B r (i + 1) (n - (p.1 + 1))) with q | q
    · rw [q, Nat.mul_zero] at h2'; omega
    · exact q
  refine ⟨h1, h2, h3, ho, ?_, fun e => ?_, ?_⟩
  · rw [Nat.div_lt_iff_lt_mul ho]; omega
  · rw [e, tR_end] at ho
    split at ho
    · omega
    · omega
  · rcases Nat.lt_or_ge (n - (p.1 + 1)) (gsz B r - (i + 1)) with q | q
    · rw [tR_0 q] at ho; omega
    · exact q
theorem u_row_s (j : Nat) (hj : j < gsz B r) (u : Nat → Nat → Nat → uo) (n x : Nat) (hi : i + j + 1 = gsz B r) : u_row u B r (j + 1) n x = ((u (gsg B r i) ((q_find (ctm B r i n) n 0 x).1 + 1) ((q_find (ctm B r i n) n 0 x).2 / tR B r (i + 1) (n - ((q_find (ctm B r i n) n 0 x).1 + 1)))).1 ++ (u_row u B r j (n - ((q_find (ctm B r i n) n 0 x).1 + 1)) ((q_find (ctm B r i n) n 0 x).2 % tR B r (i + 1) (n - ((q_find (ctm B r i n) n 0 x).1 + 1)))).1, (u (gsg B r i) ((q_find (ctm B r i n) n 0 x).1 + 1) ((q_find (ctm B r i n) n 0 x).2 / tR B r (i + 1) (n - ((q_find (ctm B r i n) n 0 x).1 + 1)))).2 ++ (u_row u B r j (n - ((q_find (ctm B r i n) n 0 x).1 + 1)) ((q_find (ctm B r i n) n 0 x).2 % tR B r (i + 1) (n - ((q_find (ctm B r i n) n 0 x).1 + 1)))).2) := by
  have e1 : gsz B r - (j + 1) = i := by omega
  have e2 : gsz B r - j = i + 1 := by omega
  show (_, _) = _
  rw [e1, e2]
theorem u_row_cg (j : Nat) : ∀ i n x, i + j = gsz B r → (j = 0 ∨ x < tR B r i n) → (∀ i' k y, i ≤ i' → i' < gsz B r → 1 ≤ k → (k < n ∨ k = n ∧ j = 1) → y < tT B (gsg B r i') k → u (gsg B r i') k y = u' (gsg B r i') k y) → u_row u B r j n x = u_row u' B r j n x := by
  induction j with
  | zero => intro i n x _ _ _; rfl
  | succ j ih =>
    intro i n x hi hx h
    have hx : x < tR B r i n := by omega
    obtain ⟨c1, c2, c3, c4, c5, c6, c7⟩ := u_cut (by omega) hx
    rw [u_row_s j (by omega) u n x (by omega), u_row_s j (by omega) u' n x (by omega), h i _ _ (Nat.le_refl _) (by omega) (by omega) (by omega) c5, ih (i + 1) _ _ (by omega) (Or.inr (Nat.mod_lt _ c4)) (fun i' k y a1 a2 a3 a4 a5 => h i' k y (by omega) a2 a3 (by omega) a5)]
theorem uq_T_st (hW : gW B) {pos : Nat → Nat} (hp : ∀ s, pos s < 8) (hu : ∀ r, r < B 0 → gsz B r = 1 → gsg B r 0 < 8 → pos (gsg B r 0) < pos (gsy B r)) (f : Nat) : ∀ s n x, n ≤ 24 → 8 * n + pos s + 1 ≤ f → x < tT B s n → uq_T B (f + 1) s n x = uq_T B f s n x := by
  induction f with
  | zero => intro s n x _ h; omega
  | succ f ih =>
    intro s n x hn h hx
    by_cases hs : s < 8
    · obtain ⟨c1, c2, c3, c4, c5⟩ := u_rule hW hs hn hx
      have e : u_row (uq_T B (f + 1)) B (q_find (tm B s n) (B 0) 0 x).1 (gsz B (q_find (tm B s n) (B 0) 0 x).1) n (q_find (tm B s n) (B 0) 0 x).2 = u_row (uq_T B f) B (q_find (tm B s n) (B 0) 0 x).1 (gsz B (q_find (tm B s n) (B 0) 0 x).1) n (q_find (tm B s n) (B 0) 0 x).2 := by
        refine u_row_cg _ 0 _ _ (by omega) (Or.inr c4) (fun i' k y a1 a2 a3 a4 a5 => ?_)
        revert c1 c2 c3 c4 c5 a1 a2 a3 a4 a5
        generalize q_find (tm B s n) (B 0) 0 x = p
        intro c1 c2 c3 c4 c5 a1 a2 a3 a4 a5
        by_cases hs' : gsg B p.1 i' < 8
        · refine ih _ _ _ (by omega) ?_ a5
          have := hp (gsg B p.1 i')
          rcases a4 with a4 | ⟨a4, a6⟩
          · omega
          · have e : i' = 0 := by omega
            subst e
            have := hu p.1 c1 a6 hs'
            rw [c3] at this
            omega
        · cases f with
          | zero => omega
          | succ f => show (if _ then _ else _) = (if _ then _ else _); rw [if_neg hs', if_neg hs']
      show (if _ then _ else _) = (if _ then _ else _)
      rw [if_pos hs, if_pos hs, e]
    · show (if _ then _ else _) = (if _ then _ else _)
      rw [if_neg hs, if_neg hs]
def uT (B : Nat → Nat) : Nat → Nat → Nat → uo := uq_T B q_N
def uR (B : Nat → Nat) (r i n x : Nat) : uo := u_row (uT B) B r (gsz B r - i) n x
theorem uT_sym (hW : gW B) (hs : s < 8) (hn : n ≤ 24) (hx : x < tT B s n) : uT B s n x = ((q_find (tm B s n) (B 0) 0 x).1 :: (uR B (q_find (tm B s n) (B 0) 0 x).1 0 n (q_find (tm B s n) (B 0) 0 x).2).1, (uR B (q_find (tm B s n) (B 0) 0 x).1 0 n (q_find (tm B s n) (B 0) 0 x).2).2) := by
  obtain ⟨pos, hp, hu⟩ := hW.2.2.2.2
  have := hp s
  have e := uq_T_st hW hp hu 300 s n x hn (by omega) hx
  show uq_T B 300 s n x = _
  rw [← e]
  show (if _ then _ else _) = _
  rw [if_pos hs]; rfl
theorem uT_let (hs : ¬ s < 8) : uT B s n x = ([], [s - 16]) := by
  show (if _ then _ else _) = _
  rw [if_neg hs]
theorem uR_end : uR B r (gsz B r) n x = ([], []) := by unfold uR; rw [Nat.sub_self]; rfl
theorem uR_step (hi : i < gsz B r) : uR B r i n x = ((uT B (gsg B r i) ((q_find (ctm B r i n) n 0 x).1 + 1) ((q_find (ctm B r i n) n 0 x).2 / tR B r (i + 1) (n - ((q_find (ctm B r i n) n 0 x).1 + 1)))).1 ++ (uR B r (i + 1) (n - ((q_find (ctm B r i n) n 0 x).1 + 1)) ((q_find (ctm B r i n) n 0 x).2 % tR B r (i + 1) (n - ((q_find (ctm B r i n) n 0 x).1 + 1)))).1, (uT B (gsg B r i) ((q_find (ctm B r i n) n 0 x).1 + 1) ((q_find (ctm B r i n) n 0 x).2 / tR B r (i + 1) (n - ((q_find (ctm B r i n) n 0 x).1 + 1)))).2 ++ (uR B r (i + 1) (n - ((q_find (ctm B r i n) n 0 x).1 + 1)) ((q_find (ctm B r i n) n 0 x).2 % tR B r (i + 1) (n - ((q_find (ctm B r i n) n 0 x).1 + 1)))).2) := by
  unfold uR
  rw [show gsz B r - i = (gsz B r - (i + 1)) + 1 by omega]
  exact u_row_s _ (by omega) _ _ _ (by omega)
/-- the last sign has the number as it is -/
theorem uR_last (hi : i + 1 = gsz B r) (hx : x < tR B r i n) : uR B r i n x = uT B (gsg B r i) n x := by
  obtain ⟨c1, c2, c3, c4, c5, c6, c7⟩ := u_cut (by omega) hx
  rw [uR_step (by omega)]
  have e := c6 hi
  have e3 : q_sm (ctm B r i n) (q_find (ctm B r i n) n 0 x).1 = 0 := by
    refine q_sm_0 (fun k hk => ?_)
    unfold ctm tb
    rw [hi, tR_end, if_neg (by omega), Nat.mul_zero]; rfl
  have e2 : (q_find (ctm B r i n) n 0 x).2 = x := by omega
  rw [e, e2, hi, uR_end, tR_end, if_pos (by omega), Nat.div_one]
  show ((uT B (gsg B r i) n x).1 ++ [], (uT B (gsg B r i) n x).2 ++ []) = _
  rw [List.append_nil, List.append_nil]
theorem uR_len (j : Nat) (hn : n ≤ 24) : ∀ i n x, i + j = gsz B r → n ≤ 24 → (j = 0 ∧ n = 0 ∨ x < tR B r i n) → (∀ i' k y, i ≤ i' → i' < gsz B r → 1 ≤ k → (k < n ∨ k = n ∧ j = 1) → y < tT B (gsg B r i') k → (uT B (gsg B r i') k y).2.length = k ∧ (uT B (gsg B r i') k y).1.length + 8 ≤ 16 * k) → (uR B r i n x).2.length = n ∧ (uR B r i n x).1.length + 8 * j ≤ 16 * n := by
  induction j with
  | zero =>
    intro i n x hi hn hx _
    have e : i = gsz B r := by omega
    subst e
    have e0 : n = 0 := by
      rcases hx with h | h
      · exact h.2
      · rw [tR_end] at h; split at h
        · assumption
        · omega
    rw [uR_end]
    exact ⟨e0.symm, Nat.zero_le _⟩
  | succ j ih =>
    intro i n x hi hn hx h
    have hx : x < tR B r i n := by omega
    obtain ⟨c1, c2, c3, c4, c5, c6, c7⟩ := u_cut (by omega) hx
    rw [uR_step (by omega)]
    have h1 := h i _ _ (Nat.le_refl _) (by omega) (by omega) (by omega) c5
    have h2 := ih (i + 1) (n - ((q_find (ctm B r i n) n 0 x).1 + 1)) ((q_find (ctm B r i n) n 0 x).2 % tR B r (i + 1) (n - ((q_find (ctm B r i n) n 0 x).1 + 1))) (by omega) (by omega) (Or.inr (Nat.mod_lt _ c4)) (fun i' k y a1 a2 a3 a4 a5 => h i' k y (by omega) a2 a3 (by omega) a5)
    dsimp only
    rw [List.length_append, List.length_append]
    omega
theorem uT_len0 (hW : gW B) {pos : Nat → Nat} (hp : ∀ s, pos s < 8) (hu : ∀ r, r < B 0 → gsz B r = 1 → gsg B r 0 < 8 → pos (gsg B r 0) < pos (gsy B r)) (N : Nat) : ∀ s n x, n ≤ 24 → 8 * n + pos s + 1 ≤ N → s < 8 → x < tT B s n → (uT B s n x).2.length = n ∧ (uT B s n x).1.length + 15 ≤ 16 * n + pos s := by
  induction N with
  | zero => intro s n x _ h; omega
  | succ N ih =>
    intro s n x hn h hs hx
    obtain ⟨c1, c2, c3, c4, c5⟩ := u_rule hW hs hn hx
    rw [uT_sym hW hs hn hx]
    revert c1 c2 c3 c4 c5
    generalize q_find (tm B s n) (B 0) 0 x = p
    intro c1 c2 c3 c4 c5
    have hz := hW.2.2.2.1 p.1 c1
    by_cases h1 : gsz B p.1 = 1
    · have hn0 : 1 ≤ n := by
        rcases Nat.eq_zero_or_pos n with q | q
        · subst q; rw [tT_nil hW] at hx; omega
        · exact q
      rw [uR_last (by omega) c4]
      rw [tR_last (by omega) hn0] at c4
      rcases hz.2.2.2.2 0 (by omega) with g | g
      · have hlt := hu p.1 c1 h1 g
        rw [c3] at hlt
        have := ih _ n _ hn (by omega) g c4
        dsimp only
        rw [List.length_cons]
        omega
      · rw [tT_let hW (by omega) hn] at c4
        rw [uT_let (by omega)]
        split at c4
        · dsimp only; rw [List.length_cons, List.length_nil, List.length_cons, List.length_nil]; omega
        · omega
    · have q := uR_len (r := p.1) (gsz B p.1) hn 0 n p.2 (by omega) hn (Or.inr c4) (fun i' k y a1 a2 a3 a4 a5 => by
        rcases hz.2.2.2.2 i' a2 with g | g
        · have := hp (gsg B p.1 i')
          have := ih _ k _ (by omega) (by omega) g a5
          omega
        · rw [tT_let hW (by omega) (by omega)] at a5
          rw [uT_let (by omega)]
          split at a5
          · dsimp only; rw [List.length_cons, List.length_nil]; omega
          · omega)
      dsimp only
      rw [List.length_cons]
      omega
theorem uT_len (hW : gW B) (hs : s < 8 ∨ (16 ≤ s ∧ s < 32)) (hn : n ≤ 24) (hx : x < tT B s n) : (uT B s n x).2.length = n ∧ (uT B s n x).1.length + 8 ≤ 16 * n := by
  rcases hs with hs | hs
  · obtain ⟨pos, hp, hu⟩ := hW.2.2.2.2
    have := hp s
    have := uT_len0 hW hp hu 300 s n x hn (by omega) hs hx
    omega
  · rw [tT_let hW (by omega) hn] at hx
    rw [uT_let (by omega)]
    split at hx
    · dsimp only; rw [List.length_cons, List.length_nil]; omega
    · omega
end S9p
