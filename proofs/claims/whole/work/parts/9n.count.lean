/-! one count for trees and for ways: capped sums over rules and cuts -/
def q_sm (f : Nat → Nat) : Nat → Nat
  | 0 => 0
  | n + 1 => q_sm f n + f n
theorem q_sm_cg {f g : Nat → Nat} : ∀ {n : Nat}, (∀ k, k < n → f k = g k) → q_sm f n = q_sm g n
  | 0, _ => rfl
  | n + 1, h => by show q_sm f n + f n = q_sm g n + g n; rw [q_sm_cg (fun k hk => h k (by omega)), h n (by omega)]
theorem q_sm_0 {f : Nat → Nat} : ∀ {n : Nat}, (∀ k, k < n → f k = 0) → q_sm f n = 0
  | 0, _ => rfl
  | n + 1, h => by show q_sm f n + f n = 0; rw [q_sm_0 (fun k hk => h k (by omega)), h n (by omega)]
theorem q_sm_pos {f : Nat → Nat} : ∀ {n : Nat}, 0 < q_sm f n ↔ ∃ k, k < n ∧ 0 < f k
  | 0 => ⟨fun h => absurd h (Nat.lt_irrefl 0), fun ⟨k, hk, _⟩ => absurd hk (Nat.not_lt_zero k)⟩
  | n + 1 => by
    show 0 < q_sm f n + f n ↔ _
    constructor
    · intro h
      by_cases q : 0 < f n
      · exact ⟨n, by omega, q⟩
      · obtain ⟨k, hk, hf⟩ := q_sm_pos.mp (show 0 < q_sm f n by omega)
        exact ⟨k, by omega, hf⟩
    · rintro ⟨k, hk, hf⟩
      by_cases q : k = n
      · subst q; omega
      · have : 0 < q_sm f n := q_sm_pos.mpr ⟨k, by omega, hf⟩
        omega
theorem q_sm_le {f : Nat → Nat} : ∀ {n k : Nat}, k ≤ n → q_sm f k ≤ q_sm f n
  | 0, k, h => by rw [show k = 0 by omega]; exact Nat.le_refl _
  | n + 1, k, h => by
    by_cases q : k = n + 1
    · rw [q]; exact Nat.le_refl _
    · exact Nat.le_trans (q_sm_le (show k ≤ n by omega)) (Nat.le_add_right _ _)
/-- what stands behind gives nothing -/
theorem q_sm_cut {f : Nat → Nat} {m : Nat} : ∀ {n : Nat}, m ≤ n → (∀ k, m ≤ k → k < n → f k = 0) → q_sm f n = q_sm f m
  | 0, h, _ => by rw [show m = 0 by omega]
  | n + 1, h, hz => by
    by_cases q : m = n + 1
    · rw [q]
    · show q_sm f n + f n = _
      rw [q_sm_cut (show m ≤ n by omega) (fun k h1 h2 => hz k h1 (by omega)), hz n (by omega) (by omega)]; rfl
/-- capped as it goes, or at the end -/
theorem q_cap (a b C : Nat) : min (min a C + b) C = min (a + b) C := by omega
theorem q_cap2 (a b C : Nat) : min (min a C + min b C) C = min (a + b) C := by omega
def q_row (C : Nat) (t : Nat → Nat → Nat → Nat) (B : Nat → Nat) (r : Nat) : Nat → Nat → Nat → Nat
  | 0, _, n => if n = 0 then 1 else 0
  | j + 1, a, n => min (q_sm (fun k => t (gsg B r (gsz B r - (j + 1))) a (k + 1) * q_row C t B r j (a + (k + 1)) (n - (k + 1))) n) C
def q_one (C : Nat) (L : Nat → Nat → Nat) (B : Nat → Nat) (t : Nat → Nat → Nat → Nat) (s a n : Nat) : Nat := if s < 8 then min (q_sm (fun r => if gon B r = true ∧ gsy B r = s then q_row C t B r (gsz B r) a n else 0) (B 0)) C else if n = 1 then L s a else 0
def q_T (C : Nat) (L : Nat → Nat → Nat) (B : Nat → Nat) : Nat → Nat → Nat → Nat → Nat
  | 0 => fun _ _ _ => 0
  | f + 1 => q_one C L B (q_T C L B f)
section S9n
variable {C : Nat} {L : Nat → Nat → Nat} {B : Nat → Nat} {t t' : Nat → Nat → Nat → Nat} {r : Nat}
theorem q_row_0 (j a n : Nat) (h : n < j) : q_row C t B r j a n = 0 := by
  induction j generalizing a n with
  | zero => omega
  | succ j ih =>
    show min (q_sm _ n) C = 0
    rw [q_sm_0]
    · omega
    · intro k hk
      show _ * q_row C t B r j _ _ = 0
      rw [ih _ _ (by omega), Nat.mul_zero]
theorem q_row_cg (j : Nat) : ∀ a n, j ≤ gsz B r → (∀ i a' k, gsz B r - j ≤ i → i < gsz B r → (k < n ∨ k = n ∧ j = 1) → t (gsg B r i) a' k = t' (gsg B r i) a' k) → q_row C t B r j a n = q_row C t' B r j a n := by
  induction j with
  | zero => intro a n _ _; rfl
  | succ j ih =>
    intro a n hj h
    show min (q_sm _ n) C = min (q_sm _ n) C
    rw [q_sm_cg]
    intro k hk
    show t _ _ _ * q_row C t B r j _ _ = t' _ _ _ * q_row C t' B r j _ _
    by_cases q : k + 1 = n ∧ 0 < j
    · rw [q_row_0 (t := t) j _ _ (by omega), q_row_0 (t := t') j _ _ (by omega), Nat.mul_zero, Nat.mul_zero]
    · rw [h _ _ (k + 1) (by omega) (by omega) (by omega), ih _ _ (by omega)]
      intro i a' k' h1 h2 h3
      exact h i a' k' (by omega) h2 (by omega)
theorem q_T_st {pos : Nat → Nat} (hp : ∀ s, pos s < 8) (hu : ∀ r, r < B 0 → gsz B r = 1 → gsg B r 0 < 8 → pos (gsg B r 0) < pos (gsy B r)) (f : Nat) : ∀ s a n, 8 * n + pos s + 1 ≤ f → q_T C L B (f + 1) s a n = q_T C L B f s a n := by
  induction f with
  | zero => intro s a n h; omega
  | succ f ih =>
    intro s a n h
    show q_one C L B (q_T C L B (f + 1)) s a n = q_one C L B (q_T C L B f) s a n
    unfold q_one
    by_cases hs : s < 8
    · rw [if_pos hs, if_pos hs, q_sm_cg]
      intro r hr
      show (if _ then _ else 0) = (if _ then _ else 0)
      by_cases ho : gon B r = true ∧ gsy B r = s
      · rw [if_pos ho, if_pos ho]
        refine q_row_cg _ _ _ (Nat.le_refl _) (fun i a' k h1 h2 h3 => ?_)
        by_cases hs' : gsg B r i < 8
        · refine ih _ _ _ ?_
          have := hp (gsg B r i)
          rcases h3 with h3 | ⟨h3, h4⟩
          · omega
          · have e : i = 0 := by omega
            subst e
            have := hu r hr h4 hs'
            rw [ho.2] at this
            omega
        · cases f with
          | zero =>
            have e : k = 0 := by omega
            subst e
            show q_one _ _ _ _ _ _ _ = 0
            unfold q_one; rw [if_neg hs']; rfl
          | succ f => show q_one _ _ _ _ _ _ _ = q_one _ _ _ _ _ _ _; unfold q_one; rw [if_neg hs', if_neg hs']
      · rw [if_neg ho, if_neg ho]
    · rw [if_neg hs, if_neg hs]
/-- the count: enough rounds -/
def q_N : Nat := 300
theorem q_T_eq (hW : gW B) {s a n : Nat} (hn : n ≤ 24) : q_T C L B q_N s a n = q_one C L B (q_T C L B q_N) s a n := by
  obtain ⟨pos, hp, hu⟩ := hW.2.2.2.2
  have := hp s
  exact (q_T_st hp hu 300 s a n (by omega)).symm
theorem q_row_le (j a n : Nat) (hC : 1 ≤ C) : q_row C t B r j a n ≤ C := by
  cases j with
  | zero => show (if _ then 1 else 0) ≤ C; split <;> omega
  | succ j => exact Nat.min_le_right _ _
theorem q_one_le {s a n : Nat} (hC : 1 ≤ C) (hL : ∀ s a, L s a ≤ 1) : q_one C L B t s a n ≤ C := by
  unfold q_one
  have := hL s a
  split
  · exact Nat.min_le_right _ _
  · split <;> omega
theorem q_T_le {f s a n : Nat} (hC : 1 ≤ C) (hL : ∀ s a, L s a ≤ 1) : q_T C L B f s a n ≤ C := by
  cases f with
  | zero => exact Nat.zero_le _
  | succ f => exact q_one_le hC hL
theorem q_T_nil {f s a : Nat} (hW : gW B) : q_T C L B f s a 0 = 0 := by
  cases f with
  | zero => rfl
  | succ f =>
    show q_one _ _ _ _ _ _ _ = 0
    unfold q_one
    split
    · rw [q_sm_0]; · omega
      intro r hr
      show (if _ then _ else 0) = 0
      split
      · exact q_row_0 _ _ _ (by have := (hW.2.2.2.1 r hr).2.1; omega)
      · rfl
    · rfl
end S9n
/-! trees: any letter is one -/
def tG : Nat := 1000000000000
def tT (B : Nat → Nat) (s n : Nat) : Nat := q_T tG (fun _ _ => 1) B q_N s 0 n
def tR (B : Nat → Nat) (r i n : Nat) : Nat := q_row tG (q_T tG (fun _ _ => 1) B q_N) B r (gsz B r - i) 0 n
section S9n2
variable {B : Nat → Nat} {r i n s : Nat}
theorem q_row_a {t : Nat → Nat → Nat → Nat} {C : Nat} (h : ∀ s a n, t s a n = t s 0 n) (j a n : Nat) : q_row C t B r j a n = q_row C t B r j 0 n := by
  induction j generalizing a n with
  | zero => rfl
  | succ j ih =>
    show min (q_sm _ n) C = min (q_sm _ n) C
    rw [q_sm_cg]
    intro k hk
    show t _ _ _ * q_row C t B r j _ _ = t _ _ _ * q_row C t B r j _ _
    rw [h _ a, ih (a + (k + 1)), ih (0 + (k + 1))]
theorem q_T_a (f : Nat) : ∀ s a n, q_T tG (fun _ _ => 1) B f s a n = q_T tG (fun _ _ => 1) B f s 0 n := by
  induction f with
  | zero => intro s a n; rfl
  | succ f ih =>
    intro s a n
    show q_one _ _ _ _ _ _ _ = q_one _ _ _ _ _ _ _
    unfold q_one
    split
    · rw [q_sm_cg]
      intro r hr
      show (if _ then _ else 0) = (if _ then _ else 0)
      rw [q_row_a ih]
    · rfl
theorem tT_let (hW : gW B) (hs : ¬ s < 8) (hn : n ≤ 24) : tT B s n = if n = 1 then 1 else 0 := by
  unfold tT
  rw [q_T_eq hW hn]; unfold q_one; rw [if_neg hs]
theorem tT_sym (hW : gW B) (hs : s < 8) (hn : n ≤ 24) : tT B s n = min (q_sm (fun r => if gon B r = true ∧ gsy B r = s then tR B r 0 n else 0) (B 0)) tG := by
  unfold tT
  rw [q_T_eq hW hn]; unfold q_one; rw [if_pos hs]; rfl
theorem tR_end : tR B r (gsz B r) n = if n = 0 then 1 else 0 := by
  unfold tR; rw [Nat.sub_self]; rfl
theorem tR_step (hi : i < gsz B r) : tR B r i n = min (q_sm (fun k => tT B (gsg B r i) (k + 1) * tR B r (i + 1) (n - (k + 1))) n) tG := by
  unfold tR tT
  rw [show gsz B r - i = (gsz B r - (i + 1)) + 1 by omega]
  show min (q_sm _ n) tG = _
  rw [show gsz B r - ((gsz B r - (i + 1)) + 1) = i by omega, q_sm_cg]
  intro k hk
  show q_T _ _ _ _ _ _ _ * q_row _ _ _ _ _ _ _ = q_T _ _ _ _ _ _ _ * q_row _ _ _ _ _ _ _
  rw [q_row_a (q_T_a q_N) _ (0 + (k + 1))]
theorem tR_0 (h : n < gsz B r - i) : tR B r i n = 0 := q_row_0 _ _ _ h
theorem tT_le : tT B s n ≤ tG := q_T_le (by decide) (fun _ _ => Nat.le_refl _)
theorem tR_le : tR B r i n ≤ tG := q_row_le _ _ _ (by decide)
theorem tT_nil (hW : gW B) : tT B s 0 = 0 := q_T_nil hW
/-- the last sign has it all -/
theorem tR_last (hi : i + 1 = gsz B r) (hn : 1 ≤ n) : tR B r i n = tT B (gsg B r i) n := by
  rw [tR_step (by omega)]
  obtain ⟨m, rfl⟩ : ∃ m, n = m + 1 := ⟨n - 1, by omega⟩
  have e : q_sm (fun k => tT B (gsg B r i) (k + 1) * tR B r (i + 1) (m + 1 - (k + 1))) (m + 1) = tT B (gsg B r i) (m + 1) := by
    show q_sm _ m + _ * _ = _
    rw [q_sm_0, hi, tR_end, if_pos (by omega), Nat.mul_one, Nat.zero_add]
    intro k hk
    show _ * _ = 0
    rw [hi, tR_end, if_neg (by omega), Nat.mul_zero]
  rw [e]
  have := tT_le (B := B) (s := gsg B r i) (n := m + 1)
  omega
end S9n2
