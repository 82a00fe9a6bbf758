/-! tools: steps of a walk over the numbers -/
theorem p_pos {c A B : Prop} {i : Decidable c} (h : c) (k : A) : @ite Prop c i A B := by rw [if_pos h]; exact k
theorem p_neg {c A B : Prop} {i : Decidable c} (h : ¬ c) (k : B) : @ite Prop c i A B := by rw [if_neg h]; exact k
theorem p_if {c A B : Prop} {i : Decidable c} (h1 : c → A) (h2 : ¬ c → B) : @ite Prop c i A B := by
  by_cases h : c
  · rw [if_pos h]; exact h1 h
  · rw [if_neg h]; exact h2 h
/-- a loop upward -/
theorem p_for {S : Type} {X : Int → S → Prop} (n : Nat) (I : Nat → S → Prop) (fin : ∀ s, I n s → X (n : Int) s) (step : ∀ (i : Nat) s, i < n → I i s → (∀ s', I (i + 1) s' → X ((i + 1 : Nat) : Int) s') → X (i : Int) s) : ∀ (i : Nat) s, i ≤ n → I i s → X (i : Int) s := by
  have main : ∀ (j i : Nat) s, i + j = n → I i s → X (i : Int) s := by
    intro j
    induction j with
    | zero => intro i s h hi; have e : i = n := by omega
              subst e; exact fin s hi
    | succ j ih => intro i s h hi; exact step i s (by omega) hi (fun s' hs => ih (i + 1) s' (by omega) hs)
  intro i s h hi
  exact main (n - i) i s (by omega) hi
/-- a loop downward: i are left -/
theorem p_down {S : Type} {X : Int → S → Prop} (I : Nat → S → Prop) (fin : ∀ s, I 0 s → X (-1) s) (step : ∀ (i : Nat) s, I (i + 1) s → (∀ s', I i s' → X ((i : Int) - 1) s') → X (i : Int) s) : ∀ (i : Nat) s, I i s → X ((i : Int) - 1) s := by
  intro i
  induction i with
  | zero => intro s h; exact fin s h
  | succ i ih =>
    intro s h
    have e : ((i + 1 : Nat) : Int) - 1 = (i : Int) := by omega
    rw [e]
    exact step i s h (fun s' hs => ih s' hs)
/-- a loop whose measure falls -/
theorem p_whi {S : Type} {X : S → Prop} (I : Nat → S → Prop) (step : ∀ (n : Nat) s, I n s → (∀ m s', m < n → I m s' → X s') → X s) : ∀ (n : Nat) s, I n s → X s := by
  intro n
  induction n using Nat.strongRecOn with
  | ind n ih => intro s h; exact step n s h (fun m s' hm hs => ih m hm s' hs)
theorem up_if {β : Type} (M : Nat → Int → β) (k : Nat) (i : Int) (v : β) (a : Nat) (j : Int) : am_up M k i v a j = if a = k ∧ j = i then v else M a j := by
  unfold am_up
  by_cases h : a = k
  · subst h
    rw [show Nat.beq a a = true from Nat.beq_refl a]
    simp
  · rw [show Nat.beq a k = false from by cases q : Nat.beq a k with | false => rfl | true => exact absurd (Nat.eq_of_beq_eq_true q) h]
    simp [h]
theorem up_eq {β : Type} (M : Nat → Int → β) (k : Nat) (i : Int) (v : β) : am_up M k i v k i = v := by rw [up_if]; simp
theorem up_ci {β : Type} (M : Nat → Int → β) (k : Nat) (i : Int) (v : β) (j : Int) : am_up M k i v k j = if j = i then v else M k j := by rw [up_if]; simp
theorem up_nc {β : Type} (M : Nat → Int → β) (k : Nat) (i : Int) (v : β) {a : Nat} (h : a ≠ k) : am_up M k i v a = M a := by
  funext j; rw [up_if, if_neg (fun q => h q.1)]
theorem up_ni {β : Type} (M : Nat → Int → β) (k : Nat) (i : Int) (v : β) {j : Int} (h : j ≠ i) (a : Nat) : am_up M k i v a j = M a j := by
  rw [up_if, if_neg (fun q => h q.2)]
theorem cpy_if (M : Nat → Int → Int) (a d : Nat) (sp dp n : Int) (k : Nat) (j : Int) : am_cpy M a d sp dp n k j = if k = d ∧ dp ≤ j ∧ j < dp + n then M a (sp + (j - dp)) else M k j := by
  unfold am_cpy
  by_cases h : k = d
  · subst h
    rw [show Nat.beq k k = true from Nat.beq_refl k]
    simp
  · rw [show Nat.beq k d = false from by cases q : Nat.beq k d with | false => rfl | true => exact absurd (Nat.eq_of_beq_eq_true q) h]
    simp [h]
theorem cpy_nc (M : Nat → Int → Int) (a d : Nat) (sp dp n : Int) {k : Nat} (h : k ≠ d) : am_cpy M a d sp dp n k = M k := by
  funext j; rw [cpy_if, if_neg (fun q => h q.1)]
theorem w32_i {x : Int} (h1 : -2147483648 ≤ x) (h2 : x < 2147483648) : w32 x = x := w32_id ⟨h1, h2⟩
theorem w32_s {i : Nat} (h : i < 2147483647) : w32 ((i : Int) + 1) = ((i + 1 : Nat) : Int) := by rw [w32_i (by omega) (by omega)]; rfl
theorem w32_a {i j : Nat} (h : i + j < 2147483648) : w32 ((i : Int) + (j : Int)) = ((i + j : Nat) : Int) := by rw [w32_i (by omega) (by omega)]; rfl
/-- a number that is 0 or above is a natural one -/
theorem p_nat {x : Int} (h : 0 ≤ x) : ∃ n : Nat, x = (n : Int) := ⟨x.toNat, by omega⟩
/-- as many rounds as one likes -/
def p_it {α : Type} (f : α → α) : Nat → α → α
  | 0, x => x
  | n + 1, x => p_it f n (f x)
theorem p_it_succ {α : Type} (f : α → α) : ∀ (n : Nat) (x : α), p_it f (n + 1) x = f (p_it f n x)
  | 0, _ => rfl
  | n + 1, x => p_it_succ f n (f x)
theorem p_it_fix {α : Type} {f : α → α} {x : α} (h : f x = x) : ∀ n, p_it f n x = x
  | 0 => rfl
  | n + 1 => by show p_it f n (f x) = x; rw [h]; exact p_it_fix h n
theorem p_it_add {α : Type} (f : α → α) : ∀ (m n : Nat) (x : α), p_it f (m + n) x = p_it f n (p_it f m x)
  | 0, n, x => by rw [Nat.zero_add]; rfl
  | m + 1, n, x => by rw [show m + 1 + n = (m + n) + 1 by omega]; exact p_it_add f m n (f x)
/-- a fold over the numbers below n -/
def p_fold {α : Type} (f : Nat → α → α) : Nat → α → α
  | 0, x => x
  | n + 1, x => f n (p_fold f n x)
