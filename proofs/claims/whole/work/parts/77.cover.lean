/-! COVER: what it is; the reference's words of bits -/
noncomputable def dc (P : Nat → Prop) (c : Nat) : Bool := @decide (P c) (Classical.propDecidable _)
theorem dc_iff {P : Nat → Prop} {c : Nat} : dc P c = true ↔ P c := by unfold dc; simp
theorem dc_congr {P P' : Nat → Prop} {c : Nat} (h : P c ↔ P' c) : dc P c = dc P' c := by
  cases e : dc P' c with
  | true => exact dc_iff.mpr (h.mpr (dc_iff.mp e))
  | false =>
    cases g : dc P c with
    | false => rfl
    | true => rw [dc_iff.mpr (h.mp (dc_iff.mp g))] at e; cases e
theorem dc_f {P : Nat → Prop} {c : Nat} (h : ¬ P c) : dc P c = false := by
  cases g : dc P c with
  | false => rfl
  | true => exact absurd (dc_iff.mp g) h
/-- a word of 32 bits -/
def wd (v : Int) (P : Nat → Prop) : Prop := ∃ n : Nat, n < 4294967296 ∧ v = w32 (n : Int) ∧ ∀ k, k < 32 → (n.testBit k = true ↔ P k)
theorem wd_cong {v : Int} {P P' : Nat → Prop} (h : wd v P) (e : ∀ k, k < 32 → (P k ↔ P' k)) : wd v P' := by
  obtain ⟨n, h1, h2, h3⟩ := h
  exact ⟨n, h1, h2, fun k hk => (h3 k hk).trans (e k hk)⟩
theorem wd_0 : wd 0 (fun _ => False) := ⟨0, by decide, rfl, fun k _ => by simp⟩
theorem wd_and {v w : Int} {P P' : Nat → Prop} (h : wd v P) (g : wd w P') : wd (i_and v w) (fun k => P k ∧ P' k) := by
  obtain ⟨n, h1, h2, h3⟩ := h
  obtain ⟨m, g1, g2, g3⟩ := g
  rw [h2, g2]
  refine ⟨n &&& m, Nat.lt_of_le_of_lt Nat.and_le_left h1, b_and h1 g1, fun k hk => ?_⟩
  rw [Nat.testBit_and, Bool.and_eq_true, h3 k hk, g3 k hk]
theorem wd_or {v w : Int} {P P' : Nat → Prop} (h : wd v P) (g : wd w P') : wd (i_or v w) (fun k => P k ∨ P' k) := by
  obtain ⟨n, h1, h2, h3⟩ := h
  obtain ⟨m, g1, g2, g3⟩ := g
  rw [h2, g2]
  refine ⟨n ||| m, Nat.or_lt_two_pow (n := 32) h1 g1, b_or h1 g1, fun k hk => ?_⟩
  rw [Nat.testBit_or, Bool.or_eq_true, h3 k hk, g3 k hk]
theorem wd_one {b : Nat} (hb : b < 32) : wd (i_shl 1 (b : Int)) (fun k => k = b) := by
  refine ⟨2 ^ b, b_pow hb, b_shl1 hb, fun k _ => ?_⟩
  rw [Nat.testBit_two_pow]; simp only [decide_eq_true_eq]; exact eq_comm
theorem wd_sub {v w : Int} {P P' : Nat → Prop} (h : wd v P) (g : wd w P') : wd (i_and v (i_xor w (-1))) (fun k => P k ∧ ¬ P' k) := by
  obtain ⟨n, h1, h2, h3⟩ := h
  obtain ⟨m, g1, g2, g3⟩ := g
  rw [h2, g2]
  refine ⟨n &&& b_co m, Nat.lt_of_le_of_lt Nat.and_le_left h1, by rw [b_not g1, b_and h1 (b_co_lt g1)], fun k hk => ?_⟩
  rw [Nat.testBit_and, Bool.and_eq_true, h3 k hk, b_co_bit m k hk]
  refine and_congr Iff.rfl ?_
  rw [← g3 k hk]
  cases m.testBit k <;> simp
theorem wd_z {v : Int} {P : Nat → Prop} (h : wd v P) : v = 0 ↔ ∀ k, k < 32 → ¬ P k := by
  obtain ⟨n, h1, h2, h3⟩ := h
  rw [h2]
  constructor
  · intro e k hk q
    have : n = 0 := by unfold w32 at e; omega
    subst this
    have := (h3 k hk).mpr q
    simp at this
  · intro e
    have : n = 0 := by
      apply Nat.eq_of_testBit_eq
      intro i
      rw [Nat.zero_testBit]
      by_cases hi : i < 32
      · cases q : n.testBit i with
        | false => rfl
        | true => exact absurd ((h3 i hi).mp q) (e i hi)
      · exact Nat.testBit_lt_two_pow (Nat.lt_of_lt_of_le h1 (Nat.pow_le_pow_right (n := 2) (i := 32) (by decide) (by omega)))
    subst this; rfl
section S77
variable {M : (Nat → Int → Int)} {d : Nat} {Q : Int → (Nat → Int → Int) → Prop}
theorem m_onesw {v : Int} {P : Nat → Prop} (h : wd v P) (hQ : Q ((cnt (dc P) 32 : Nat) : Int) M) : am_s am_P am_gg (d + 1) 227 [.inl v] M Q := by
  obtain ⟨n, h1, h2, h3⟩ := h
  rw [h2]
  refine m_ones h1 ?_
  rw [cnt_congr (p := n.testBit) (q := dc P) (fun k hk => ?_)]
  · exact hQ
  · cases e : n.testBit k with
    | true => exact (dc_iff.mpr ((h3 k hk).mp e)).symm
    | false => exact (dc_f (fun z => by rw [(h3 k hk).mpr z] at e; cases e)).symm
end S77
/-- the code of a pair -/
noncomputable def cd (p : Nat → Bool) (k : Nat) : Nat := @dite Nat (∃ c, c < 1024 ∧ p c = true ∧ cnt p c = k) (Classical.propDecidable _) (fun h => Classical.choose h) (fun _ => 0)
theorem cnt_sel {p : Nat → Bool} {k : Nat} : ∀ {n : Nat}, k < cnt p n → ∃ c, c < n ∧ p c = true ∧ cnt p c = k
  | 0, h => absurd h (Nat.not_lt_zero k)
  | n + 1, h => by
    rw [cnt_s] at h
    by_cases q : k < cnt p n
    · obtain ⟨c, h1, h2⟩ := cnt_sel q
      exact ⟨c, by omega, h2⟩
    · cases e : p n with
      | true => rw [e] at h; simp at h; exact ⟨n, by omega, e, by omega⟩
      | false => rw [e] at h; simp at h; omega
theorem cd_ok {p : Nat → Bool} {k : Nat} (h : k < cnt p 1024) : cd p k < 1024 ∧ p (cd p k) = true ∧ cnt p (cd p k) = k := by
  have h := cnt_sel h
  unfold cd
  rw [dif_pos h]
  exact Classical.choose_spec h
theorem cnt_inj {p : Nat → Bool} {a b : Nat} (ha : p a = true) (hb : p b = true) (h : cnt p a = cnt p b) : a = b := by
  by_cases q : a < b
  · have := cnt_lt_of ha q; omega
  · by_cases q2 : b < a
    · have := cnt_lt_of hb q2; omega
    · omega
theorem cd_cnt {p : Nat → Bool} {c : Nat} (hc : c < 1024) (hp : p c = true) : cd p (cnt p c) = c := by
  obtain ⟨h1, h2, h3⟩ := cd_ok (cnt_lt_of hp hc)
  exact cnt_inj h2 hp h3
/-- what is left when j sentences are taken -/
def lft (p : Nat → Bool) (H : Nat → Nat → Prop) (τ : Nat → Nat) (j c : Nat) : Prop := p c = true ∧ ∀ i, i < j → ¬ H (τ i) c
noncomputable def nws (H : Nat → Nat → Prop) (L : Nat → Prop) (k : Nat) : Nat := cnt (dc (fun c => H k c ∧ L c)) 1024
/-- the best one -/
def bst (H : Nat → Nat → Prop) (N : Nat) (L : Nat → Prop) (b : Nat) : Prop := b < N ∧ (∀ k, k < N → nws H L k ≤ nws H L b) ∧ ∀ k, k < b → nws H L k < nws H L b
/-- taken one by one -/
def grd (p : Nat → Bool) (H : Nat → Nat → Prop) (N : Nat) (τ : Nat → Nat) (n : Nat) : Prop := (∀ j, j < n → (∃ c, lft p H τ j c) ∧ bst H N (lft p H τ j) (τ j)) ∧ ∀ c, ¬ lft p H τ n c
/-- which are not left out -/
def kpt (H : Nat → Nat → Prop) (τ : Nat → Nat) (n : Nat) (κ : Nat → Bool) (j : Nat) : Prop := κ j = true ↔ ∃ c, c < 1024 ∧ H (τ j) c ∧ ∀ i, i < n → i ≠ j → (i < j ∨ κ i = true) → ¬ H (τ i) c
section S77b
variable {p : Nat → Bool} {H : Nat → Nat → Prop} {N n n' : Nat} {τ τ' : Nat → Nat} {L L' : Nat → Prop}
theorem nws_congr {k : Nat} (h : ∀ c, L c ↔ L' c) : nws H L k = nws H L' k := cnt_congr (fun c _ => dc_congr (and_congr Iff.rfl (h c)))
theorem bst_uniq {b b' : Nat} (h : bst H N L b) (h' : bst H N L b') : b = b' := by
  by_cases q : b < b'
  · have := h'.2.2 b q; have := h.2.1 b' h'.1; omega
  · by_cases q2 : b' < b
    · have := h.2.2 b' q2; have := h'.2.1 b h.1; omega
    · omega
theorem bst_congr {b : Nat} (h : ∀ c, L c ↔ L' c) (q : bst H N L b) : bst H N L' b :=
  ⟨q.1, fun k hk => by rw [← nws_congr h, ← nws_congr h]; exact q.2.1 k hk, fun k hk => by rw [← nws_congr h, ← nws_congr h]; exact q.2.2 k hk⟩
theorem lft_congr {j : Nat} (h : ∀ i, i < j → τ i = τ' i) (c : Nat) : lft p H τ j c ↔ lft p H τ' j c := by
  unfold lft
  refine and_congr Iff.rfl (forall_congr' (fun i => forall_congr' (fun hi => ?_)))
  rw [h i hi]
theorem grd_uniq (h : grd p H N τ n) (h' : grd p H N τ' n') : n = n' ∧ ∀ j, j < n → τ j = τ' j := by
  have key : ∀ j, j ≤ n → j ≤ n' → ∀ i, i < j → τ i = τ' i := by
    intro j
    induction j with
    | zero => intro _ _ i hi; exact absurd hi (Nat.not_lt_zero i)
    | succ j ih =>
      intro a b i hi
      have ih := ih (by omega) (by omega)
      by_cases e : i = j
      · subst e
        exact bst_uniq (bst_congr (lft_congr ih) (h.1 i (by omega)).2) (h'.1 i (by omega)).2
      · exact ih i (by omega)
  have e : n = n' := by
    by_cases q : n < n'
    · obtain ⟨c, hc⟩ := (h'.1 n q).1
      exact absurd ((lft_congr (key n (by omega) (by omega)) c).mpr hc) (h.2 c)
    · by_cases q2 : n' < n
      · obtain ⟨c, hc⟩ := (h.1 n' q2).1
        exact absurd ((lft_congr (key n' (by omega) (by omega)) c).mp hc) (h'.2 c)
      · omega
  exact ⟨e, fun j hj => key n (by omega) (by omega) j hj⟩
theorem kpt_uniq {κ κ' : Nat → Bool} (hτ : ∀ j, j < n → τ j = τ' j) (h : ∀ j, j < n → kpt H τ n κ j) (h' : ∀ j, j < n → kpt H τ' n κ' j) : ∀ j, j < n → κ j = κ' j := by
  have key : ∀ m, m ≤ n → ∀ j, n - m ≤ j → j < n → κ j = κ' j := by
    intro m
    induction m with
    | zero => intro _ j a b; omega
    | succ m ih =>
      intro hm j a b
      have ih := ih (by omega)
      by_cases e : n - m ≤ j
      · exact ih j e b
      · have : κ j = true ↔ κ' j = true := by
          refine Iff.trans (show _ ↔ _ from h j b) (Iff.trans ?_ (show _ ↔ _ from h' j b).symm)
          refine exists_congr (fun c => and_congr_right (fun _ => ?_))
          rw [hτ j b]
          refine and_congr Iff.rfl (forall_congr' (fun i => forall_congr' (fun hi => forall_congr' (fun ne => ?_))))
          rw [hτ i hi]
          refine imp_congr ?_ Iff.rfl
          by_cases hij : i < j
          · exact ⟨fun _ => Or.inl hij, fun _ => Or.inl hij⟩
          · rw [ih i (by omega) hi]
        cases x : κ j <;> cases y : κ' j <;> simp_all
  intro j hj
  exact key n (Nat.le_refl _) j (by omega) hj
end S77b
