/-! sets as bits; what can be said of a grammar by sets -/
def bs (v : Int) (p : Nat → Prop) : Prop := ∃ n : Nat, n < 2147483648 ∧ v = (n : Int) ∧ ∀ k, n.testBit k = true ↔ p k
theorem bs_0 : bs 0 (fun _ => False) := ⟨0, by decide, rfl, fun k => by simp⟩
theorem bs_cong {v : Int} {p q : Nat → Prop} (h : bs v p) (e : ∀ j, p j ↔ q j) : bs v q := by
  obtain ⟨n, h1, h2, h3⟩ := h
  exact ⟨n, h1, h2, fun k => (h3 k).trans (e k)⟩
theorem bs_or {v w : Int} {p q : Nat → Prop} (h : bs v p) (g : bs w q) : bs (i_or v w) (fun j => p j ∨ q j) := by
  obtain ⟨n, h1, h2, h3⟩ := h
  obtain ⟨m, g1, g2, g3⟩ := g
  subst h2; subst g2
  refine ⟨n ||| m, Nat.or_lt_two_pow (n := 31) h1 g1, i_or_nat h1 g1, fun k => ?_⟩
  rw [Nat.testBit_or, Bool.or_eq_true, h3, g3]
theorem bs_and {v w : Int} {p q : Nat → Prop} (h : bs v p) (g : bs w q) : bs (i_and v w) (fun j => p j ∧ q j) := by
  obtain ⟨n, h1, h2, h3⟩ := h
  obtain ⟨m, g1, g2, g3⟩ := g
  subst h2; subst g2
  refine ⟨n &&& m, Nat.lt_of_le_of_lt Nat.and_le_left h1, i_and_nat h1 g1, fun k => ?_⟩
  rw [Nat.testBit_and, Bool.and_eq_true, h3, g3]
/-- without what is in another set -/
theorem bs_sub {v w : Int} {p q : Nat → Prop} (h : bs v p) (g : bs w q) : bs (i_and v (i_xor w (-1))) (fun j => p j ∧ ¬ q j) := by
  obtain ⟨n, h1, h2, h3⟩ := h
  obtain ⟨m, g1, g2, g3⟩ := g
  subst h2; subst g2
  refine ⟨n &&& b_co m, Nat.lt_of_le_of_lt Nat.and_le_left h1, ?_, fun k => ?_⟩
  · rw [← w32_nat h1, ← w32_nat g1, b_not (by omega), b_and (by omega) (b_co_lt (by omega)), w32_nat (Nat.lt_of_le_of_lt Nat.and_le_left h1)]
  · rw [Nat.testBit_and, Bool.and_eq_true, h3]
    constructor
    · intro ⟨a, b⟩
      refine ⟨a, fun z => ?_⟩
      have hk : k < 32 := by
        by_cases hk : k < 32
        · exact hk
        · have := Nat.testBit_lt_two_pow (x := m) (i := k) (Nat.lt_of_lt_of_le g1 (Nat.pow_le_pow_right (n := 2) (i := 31) (by decide) (by omega)))
          rw [(g3 k).mpr z] at this; cases this
      rw [b_co_bit m k hk, (g3 k).mpr z] at b; cases b
    · intro ⟨a, b⟩
      refine ⟨a, ?_⟩
      have hk : k < 32 := by
        by_cases hk : k < 32
        · exact hk
        · have := Nat.testBit_lt_two_pow (x := n) (i := k) (Nat.lt_of_lt_of_le h1 (Nat.pow_le_pow_right (n := 2) (i := 31) (by decide) (by omega)))
          rw [(h3 k).mpr a] at this; cases this
      rw [b_co_bit m k hk]
      cases e : m.testBit k with
      | false => rfl
      | true => exact absurd ((g3 k).mp e) b
theorem bs_one {k : Nat} (hk : k < 31) : bs (i_shl 1 (k : Int)) (fun j => j = k) := by
  refine ⟨2 ^ k, Nat.pow_lt_pow_right (m := k) (n := 31) (by decide) hk, i_shl_one hk, fun j => ?_⟩
  rw [Nat.testBit_two_pow]
  simp only [decide_eq_true_eq]
  exact eq_comm
theorem bs_add {v : Int} {p : Nat → Prop} {k : Nat} (h : bs v p) (hk : k < 31) : bs (i_or v (i_shl 1 (k : Int))) (fun j => p j ∨ j = k) := bs_or h (bs_one hk)
theorem bs_or0 {v : Int} {p : Nat → Prop} (h : bs v p) : i_or v 0 = v := by
  obtain ⟨n, h1, h2, h3⟩ := h
  subst h2
  have := i_or_nat (a := n) (b := 0) h1 (by decide)
  rw [Nat.or_zero] at this; exact this
theorem bs_uniq {v w : Int} {p : Nat → Prop} (h : bs v p) (g : bs w p) : v = w := by
  obtain ⟨n, h1, h2, h3⟩ := h
  obtain ⟨m, g1, g2, g3⟩ := g
  subst h2; subst g2
  congr 1
  apply Nat.eq_of_testBit_eq
  intro i
  have := (h3 i).trans (g3 i).symm
  cases a : n.testBit i <;> cases b : m.testBit i <;> simp_all
theorem bs_rng {v : Int} {p : Nat → Prop} (h : bs v p) : 0 ≤ v ∧ v < 2147483648 := by
  obtain ⟨n, h1, h2, -⟩ := h
  omega
theorem bs_i32 {v : Int} {p : Nat → Prop} (h : bs v p) : am_i32 v := by have := bs_rng h; unfold am_i32; omega
theorem bs_bit {v : Int} {p : Nat → Prop} {k : Nat} (h : bs v p) (hk : k < 32) : (p k → i_and (i_shr v (k : Int)) 1 = 1) ∧ (¬ p k → i_and (i_shr v (k : Int)) 1 = 0) := by
  obtain ⟨n, h1, h2, h3⟩ := h
  subst h2
  rw [i_bit h1 hk]
  constructor
  · intro q; rw [if_pos ((h3 k).mpr q)]
  · intro q; rw [if_neg (fun z => q ((h3 k).mp z))]
theorem bs_lt {v : Int} {p : Nat → Prop} {n : Nat} (h : bs v p) (hp : ∀ j, p j → j < n) : v < ((2 ^ n : Nat) : Int) := by
  obtain ⟨m, h1, h2, h3⟩ := h
  subst h2
  have : m < 2 ^ n := by
    apply Nat.lt_pow_two_of_testBit
    intro i hi
    cases e : m.testBit i with
    | false => rfl
    | true => have := hp i ((h3 i).mp e); omega
  exact_mod_cast this
theorem bs_le {v w : Int} {p q : Nat → Prop} (h : bs v p) (g : bs w q) (e : ∀ j, p j → q j) : v ≤ w := by
  obtain ⟨n, h1, h2, h3⟩ := h
  obtain ⟨m, g1, g2, g3⟩ := g
  subst h2; subst g2
  have : n ||| m = m := by
    apply Nat.eq_of_testBit_eq
    intro i
    rw [Nat.testBit_or]
    cases a : n.testBit i with
    | false => simp
    | true => rw [(g3 i).mpr (e i ((h3 i).mp a))]; rfl
  have h5 := Nat.left_le_or (n := n) (m := m)
  omega
theorem bs_z {v : Int} {p : Nat → Prop} (h : bs v p) : v = 0 ↔ ∀ j, ¬ p j := by
  constructor
  · intro e j q
    subst e
    obtain ⟨n, h1, h2, h3⟩ := h
    have : n = 0 := by omega
    subst this
    have := (h3 j).mpr q
    simp at this
  · intro e
    exact bs_uniq h (bs_cong bs_0 (fun j => ⟨fun z => z.elim, fun z => e j z⟩))
theorem bs_cnt {v : Int} {p : Nat → Prop} (h : bs v p) : ∃ n : Nat, n < 2147483648 ∧ v = (n : Int) ∧ ∀ k, n.testBit k = true ↔ p k := h
/-! what can be said of a grammar by sets -/
def gAll (B : Nat → Nat) (P : Nat → Prop) (r : Nat) : Prop := ∀ i, i < gsz B r → gsg B r i < 8 → P (gsg B r i)
def gdN (B : Nat → Nat) : Nat → Nat → Prop
  | 0, _ => False
  | n + 1, s => ∃ r, r < B 0 ∧ gon B r = true ∧ gsy B r = s ∧ gAll B (gdN B n) r
def gGood (B : Nat → Nat) (s : Nat) : Prop := ∃ n, gdN B n s
def gSnd (B : Nat → Nat) (r : Nat) : Prop := gon B r = true ∧ gAll B (gGood B) r
def grN (B : Nat → Nat) : Nat → Nat → Prop
  | 0, s => s = B 2
  | n + 1, s => grN B n s ∨ ∃ r, r < B 0 ∧ gSnd B r ∧ grN B n (gsy B r) ∧ s < 8 ∧ ∃ i, i < gsz B r ∧ gsg B r i = s
def gRch (B : Nat → Nat) (s : Nat) : Prop := ∃ n, grN B n s
def gUsd (B : Nat → Nat) (r : Nat) : Prop := r < B 0 ∧ gSnd B r ∧ gRch B (gsy B r)
def gUL (B : Nat → Nat) (l : Nat) : Prop := ∃ r i, gUsd B r ∧ i < gsz B r ∧ gsg B r i = 16 + l
/-- with which letters what a symbol makes can begin (end): e is the place of the rule's first (last) sign -/
def geN (B : Nat → Nat) (e : Nat → Nat) : Nat → Nat → Nat → Prop
  | 0, _, _ => False
  | n + 1, s, l => ∃ r, r < B 0 ∧ gSnd B r ∧ gsy B r = s ∧ (gsg B r (e r) = 16 + l ∨ gsg B r (e r) < 8 ∧ geN B e n (gsg B r (e r)) l)
def gE (B : Nat → Nat) (e : Nat → Nat) (s l : Nat) : Prop := ∃ n, geN B e n s l
def gEs (B : Nat → Nat) (e : Nat → Nat) (g l : Nat) : Prop := g = 16 + l ∨ g < 8 ∧ gE B e g l
def e0 (_ : Nat → Nat) : Nat → Nat := fun _ => 0
def e1 (B : Nat → Nat) : Nat → Nat := fun r => gsz B r - 1
def gBes (B : Nat → Nat) (l l' : Nat) : Prop := ∃ r i, gUsd B r ∧ i + 1 < gsz B r ∧ gEs B (e1 B) (gsg B r i) l ∧ gEs B (e0 B) (gsg B r (i + 1)) l'
section S66
variable {B : Nat → Nat}
theorem gdN_mono : ∀ {n s : Nat}, gdN B n s → gdN B (n + 1) s
  | 0, _, h => h.elim
  | n + 1, s, h => by
    obtain ⟨r, h1, h2, h3, h4⟩ := h
    exact ⟨r, h1, h2, h3, fun i a b => gdN_mono (h4 i a b)⟩
theorem gdN_le {n m s : Nat} (h : n ≤ m) (q : gdN B n s) : gdN B m s := by
  induction m with
  | zero => have : n = 0 := by omega
            subst this; exact q
  | succ m ih =>
    by_cases e : n = m + 1
    · subst e; exact q
    · exact gdN_mono (ih (by omega))
theorem gAll_N {r : Nat} (h : gAll B (gGood B) r) : ∃ N, gAll B (gdN B N) r := by
  have key : ∀ m, ∃ N, ∀ i, i < m → i < gsz B r → gsg B r i < 8 → gdN B N (gsg B r i) := by
    intro m
    induction m with
    | zero => exact ⟨0, fun i hi => absurd hi (Nat.not_lt_zero i)⟩
    | succ m ih =>
      obtain ⟨N, hN⟩ := ih
      by_cases q : m < gsz B r ∧ gsg B r m < 8
      · obtain ⟨N2, h2⟩ := h m q.1 q.2
        refine ⟨N + N2, fun i hi a b => ?_⟩
        by_cases e : i = m
        · subst e; exact gdN_le (by omega) h2
        · exact gdN_le (by omega) (hN i (by omega) a b)
      · refine ⟨N, fun i hi a b => ?_⟩
        by_cases e : i = m
        · subst e; exact absurd ⟨a, b⟩ q
        · exact hN i (by omega) a b
  obtain ⟨N, hN⟩ := key (gsz B r)
  exact ⟨N, fun i a b => hN i a a b⟩
theorem gGood_in {r : Nat} (hr : r < B 0) (h : gSnd B r) : gGood B (gsy B r) := by
  obtain ⟨N, hN⟩ := gAll_N h.2
  exact ⟨N + 1, r, hr, h.1, rfl, hN⟩
theorem gGood_least {P : Nat → Prop} (hP : ∀ r, r < B 0 → gon B r = true → gAll B P r → P (gsy B r)) : ∀ {n s : Nat}, gdN B n s → P s
  | 0, _, h => h.elim
  | n + 1, s, h => by
    obtain ⟨r, h1, h2, h3, h4⟩ := h
    rw [← h3]
    exact hP r h1 h2 (fun i a b => gGood_least hP (h4 i a b))
theorem gGood_lt (hW : gW B) {s : Nat} (h : gGood B s) : s < 8 := by
  obtain ⟨n, h⟩ := h
  exact gGood_least (P := fun s => s < 8) (fun r hr _ _ => (hW.2.2.2.1 r hr).1) h
theorem gAll_mono {P P' : Nat → Prop} (h : ∀ s, P s → P' s) {r : Nat} (q : gAll B P r) : gAll B P' r := fun i a b => h _ (q i a b)
theorem gRch_0 : gRch B (B 2) := ⟨0, rfl⟩
theorem gRch_in {r i : Nat} (hr : r < B 0) (h : gSnd B r) (hs : gRch B (gsy B r)) (hi : i < gsz B r) (h8 : gsg B r i < 8) : gRch B (gsg B r i) := by
  obtain ⟨n, hn⟩ := hs
  exact ⟨n + 1, Or.inr ⟨r, hr, h, hn, h8, i, hi, rfl⟩⟩
theorem gRch_least {P : Nat → Prop} (h0 : P (B 2)) (hP : ∀ r i, r < B 0 → gSnd B r → P (gsy B r) → i < gsz B r → gsg B r i < 8 → P (gsg B r i)) : ∀ {n s : Nat}, grN B n s → P s
  | 0, s, h => by have h : s = B 2 := h
                  rw [h]; exact h0
  | n + 1, s, h => by
    rcases h with h | ⟨r, h1, h2, h3, h4, i, h5, h6⟩
    · exact gRch_least h0 hP h
    · rw [← h6]; exact hP r i h1 h2 (gRch_least h0 hP h3) h5 (by omega)
theorem gRch_lt (hW : gW B) {s : Nat} (h : gRch B s) : s < 8 := by
  obtain ⟨n, h⟩ := h
  exact gRch_least (P := fun s => s < 8) hW.2.2.1 (fun r i _ _ _ _ h8 => h8) h
theorem geN_mono {e : Nat → Nat} {l : Nat} : ∀ {n s : Nat}, geN B e n s l → geN B e (n + 1) s l
  | 0, _, h => h.elim
  | n + 1, s, h => by
    obtain ⟨r, h1, h2, h3, h4⟩ := h
    refine ⟨r, h1, h2, h3, ?_⟩
    rcases h4 with h4 | h4
    · exact Or.inl h4
    · exact Or.inr ⟨h4.1, geN_mono h4.2⟩
theorem gE_in {e : Nat → Nat} {r l : Nat} (hr : r < B 0) (h : gSnd B r) (hs : gEs B e (gsg B r (e r)) l) : gE B e (gsy B r) l := by
  rcases hs with hs | ⟨h8, n, hn⟩
  · exact ⟨1, r, hr, h, rfl, Or.inl hs⟩
  · exact ⟨n + 1, r, hr, h, rfl, Or.inr ⟨h8, hn⟩⟩
theorem gE_least {e : Nat → Nat} {l : Nat} {P : Nat → Prop} (hP : ∀ r, r < B 0 → gSnd B r → (gsg B r (e r) = 16 + l ∨ gsg B r (e r) < 8 ∧ P (gsg B r (e r))) → P (gsy B r)) : ∀ {n s : Nat}, geN B e n s l → P s
  | 0, _, h => h.elim
  | n + 1, s, h => by
    obtain ⟨r, h1, h2, h3, h4⟩ := h
    rw [← h3]
    refine hP r h1 h2 ?_
    rcases h4 with h4 | h4
    · exact Or.inl h4
    · exact Or.inr ⟨h4.1, gE_least hP h4.2⟩
theorem cnt_lt {p q : Nat → Bool} {n t : Nat} (h : ∀ k, k < n → p k = true → q k = true) (ht : t < n) (h1 : q t = true) (h0 : p t = false) : cnt p n + 1 ≤ cnt q n := by
  have a := cnt_add (p := p) (q := fun k => if k = t then true else p k) (t := t) h0 (by simp) (fun k hk => by simp [hk]) ht
  have b := cnt_mono (p := fun k => if k = t then true else p k) (q := q) (n := n) (fun k hk z => by
    by_cases e : k = t
    · rw [e]; exact h1
    · simp [e] at z; exact h k hk z)
  omega
/-- what grows by one rule over eight symbols has grown in eight rounds -/
theorem st8 {P : Nat → Nat → Prop} (hm : ∀ n s, P n s → P (n + 1) s) (hd : ∀ n, (∀ s, P (n + 1) s → P n s) → ∀ s, P (n + 2) s → P (n + 1) s) (hb : ∀ n s, P n s → s < 8) : ∀ n s, P n s → P 8 s := by
  have dec : ∀ n, ∃ p : Nat → Bool, ∀ s, p s = true ↔ P n s := fun n => ⟨fun s => @decide (P n s) (Classical.propDecidable _), fun s => by simp⟩
  obtain ⟨p, hp⟩ := Classical.axiomOfChoice dec
  have key : ∀ n, n ≤ cnt (p n) 8 ∨ ∃ m, m < n ∧ ∀ s, P (m + 1) s → P m s := by
    intro n
    induction n with
    | zero => exact Or.inl (Nat.zero_le _)
    | succ n ih =>
      rcases ih with ih | ⟨m, h1, h2⟩
      · by_cases q : ∀ s, P (n + 1) s → P n s
        · exact Or.inr ⟨n, by omega, q⟩
        · refine Or.inl ?_
          obtain ⟨s, hs⟩ := Classical.not_forall.mp q
          have hs1 : P (n + 1) s := Classical.byContradiction (fun z => hs (fun y => absurd y z))
          have hs0 : ¬ P n s := fun z => hs (fun _ => z)
          have := cnt_lt (p := p n) (q := p (n + 1)) (n := 8) (t := s) (fun k _ z => (hp (n + 1) k).mpr (hm n k ((hp n k).mp z))) (hb _ _ hs1) ((hp (n + 1) s).mpr hs1) (by
            cases e : p n s with
            | false => rfl
            | true => exact absurd ((hp n s).mp e) hs0)
          omega
      · exact Or.inr ⟨m, by omega, h2⟩
  obtain ⟨m, hm8, hst⟩ : ∃ m, m ≤ 8 ∧ ∀ s, P (m + 1) s → P m s := by
    rcases key 9 with h | ⟨m, h1, h2⟩
    · have := cnt_le (p := p 9) 8; omega
    · exact ⟨m, by omega, h2⟩
  have up : ∀ j s, P m s → P (m + j) s := by
    intro j
    induction j with
    | zero => exact fun s h => h
    | succ j ih => exact fun s h => hm _ _ (ih s h)
  have st : ∀ j s, P (m + j + 1) s → P (m + j) s := by
    intro j
    induction j with
    | zero => exact hst
    | succ j ih => exact hd _ ih
  have dn : ∀ j s, P (m + j) s → P m s := by
    intro j
    induction j with
    | zero => exact fun s h => h
    | succ j ih => exact fun s h => ih s (st j s h)
  intro n s h
  by_cases hn : n ≤ 8
  · have : ∀ j, P n s → P (n + j) s := by
      intro j
      induction j with
      | zero => exact fun h => h
      | succ j ih => exact fun h => hm _ _ (ih h)
    have := this (8 - n) h
    rwa [show n + (8 - n) = 8 by omega] at this
  · have h2 : P (m + (n - m)) s := by rwa [show m + (n - m) = n by omega]
    have := up (8 - m) s (dn _ s h2)
    rwa [show m + (8 - m) = 8 by omega] at this
theorem geN_8 (hW : gW B) {e : Nat → Nat} {l n s : Nat} (h : geN B e n s l) : geN B e 8 s l := by
  refine st8 (P := fun n s => geN B e n s l) (fun n s => geN_mono) (fun n hn s hs => ?_) (fun n s hs => ?_) n s h
  · obtain ⟨r, h1, h2, h3, h4⟩ := hs
    refine ⟨r, h1, h2, h3, ?_⟩
    rcases h4 with h4 | h4
    · exact Or.inl h4
    · exact Or.inr ⟨h4.1, hn _ h4.2⟩
  · cases n with
    | zero => exact hs.elim
    | succ n => obtain ⟨r, h1, -, h3, -⟩ := hs
                rw [← h3]; exact (hW.2.2.2.1 r h1).1
theorem gdN_8 (hW : gW B) {n s : Nat} (h : gdN B n s) : gdN B 8 s := by
  refine st8 (P := fun n s => gdN B n s) (fun n s => gdN_mono) (fun n hn s hs => ?_) (fun n s hs => ?_) n s h
  · obtain ⟨r, h1, h2, h3, h4⟩ := hs
    exact ⟨r, h1, h2, h3, fun i a b => hn _ (h4 i a b)⟩
  · cases n with
    | zero => exact hs.elim
    | succ n => obtain ⟨r, h1, -, h3, -⟩ := hs
                rw [← h3]; exact (hW.2.2.2.1 r h1).1
theorem grN_8 (hW : gW B) {n s : Nat} (h : grN B n s) : grN B 8 s := by
  refine st8 (P := fun n s => grN B n s) (fun n s => Or.inl) (fun n hn s hs => ?_) (fun n s hs => gRch_lt hW ⟨n, hs⟩) n s h
  rcases hs with hs | ⟨r, h1, h2, h3, h4⟩
  · exact hs
  · exact Or.inr ⟨r, h1, h2, hn _ h3, h4⟩
theorem gE_lt (hW : gW B) {e : Nat → Nat} {s l : Nat} (he : ∀ r, r < B 0 → e r < gsz B r) (h : gE B e s l) : l < 16 := by
  obtain ⟨n, h⟩ := h
  refine gE_least (B := B) (e := e) (l := l) (P := fun _ => l < 16) (fun r hr _ q => ?_) h
  rcases q with q | q
  · have := (hW.2.2.2.1 r hr).2.2.2.2 (e r) (he r hr); omega
  · exact q.2
theorem e0_lt (hW : gW B) : ∀ r, r < B 0 → e0 B r < gsz B r := fun r hr => by have := (hW.2.2.2.1 r hr).2.1; unfold e0; omega
theorem e1_lt (hW : gW B) : ∀ r, r < B 0 → e1 B r < gsz B r := fun r hr => by have := (hW.2.2.2.1 r hr).2.1; unfold e1; omega
end S66
