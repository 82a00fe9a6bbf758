/-! the class: YIELDS -/
theorem or_add {a b n : Nat} (ha : a % 2 ^ n = 0) (hb : b < 2 ^ n) (h : a + b < 2147483648) : i_or (a : Int) (b : Int) = ((a + b : Nat) : Int) := by
  rw [i_or_nat (by omega) (by omega)]
  have e : a = 2 ^ n * (a / 2 ^ n) := by have := Nat.div_add_mod a (2 ^ n); omega
  have := Nat.two_pow_add_eq_or_of_lt hb (a / 2 ^ n)
  rw [← e] at this
  rw [this]
theorem shl_mul {a n : Nat} (hn : n < 31) (h : a * 2 ^ n < 2147483648) : i_shl (a : Int) (n : Int) = ((a * 2 ^ n : Nat) : Int) := by
  rw [i_shl_mul (by omega)]
  have e : (a : Int) * 2 ^ n = ((a * 2 ^ n : Nat) : Int) := by rw [Int.natCast_mul, Int.natCast_pow]; rfl
  rw [e]; exact w32_nat h
theorem shr_div {a n : Nat} (hn : n < 32) (h : a < 2147483648) : i_shr (a : Int) (n : Int) = ((a / 2 ^ n : Nat) : Int) := by
  rw [i_shr_div (by unfold am_i32; omega) hn, Int.natCast_ediv, Int.natCast_pow]; rfl
theorem and_mod {a n : Nat} (hn : n < 31) (h : a < 2147483648) : i_and (a : Int) ((2 ^ n - 1 : Nat) : Int) = ((a % 2 ^ n : Nat) : Int) := by
  have : 2 ^ n < 2147483648 := Nat.pow_lt_pow_right (m := n) (n := 31) (by decide) hn
  rw [i_and_nat h (by omega), Nat.and_two_pow_sub_one_eq_mod]
/-- the class's row of keys -/
def kA (c : Nat) (K : Nat → Nat) (M : (Nat → Int → Int)) : Prop := ∀ s : Nat, s < 8 → M c (s : Int) = (K s : Int) ∧ K s ≤ NK
def cx (K : Nat → Nat) (g : Nat) : Nat := if g < 8 then (if K g = NK then 0 else K g / 65536) else 1
def mx (K : Nat → Nat) (g : Nat) : Nat := if g < 8 then (if K g = NK then 0 else K g / 16 % 4096) else 0
def ms (K : Nat → Nat) (g : Nat) : Nat := if g < 8 then (if K g = NK then 1 else 0) else 0
def rcx (B K : Nat → Nat) (r : Nat) : Nat := gwt B r + sm (fun i => cx K (gsg B r i)) (gsz B r)
def rmx (B K : Nat → Nat) (r : Nat) : Nat := 1 + sm (fun i => mx K (gsg B r i)) (gsz B r)
def mis (B K : Nat → Nat) (r : Nat) : Nat := sm (fun i => ms K (gsg B r i)) (gsz B r)
/-- the class's rows of what a rule costs -/
def kRow (B K : Nat → Nat) (M : (Nat → Int → Int)) (r : Nat) : Prop := M 27 (r : Int) = (rcx B K r : Int) ∧ M 28 (r : Int) = (rmx B K r : Int) ∧ M 29 (r : Int) = (mis B K r : Int)
section S83
variable {B K : Nat → Nat} {M M0 : (Nat → Int → Int)} {d : Nat} {Q : Int → (Nat → Int → Int) → Prop} {r : Nat}
theorem sm_zero {f : Nat → Nat} : ∀ {n : Nat}, sm f n = 0 ↔ ∀ i, i < n → f i = 0
  | 0 => ⟨fun _ i hi => absurd hi (Nat.not_lt_zero i), fun _ => rfl⟩
  | n + 1 => by
    rw [sm_s]
    constructor
    · intro h i hi
      by_cases e : i = n
      · subst e; omega
      · exact (sm_zero (n := n)).mp (by omega) i (by omega)
    · intro h
      have := (sm_zero (n := n)).mpr (fun i hi => h i (by omega))
      have := h n (by omega)
      omega
theorem sm_but {f g : Nat → Nat} {i : Nat} (hg : ∀ j, j ≠ i → g j = f j) (h0 : g i = 0) : ∀ {n : Nat}, i < n → sm f n = sm g n + f i
  | n + 1, h => by
    rw [sm_s, sm_s]
    by_cases e : i = n
    · subst e
      rw [h0, sm_congr (f := f) (g := g) (fun j hj => (hg j (by omega)).symm)]; omega
    · rw [sm_but hg h0 (n := n) (by omega), hg n (fun z => e z.symm)]; omega
theorem mis_all : mis B K r = 0 ↔ avb B K r (-1) := by
  unfold mis avb
  rw [sm_zero]
  constructor
  · intro h i hi _ h8 hN
    have := h i hi
    unfold ms at this; rw [if_pos h8, if_pos hN] at this; omega
  · intro h i hi
    unfold ms
    by_cases h8 : gsg B r i < 8
    · rw [if_pos h8, if_neg (h i hi (by omega) h8)]
    · rw [if_neg h8]
theorem mis_but {i : Nat} (hi : i < gsz B r) (h8 : gsg B r i < 8) : mis B K r = ms K (gsg B r i) ↔ avb B K r (i : Int) := by
  have e := sm_but (f := fun j => ms K (gsg B r j)) (g := fun j => if j = i then 0 else ms K (gsg B r j)) (i := i) (fun j hj => by rw [if_neg hj]) (by rw [if_pos rfl]) hi
  have e2 : mis B K r = sm (fun j => if j = i then 0 else ms K (gsg B r j)) (gsz B r) + ms K (gsg B r i) := e
  rw [e2]
  constructor
  · intro h j hj ne g8 hN
    have z := (sm_zero (f := fun j => if j = i then 0 else ms K (gsg B r j)) (n := gsz B r)).mp (by omega) j hj
    rw [if_neg (by omega)] at z
    unfold ms at z; rw [if_pos g8, if_pos hN] at z; omega
  · intro h
    have z := (sm_zero (f := fun j => if j = i then 0 else ms K (gsg B r j)) (n := gsz B r)).mpr (fun j hj => by
      by_cases e : j = i
      · rw [if_pos e]
      · rw [if_neg e]
        unfold ms
        by_cases g8 : gsg B r j < 8
        · rw [if_pos g8, if_neg (h j hj (by omega) g8)]
        · rw [if_neg g8])
    omega
theorem rcx_all (h : avb B K r (-1)) : rcx B K r = rc B K r ∧ rmx B K r = rm B K r := by
  rw [rc_eq, rm_eq]
  unfold rcx rmx
  constructor
  · congr 1; refine sm_congr (fun i hi => ?_)
    unfold cx cq
    by_cases h8 : gsg B r i < 8
    · rw [if_pos h8, if_pos h8, if_neg (h i hi (by omega) h8)]
    · rw [if_neg h8, if_neg h8]
  · congr 1; refine sm_congr (fun i hi => ?_)
    unfold mx mq
    by_cases h8 : gsg B r i < 8
    · rw [if_pos h8, if_pos h8, if_neg (h i hi (by omega) h8)]
    · rw [if_neg h8, if_neg h8]
theorem rcx_but {i : Nat} (hi : i < gsz B r) (h : avb B K r (i : Int)) : rcx B K r = rcb B K r (i : Int) + cx K (gsg B r i) ∧ rmx B K r = rmb B K r (i : Int) + mx K (gsg B r i) := by
  have e1 := sm_but (f := fun j => cx K (gsg B r j)) (g := fun j => if (j : Int) = (i : Int) then 0 else cx K (gsg B r j)) (i := i) (fun j hj => by rw [if_neg (by omega)]) (by rw [if_pos rfl]) hi
  have e2 := sm_but (f := fun j => mx K (gsg B r j)) (g := fun j => if (j : Int) = (i : Int) then 0 else mx K (gsg B r j)) (i := i) (fun j hj => by rw [if_neg (by omega)]) (by rw [if_pos rfl]) hi
  have a1 : sm (fun j => if (j : Int) = (i : Int) then 0 else cx K (gsg B r j)) (gsz B r) = sm (fun j => if (j : Int) = (i : Int) then 0 else cq K (gsg B r j)) (gsz B r) := sm_congr (fun j hj => by
    by_cases e : (j : Int) = (i : Int)
    · rw [if_pos e, if_pos e]
    · rw [if_neg e, if_neg e]
      unfold cx cq
      by_cases h8 : gsg B r j < 8
      · rw [if_pos h8, if_pos h8, if_neg (h j hj e h8)]
      · rw [if_neg h8, if_neg h8])
  have a2 : sm (fun j => if (j : Int) = (i : Int) then 0 else mx K (gsg B r j)) (gsz B r) = sm (fun j => if (j : Int) = (i : Int) then 0 else mq K (gsg B r j)) (gsz B r) := sm_congr (fun j hj => by
    by_cases e : (j : Int) = (i : Int)
    · rw [if_pos e, if_pos e]
    · rw [if_neg e, if_neg e]
      unfold mx mq
      by_cases h8 : gsg B r j < 8
      · rw [if_pos h8, if_pos h8, if_neg (h j hj e h8)]
      · rw [if_neg h8, if_neg h8])
  unfold rcx rmx rcb rmb
  omega
theorem x_hasYield (h : kA 23 K M) {s : Nat} (hs : s < 8) (h1 : K s ≠ NK → Q 1 M) (h0 : K s = NK → Q 0 M) : am_s am_P am_gg (d + 1) 19 [.inr (.inr 23), .inl (s : Int)] M Q := by
  have hN := NK_eq
  obtain ⟨e, le⟩ := h s hs
  refine (v_19_23 _ _ _ _).mpr ?_
  rw [e]
  rw [if_pos (by omega)]
  refine @p_if _ _ _ _ ?_ ?_
  · intro q; exact h0 (by omega)
  · intro q; exact h1 (by omega)
theorem x_yieldCost (h : kA 23 K M) {s : Nat} (hs : s < 8) (hQ : Q (cx K s : Int) M) : am_s am_P am_gg (d + 1) 20 [.inr (.inr 23), .inl (s : Int)] M Q := by
  have hN := NK_eq
  obtain ⟨e, le⟩ := h s hs
  unfold cx at hQ
  rw [if_pos hs] at hQ
  refine (v_20_23 _ _ _ _).mpr ?_
  rw [e]
  rw [if_pos (by omega)]
  refine @p_if _ _ _ _ ?_ ?_
  · intro q; rw [if_pos (by omega)] at hQ; exact hQ
  · intro q
    rw [if_pos (by omega)]
    rw [if_neg (by omega)] at hQ
    rw [show (16 : Int) = ((16 : Nat) : Int) from rfl, shr_div (by omega) (by omega)]; exact hQ
theorem x_yieldRules (h : kA 23 K M) {s : Nat} (hs : s < 8) (hQ : Q (mx K s : Int) M) : am_s am_P am_gg (d + 1) 21 [.inr (.inr 23), .inl (s : Int)] M Q := by
  have hN := NK_eq
  obtain ⟨e, le⟩ := h s hs
  unfold mx at hQ
  rw [if_pos hs] at hQ
  refine (v_21_23 _ _ _ _).mpr ?_
  rw [e]
  rw [if_pos (by omega)]
  refine @p_if _ _ _ _ ?_ ?_
  · intro q; rw [if_pos (by omega)] at hQ; exact hQ
  · intro q
    rw [if_pos (by omega)]
    rw [if_neg (by omega)] at hQ
    rw [show (4 : Int) = ((4 : Nat) : Int) from rfl, shr_div (by omega) (by omega), show (4095 : Int) = ((2 ^ 12 - 1 : Nat) : Int) from rfl, and_mod (by omega) (by omega)]; exact hQ
theorem x_yieldRule (h : kA 23 K M) {s : Nat} (hs : s < 8) (hQ : Q ((K s % 16 : Nat) : Int) M) : am_s am_P am_gg (d + 1) 22 [.inr (.inr 23), .inl (s : Int)] M Q := by
  have hN := NK_eq
  obtain ⟨e, le⟩ := h s hs
  refine (v_22_23 _ _ _ _).mpr ?_
  rw [e]
  rw [if_pos (by omega)]
  rw [show (15 : Int) = ((2 ^ 4 - 1 : Nat) : Int) from rfl, and_mod (by omega) (by omega)]; exact hQ
theorem x_weighRow (hW : gW B) (hg : xgb B M 2) (hK : kA 23 K M) (hr : r < B 0) (hQ : Q 0 (am_up (am_up (am_up M 27 (r : Int) (rcx B K r : Int)) 28 (r : Int) (rmx B K r : Int)) 29 (r : Int) (mis B K r : Int))) : am_s am_P am_gg (d + 2) 35 [.inr (.inr 23), .inl (r : Int)] M Q := by
  have hn := hW.1
  have hN := NK_eq
  obtain ⟨-, hz, hz4, hwt, hs⟩ := hW.2.2.2.1 r hr
  refine (v_35_23 _ _ _ _).mpr ?_
  rw [xg_w hg hr]
  rw [if_pos (by omega)]
  have bd : ∀ i, i ≤ 4 → sm (fun i => cx K (gsg B r i)) i ≤ 131072 ∧ sm (fun i => mx K (gsg B r i)) i ≤ 16384 ∧ sm (fun i => ms K (gsg B r i)) i ≤ 4 := by
    intro i hi
    have a1 := sm_le (f := fun i => cx K (gsg B r i)) (a := 32768) (n := i) (fun j hj => by
      unfold cx; split
      · rename_i h8
        have := (hK _ h8).2
        split <;> omega
      · omega)
    have a2 := sm_le (f := fun i => mx K (gsg B r i)) (a := 4096) (n := i) (fun j hj => by
      unfold mx; split
      · split <;> omega
      · omega)
    have a3 := sm_le (f := fun i => ms K (gsg B r i)) (a := 1) (n := i) (fun j hj => by
      unfold ms; split
      · split <;> omega
      · omega)
    omega
  refine p_for (S := Nat × Nat × Nat) (X := fun i x => am_x am_P am_gg (d + 1) am_k35 0 Q 18 [some (.inr (.inr 23)), some (.inl ((r : Int))), some (.inl ((x.1 : Int))), some (.inl ((x.2.1 : Int))), some (.inl ((x.2.2 : Int))), some (.inl (i)), none] [] M 0 0) (gsz B r) (fun i x => x.1 = gwt B r + sm (fun i => cx K (gsg B r i)) i ∧ x.2.1 = 1 + sm (fun i => mx K (gsg B r i)) i ∧ x.2.2 = sm (fun i => ms K (gsg B r i)) i) ?_ ?_ 0 (gwt B r, 1, 0) (by omega) ⟨rfl, rfl, rfl⟩
  · intro x ⟨e1, e2, e3⟩
    obtain ⟨a, b, c⟩ := x
    dsimp only at e1 e2 e3 ⊢
    refine (h_35_18_23 _ _ _ _ _ _ _ _).mpr ?_
    rw [xg_sz hg hr]
    rw [if_pos (by omega)]
    rw [if_neg (by omega)]
    rw [if_pos (by omega)]
    rw [if_pos (by omega)]
    rw [if_pos (by omega)]
    rw [e1, e2, e3]; exact hQ
  · intro i x hi ⟨e1, e2, e3⟩ k
    obtain ⟨a, b, c⟩ := x
    dsimp only at e1 e2 e3 ⊢
    have hsi := hs i hi
    have bd0 := bd i (by omega)
    have bd1 := bd (i + 1) (by omega)
    have nx : ∀ a' b' c' : Nat, a' = a + cx K (gsg B r i) → b' = b + mx K (gsg B r i) → c' = c + ms K (gsg B r i) → am_x am_P am_gg (d + 1) am_k35 0 Q 18 [some (.inr (.inr 23)), some (.inl ((r : Int))), some (.inl ((a' : Int))), some (.inl ((b' : Int))), some (.inl ((c' : Int))), some (.inl (((i + 1 : Nat) : Int))), some (.inl ((gsg B r i : Int)))] [] M 0 0 := by
      intro a' b' c' h1 h2 h3
      refine am_x_le [some (.inr (.inr 23)), some (.inl ((r : Int))), some (.inl ((a' : Int))), some (.inl ((b' : Int))), some (.inl ((c' : Int))), some (.inl (((i + 1 : Nat) : Int))), none] (am_lb_le _ _ ⟨rfl, rfl, rfl, rfl, rfl, rfl, trivial⟩) ?_
      exact k (a', b', c') ⟨by dsimp only; rw [sm_s]; omega, by dsimp only; rw [sm_s]; omega, by dsimp only; rw [sm_s]; omega⟩
    have k1 := sm_s (f := fun i => cx K (gsg B r i)) (n := i)
    have k2 := sm_s (f := fun i => mx K (gsg B r i)) (n := i)
    have k3 := sm_s (f := fun i => ms K (gsg B r i)) (n := i)
    refine (h_35_18_23 _ _ _ _ _ _ _ _).mpr ?_
    rw [xg_sz hg hr, w32_s (i := i) (by omega)]
    rw [if_pos (by omega)]
    rw [if_pos (by omega)]
    refine x_signAt hg hW hr hi ?_
    refine @p_if _ _ _ _ ?_ ?_
    · intro h16
      have h8 : gsg B r i < 8 := by omega
      refine x_hasYield hK h8 ?_ ?_
      · intro hne
        rw [if_neg (by omega)]
        refine x_yieldCost hK h8 (x_yieldRules hK h8 ?_)
        rw [w32_a (by omega), w32_a (by omega)]
        refine nx _ _ _ rfl rfl ?_
        unfold ms; rw [if_pos h8, if_neg hne]; rfl
      · intro heq
        rw [if_pos (by omega)]
        rw [w32_s (i := c) (by omega)]
        refine nx _ _ _ ?_ ?_ ?_
        · unfold cx; rw [if_pos h8, if_pos heq]; rfl
        · unfold mx; rw [if_pos h8, if_pos heq]; rfl
        · unfold ms; rw [if_pos h8, if_pos heq]
    · intro h16
      have h8 : ¬ gsg B r i < 8 := by omega
      have cx1 : cx K (gsg B r i) = 1 := by unfold cx; rw [if_neg h8]
      rw [w32_s (i := a) (by omega)]
      refine nx _ _ _ ?_ ?_ ?_
      · rw [cx1]
      · unfold mx; rw [if_neg h8]; rfl
      · unfold ms; rw [if_neg h8]; rfl
end S83
