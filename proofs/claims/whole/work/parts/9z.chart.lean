/-! what makes what: of a span of a text -/
def mk (B x : Nat → Nat) (D : Nat → Nat → Prop) (c a n : Nat) : Prop := (c < 8 ∧ ∃ r, D r 4 ∧ gsy B r = c ∧ 0 < wR B x r 0 a n) ∨ (16 ≤ c ∧ c < 32 ∧ n = 1 ∧ x a + 16 = c) ∨ ∃ r i, c = 32 + 4 * r + i ∧ i < 4 ∧ D r i ∧ 0 < wR B x r i a n
/-- all that there is to be made -/
def dF (B : Nat → Nat) (r i : Nat) : Prop := gUsd B r ∧ (i + 1 < gsz B r ∨ i = 4)
def dN (_ _ : Nat) : Prop := False
section S9z
variable {B : Nat → Nat} {x : Nat → Nat} {r i a n s k c : Nat} {D : Nat → Nat → Prop}
theorem mk_sg (hW : gW B) (hn : n ≤ 24) (hg : (c < 8 ∧ gRch B c) ∨ (16 ≤ c ∧ c < 32)) : mk B x (dF B) c a n ↔ 0 < wT B x c a n := by
  unfold mk
  rcases hg with ⟨h8, hc⟩ | hg
  · rw [wT_pos_u hW h8 hc hn]
    constructor
    · rintro (⟨_, r, h1, h2, h3⟩ | h | ⟨r, i, h, _⟩)
      · exact ⟨r, h1.1, h2, h3⟩
      · omega
      · omega
    · rintro ⟨r, h1, h2, h3⟩
      exact Or.inl ⟨h8, r, ⟨h1, Or.inr rfl⟩, h2, h3⟩
  · rw [wT_let hW (by omega) hn]
    unfold wL
    constructor
    · rintro (⟨h, _⟩ | ⟨_, _, h1, h2⟩ | ⟨r, i, h, _⟩)
      · omega
      · rw [if_pos h1, if_pos (by omega)]; exact Nat.one_pos
      · omega
    · intro h
      refine Or.inr (Or.inl ⟨hg.1, hg.2, ?_⟩)
      split at h
      · next h1 =>
        split at h
        · next h2 => exact ⟨h1, by omega⟩
        · omega
      · omega
theorem mk_sgn (hW : gW B) (hn : n ≤ 24) (hr : gUsd B r) (hi : i < gsz B r) : mk B x (dF B) (gsg B r i) a n ↔ 0 < wT B x (gsg B r i) a n := by
  refine mk_sg hW hn ?_
  rcases (hW.2.2.2.1 r hr.1).2.2.2.2 i hi with g | g
  · exact Or.inl ⟨g, usd_sg hr hi g⟩
  · exact Or.inr g
theorem mk_rest (h4 : i < 4) : mk B x D (32 + 4 * r + i) a n ↔ D r i ∧ 0 < wR B x r i a n := by
  unfold mk
  constructor
  · rintro (⟨h, _⟩ | ⟨_, h, _⟩ | ⟨r', i', h1, h2, h3⟩)
    · omega
    · omega
    · have e1 : r' = r := by omega
      have e2 : i' = i := by omega
      subst e1; subst e2; exact h3
  · intro h; exact Or.inr (Or.inr ⟨r, i, rfl, h4, h⟩)
theorem wT_1 (h : 0 < wT B x s a n) (hW : gW B) : 1 ≤ n := by
  rcases Nat.eq_zero_or_pos n with q | q
  · subst q; rw [wT_nil hW] at h; omega
  · exact q
/-- what stands behind a place -/
theorem mk_rsc (hW : gW B) (hn : n ≤ 24) (h1 : 1 ≤ n) (hr : gUsd B r) (hi : i + 1 < gsz B r) : mk B x (dF B) (rsc B r i) a n ↔ 0 < wR B x r (i + 1) a n := by
  have hz := hW.2.2.2.1 r hr.1
  unfold rsc
  by_cases e : i + 2 = gsz B r
  · rw [if_pos e, mk_sgn hW hn hr hi, wR_last (by omega) h1]
  · rw [if_neg e, show 32 + 4 * r + i + 1 = 32 + 4 * r + (i + 1) by omega, mk_rest (by omega)]
    constructor
    · intro h; exact h.2
    · intro h; exact ⟨⟨hr, by omega⟩, h⟩
/-- a place of a row, by the cut behind its sign -/
theorem wR_cut (hW : gW B) (hr : gUsd B r) (hi : i + 1 < gsz B r) (hn : n ≤ 24) : 0 < wR B x r i a n ↔ ∃ m, a < m ∧ m < a + n ∧ mk B x (dF B) (gsg B r i) a (m - a) ∧ mk B x (dF B) (rsc B r i) m (a + n - m) := by
  rw [wR_pos (by omega)]
  constructor
  · rintro ⟨k, hk, h1, h2⟩
    have hl := wR_len h2
    refine ⟨a + (k + 1), by omega, by omega, ?_, ?_⟩
    · rw [show a + (k + 1) - a = k + 1 by omega, mk_sgn hW (by omega) hr (by omega)]; exact h1
    · rw [show a + n - (a + (k + 1)) = n - (k + 1) by omega, mk_rsc hW (by omega) (by omega) hr hi]; exact h2
  · rintro ⟨m, hm1, hm2, h1, h2⟩
    obtain ⟨k, rfl⟩ : ∃ k, m = a + (k + 1) := ⟨m - a - 1, by omega⟩
    rw [show a + (k + 1) - a = k + 1 by omega, mk_sgn hW (by omega) hr (by omega)] at h1
    rw [show a + n - (a + (k + 1)) = n - (k + 1) by omega, mk_rsc hW (by omega) (by omega) hr hi] at h2
    exact ⟨k, by omega, h1, h2⟩
end S9z
/-! the chart's steps -/
theorem pig {f : Nat → Nat} {m : Nat} : ∀ {n : Nat}, (∀ j, j < n → f j < m) → (∀ j j', j < j' → j' < n → f j ≠ f j') → n ≤ m := by
  have main : ∀ n : Nat, (∀ j, j < n → f j < m) → (∀ j j', j < j' → j' < n → f j ≠ f j') → cnt (dc (fun q => ∃ j, j < n ∧ f j = q)) m = n := by
    intro n
    induction n with
    | zero => intro _ _; exact cnt_zero (fun k _ => dc_f (fun ⟨j, hj, _⟩ => by omega))
    | succ n ih =>
      intro h1 h2
      rw [← ih (fun j hj => h1 j (by omega)) (fun j j' a b => h2 j j' a (by omega))]
      rw [ih (fun j hj => h1 j (by omega)) (fun j j' a b => h2 j j' a (by omega))]
      rw [cnt_add (p := dc (fun q => ∃ j, j < n ∧ f j = q)) (t := f n) ?_ ?_ ?_ (h1 n (by omega)), ih (fun j hj => h1 j (by omega)) (fun j j' a b => h2 j j' a (by omega))]
      · exact dc_f (fun ⟨j, hj, e⟩ => h2 j n hj (by omega) e)
      · exact dc_iff.mpr ⟨n, by omega, rfl⟩
      · intro k hk
        refine dc_congr ⟨fun ⟨j, hj, e⟩ => ⟨j, by omega, e⟩, fun ⟨j, hj, e⟩ => ?_⟩
        by_cases z : j = n
        · subst z; exact absurd e.symm hk
        · exact ⟨j, by omega, e⟩
  intro n h1 h2
  have := main n h1 h2
  have := cnt_le (p := dc (fun q => ∃ j, j < n ∧ f j = q)) m
  omega
/-- where a symbol stands in the order -/
def oi (o : Nat → Nat) (s : Nat) : Nat := q_fst (fun i => if o i = s then 1 else 0) 8 0
/-- a step's place in the order: by the order of its symbol, by its rule, by its place from behind -/
def spl (i : Nat) : Nat := if i = 4 then 4 else 3 - i
def skey (B o : Nat → Nat) (t : Nat × Nat) : Nat := (oi o (gsy B t.1) * 16 + t.1) * 8 + spl t.2
def sgC (B : Nat → Nat) (t : Nat × Nat) : Int := if t.2 = 4 then -1 else (gsg B t.1 t.2 : Int)
def rsC (B : Nat → Nat) (t : Nat × Nat) : Nat := if t.2 = 4 then rwc B t.1 else rsc B t.1 t.2
def cdC (B : Nat → Nat) (t : Nat × Nat) : Nat := if t.2 = 4 then gsy B t.1 else 32 + 4 * t.1 + t.2
def stI (B o : Nat → Nat) (b n : Nat) (T : Nat → Nat × Nat) (M : (Nat → Int → Int)) : Prop := M 108 13 = (n : Int) ∧ (∀ j, j < n → dF B (T j).1 (T j).2 ∧ skey B o (T j) < b ∧ M 112 (j : Int) = sgC B (T j) ∧ M 113 (j : Int) = (rsC B (T j) : Int) ∧ M 114 (j : Int) = (cdC B (T j) : Int)) ∧ (∀ j j', j < j' → j' < n → skey B o (T j) < skey B o (T j')) ∧ ∀ t, dF B t.1 t.2 → skey B o t < b → ∃ j, j < n ∧ T j = t
/-- an order of the symbols -/
def oO (B o : Nat → Nat) : Prop := (∀ i, i < 8 → o i < 8) ∧ (∀ s, s < 8 → ∃ i, i < 8 ∧ o i = s) ∧ (∀ i j, i < 8 → j < 8 → o i = o j → i = j) ∧ (∀ r, r < B 0 → gsz B r = 1 → gsg B r 0 < 8 → ∀ i j, i < 8 → j < 8 → o i = gsg B r 0 → o j = gsy B r → i < j)
def stF (M M' : (Nat → Int → Int)) : Prop := (∀ c, c ≠ 108 → c ≠ 112 → c ≠ 113 → c ≠ 114 → M' c = M c) ∧ ∀ i : Int, i ≠ 13 → M' 108 i = M 108 i
section S9z2
variable {B o : Nat → Nat} {b n r i s d : Nat} {T : Nat → Nat × Nat} {M M0 : (Nat → Int → Int)} {Q : Int → (Nat → Int → Int) → Prop}
theorem oi_ok (ho : oO B o) (hs : s < 8) : oi o s < 8 ∧ o (oi o s) = s := by
  obtain ⟨i, hi, e⟩ := ho.2.1 s hs
  have q := q_fst_ok (fun i => if o i = s then 1 else 0) 8 0 ⟨i, Nat.zero_le _, by omega, by show 0 < (if _ then _ else _); rw [if_pos e]; exact Nat.one_pos⟩
  have q3 := q.2.2.1
  refine ⟨by have := q.2.1; unfold oi; omega, ?_⟩
  try dsimp only at q3
  split at q3
  · next g => exact g
  · omega
theorem oi_o (ho : oO B o) (hi : i < 8) : oi o (o i) = i := by
  have q := oi_ok ho (ho.1 i hi)
  exact ho.2.2.1 _ _ q.1 hi q.2
theorem dF_lt (hW : gW B) (h : dF B r i) : r < 16 ∧ (i = 4 ∨ i < 3) ∧ r < B 0 ∧ gsy B r < 8 := by
  have h1 := h.1.1
  have hz := hW.2.2.2.1 r h1
  have := hW.1
  rcases h.2 with h | h
  · exact ⟨by omega, by omega, h1, hz.1⟩
  · exact ⟨by omega, Or.inl h, h1, hz.1⟩
theorem spl_lt : spl i ≤ 4 := by unfold spl; split <;> omega
theorem skey_inj (hW : gW B) {t t' : Nat × Nat} (h : dF B t.1 t.2) (h' : dF B t'.1 t'.2) (e : skey B o t = skey B o t') : t = t' := by
  have a1 := dF_lt hW h
  have a2 := dF_lt hW h'
  have l1 := spl_lt (i := t.2)
  have l2 := spl_lt (i := t'.2)
  unfold skey at e
  have e1 : t.1 = t'.1 := by omega
  have e2 : spl t.2 = spl t'.2 := by omega
  have e3 : t.2 = t'.2 := by
    unfold spl at e2
    split at e2 <;> split at e2 <;> omega
  exact Prod.ext e1 e3
theorem st_n (hW : gW B) (h1 : ∀ j, j < n → dF B (T j).1 (T j).2) (h2 : ∀ j j', j < j' → j' < n → skey B o (T j) < skey B o (T j')) : n ≤ 64 := by
  refine pig (f := fun j => (T j).1 * 4 + (if (T j).2 = 4 then 3 else (T j).2)) (fun j hj => ?_) (fun j j' a b => ?_)
  · have := dF_lt hW (h1 j hj)
    try dsimp only
    split <;> omega
  · have a1 := dF_lt hW (h1 j (by omega))
    have a2 := dF_lt hW (h1 j' b)
    have hk := h2 j j' a b
    intro e
    try dsimp only at e
    have e1 : (T j).1 = (T j').1 := by split at e <;> split at e <;> omega
    have e2 : (T j).2 = (T j').2 := by split at e <;> split at e <;> omega
    rw [Prod.ext e1 e2] at hk
    omega
theorem st_lt (hW : gW B) (h : stI B o b n T M) {t : Nat × Nat} (hd : dF B t.1 t.2) (hk : b ≤ skey B o t) : n < 64 := by
  have := st_n (n := n + 1) (T := fun j => if j = n then t else T j) (o := o) hW (fun j hj => ?_) (fun j j' a c => ?_)
  · exact this
  · try dsimp only
    by_cases e : j = n
    · rw [if_pos e]; exact hd
    · rw [if_neg e]; exact (h.2.1 j (by omega)).1
  · try dsimp only
    rw [if_neg (show j ≠ n by omega)]
    by_cases e : j' = n
    · rw [if_pos e]
      have := (h.2.1 j (by omega)).2.1
      omega
    · rw [if_neg e]; exact h.2.2.1 j j' a (by omega)
theorem st_up (h : stI B o b n T M) {b' : Nat} (hb : b ≤ b') (hno : ∀ t, dF B t.1 t.2 → b ≤ skey B o t → skey B o t < b' → False) : stI B o b' n T M := by
  refine ⟨h.1, fun j hj => ?_, h.2.2.1, fun t ht hk => ?_⟩
  · have q := h.2.1 j hj
    exact ⟨q.1, by omega, q.2.2⟩
  · by_cases e : skey B o t < b
    · exact h.2.2.2 t ht e
    · exact absurd (hno t ht (by omega) hk) id
theorem stF_rf : stF M M := ⟨fun _ _ _ _ _ => rfl, fun _ _ => rfl⟩
theorem x_addStep (hW : gW B) (h : stI B o b n T M) (hF : stF M0 M) {t : Nat × Nat} (hd : dF B t.1 t.2) (hk : skey B o t = b) (hQ : ∀ M' T', stI B o (b + 1) (n + 1) T' M' → stF M0 M' → Q 0 M') : am_s am_P am_gg (d + 1) 3 [.inr (.inr 109), .inl (sgC B t), .inl (rsC B t : Int), .inl (cdC B t : Int)] M Q := by
  have hn := st_lt hW h hd (by omega)
  have h1 := h.1
  refine (v_3_109 _ _ _ _ _ _).mpr ?_
  rw [h1]
  rw [if_pos (by omega)]
  rw [if_pos (by omega)]
  rw [if_pos (by omega)]
  rw [if_pos (by omega)]
  rw [w32_s (by omega)]
  refine hQ _ (fun j => if j = n then t else T j) ⟨?_, fun j hj => ?_, fun j j' a c => ?_, fun u hu hku => ?_⟩ ⟨fun c h1 h2 h3 h4 => ?_, fun i hi => ?_⟩
  · rw [up_eq]
  · try dsimp only
    rw [up_nc _ _ _ _ (show (112 : Nat) ≠ 108 by decide), up_nc _ _ _ _ (show (112 : Nat) ≠ 114 by decide), up_nc _ _ _ _ (show (112 : Nat) ≠ 113 by decide), up_ci, up_nc _ _ _ _ (show (113 : Nat) ≠ 108 by decide), up_nc _ _ _ _ (show (113 : Nat) ≠ 114 by decide), up_ci, up_nc _ _ _ _ (show (113 : Nat) ≠ 112 by decide), up_nc _ _ _ _ (show (114 : Nat) ≠ 108 by decide), up_ci, up_nc _ _ _ _ (show (114 : Nat) ≠ 113 by decide), up_nc _ _ _ _ (show (114 : Nat) ≠ 112 by decide)]
    by_cases e : j = n
    · rw [if_pos e, if_pos (by omega), if_pos (by omega), if_pos (by omega)]
      exact ⟨hd, by omega, rfl, rfl, rfl⟩
    · rw [if_neg e, if_neg (by omega), if_neg (by omega), if_neg (by omega)]
      have q := h.2.1 j (by omega)
      exact ⟨q.1, by omega, q.2.2⟩
  · try dsimp only
    rw [if_neg (show j ≠ n by omega)]
    by_cases e : j' = n
    · rw [if_pos e]
      have := (h.2.1 j (by omega)).2.1
      omega
    · rw [if_neg e]; exact h.2.2.1 j j' a (by omega)
  · by_cases e : u = t
    · exact ⟨n, by omega, by dsimp only; rw [if_pos rfl]; exact e.symm⟩
    · have : skey B o u ≠ b := fun q => e (skey_inj (o := o) hW hu hd (by omega))
      obtain ⟨j, hj, ej⟩ := h.2.2.2 u hu (by omega)
      exact ⟨j, by omega, by dsimp only; rw [if_neg (by omega)]; exact ej⟩
  · rw [up_nc _ _ _ _ h1, up_nc _ _ _ _ h4, up_nc _ _ _ _ h3, up_nc _ _ _ _ h2]; exact hF.1 c h1 h2 h3 h4
  · rw [up_ni _ _ _ _ hi, up_nc _ _ _ _ (by decide), up_nc _ _ _ _ (by decide), up_nc _ _ _ _ (by decide)]; exact hF.2 i hi
theorem stF_g (h : stF M0 M) (hg : xgb B M0 2) : xgb B M 2 := xgb_eq hg (fun c h1 h2 => h.1 c (by omega) (by omega) (by omega) (by omega))
def lsO (B o : Nat → Nat) (b : Nat) (M0 M : (Nat → Int → Int)) : Prop := stF M0 M ∧ ∃ n T, stI B o b n T M
/-- the steps of one rule -/
theorem x_ruleSteps (hW : gW B) (hg : xgb B M0 2) {a b : Int} (hr : gUsd B r) (hQ : ∀ M', lsO B o ((oi o (gsy B r) * 16 + r) * 8 + 5) M0 M' → am_x am_P am_gg (d + 1) am_k2 0 Q 25 [some (.inr (.inr 109)), some (.inl (a)), some (.inl ((gsy B r : Int))), some (.inl (w32 ((r : Int) + 1))), none, none] [] M' 0 0) : ∀ i (M : (Nat → Int → Int)), i < gsz B r → lsO B o ((oi o (gsy B r) * 16 + r) * 8 + (4 - i)) M0 M → am_x am_P am_gg (d + 1) am_k2 0 Q 73 [some (.inr (.inr 109)), some (.inl (a)), some (.inl ((gsy B r : Int))), some (.inl ((r : Int))), some (.inl ((i : Int) - 1)), none] [] M 0 0 := by
  have hz := hW.2.2.2.1 r hr.1
  have hr1 := hr.1
  have hn16 := hW.1
  intro i M hi hI
  refine p_down (S := (Nat → Int → Int)) (X := fun e M => am_x am_P am_gg (d + 1) am_k2 0 Q 73 [some (.inr (.inr 109)), some (.inl (a)), some (.inl ((gsy B r : Int))), some (.inl ((r : Int))), some (.inl (e)), none] [] M 0 0) (fun i M => i < gsz B r ∧ lsO B o ((oi o (gsy B r) * 16 + r) * 8 + (4 - i)) M0 M) ?_ ?_ i M ⟨hi, hI⟩
  · rintro M1 ⟨_, hF1, n, T, h1⟩
    refine (h_2_73_109 _ _ _ _ _ _ _).mpr ?_
    rw [if_pos (by omega)]
    refine x_rowCode (stF_g hF1 hg) hW hr.1 ?_
    refine x_addStep (t := (r, 4)) hW h1 hF1 ⟨hr, Or.inr rfl⟩ rfl (fun M2 T2 h2 hF2 => ?_)
    refine am_x_le [some (.inr (.inr 109)), some (.inl (a)), some (.inl ((gsy B r : Int))), some (.inl (w32 ((r : Int) + 1))), none, none] (am_lb_le _ _ ⟨rfl, rfl, rfl, rfl, trivial⟩) ?_
    exact hQ M2 ⟨hF2, _, _, h2⟩
  · rintro j M1 ⟨hj, hF1, n, T, h1⟩ go
    refine (h_2_73_109 _ _ _ _ _ _ _).mpr ?_
    rw [if_neg (by omega)]
    refine x_signAt (stF_g hF1 hg) hW hr.1 (by omega) ?_
    refine x_restCode (stF_g hF1 hg) hW hr.1 (by omega) ?_
    rw [show w32 ((r : Int) * 4) = ((4 * r : Nat) : Int) by rw [w32_i (by omega) (by omega)]; omega, show w32 (32 + ((4 * r : Nat) : Int)) = ((32 + 4 * r : Nat) : Int) by rw [w32_i (by omega) (by omega)]; omega, show w32 (((32 + 4 * r : Nat) : Int) + (j : Int)) = ((32 + 4 * r + j : Nat) : Int) by rw [w32_i (by omega) (by omega)]; omega]
    have e1 : sgC B (r, j) = (gsg B r j : Int) := by unfold sgC; rw [if_neg (by dsimp only; omega)]
    have e2 : rsC B (r, j) = rsc B r j := by unfold rsC; rw [if_neg (by dsimp only; omega)]
    have e3 : cdC B (r, j) = 32 + 4 * r + j := by unfold cdC; rw [if_neg (by dsimp only; omega)]
    have ek : skey B o (r, j) = (oi o (gsy B r) * 16 + r) * 8 + (4 - (j + 1)) := by unfold skey spl; dsimp only; rw [if_neg (by omega)]; omega
    have q := x_addStep (d := d) (t := (r, j)) (Q := fun _ M5 => am_x am_P am_gg (d + 1) am_k2 0 Q 73 [some (.inr (.inr 109)), some (.inl (a)), some (.inl ((gsy B r : Int))), some (.inl ((r : Int))), some (.inl (w32 ((j : Int) + (-1)))), some (.inl (((32 + 4 * r + j : Nat) : Int)))] [] M5 0 0) hW h1 hF1 ⟨hr, Or.inl (by dsimp only; omega)⟩ ek (fun M2 T2 h2 hF2 => by
      refine am_x_le [some (.inr (.inr 109)), some (.inl (a)), some (.inl ((gsy B r : Int))), some (.inl ((r : Int))), some (.inl (w32 ((j : Int) + (-1)))), none] (am_lb_le _ _ ⟨rfl, rfl, rfl, rfl, rfl, trivial⟩) ?_
      rw [show w32 ((j : Int) + (-1)) = (j : Int) - 1 by rw [w32_i (by omega) (by omega)]; omega]
      refine go M2 ⟨by omega, hF2, n + 1, T2, ?_⟩
      rw [show (oi o (gsy B r) * 16 + r) * 8 + (4 - j) = (oi o (gsy B r) * 16 + r) * 8 + (4 - (j + 1)) + 1 by omega]; exact h2)
    rw [e1, e2, e3] at q
    exact q
theorem x_listSteps (hW : gW B) (hg : xgb B M 2) (ho : oO B o) (h7 : ∀ i : Nat, i < 8 → M 7 (i : Int) = (o i : Int)) (hu : bs (M 16 5) (gUsd B)) (hQ : ∀ M', lsO B o 1024 M M' → Q 0 M') : am_s am_P am_gg (d + 2) 2 [.inr (.inr 109)] M Q := by
  have hn16 := hW.1
  refine (v_2_109 _ _ _).mpr ?_
  refine p_for (S := (Nat → Int → Int)) (X := fun i M => am_x am_P am_gg (d + 1) am_k2 0 Q 7 [some (.inr (.inr 109)), some (.inl (i)), none, none, none, none] [] M 0 0) 8 (fun i M' => lsO B o (i * 128) M M') ?_ ?_ 0 _ (by omega) ⟨⟨fun c h1 _ _ _ => up_nc _ _ _ _ h1, fun i hi => up_ni _ _ _ _ hi _⟩, 0, fun _ => (0, 0), up_eq _ _ _ _, fun j hj => absurd hj (Nat.not_lt_zero j), fun j j' _ hj => absurd hj (Nat.not_lt_zero j'), fun t _ hk => absurd hk (Nat.not_lt_zero _)⟩
  · intro M1 hI
    refine (h_2_7_109 _ _ _ _).mpr ?_
    rw [if_neg (by omega)]
    exact hQ M1 hI
  · intro i M1 hi hI go
    refine (h_2_7_109 _ _ _ _).mpr ?_
    rw [if_pos (by omega)]
    rw [if_pos (by omega)]
    have e7 : M1 7 (i : Int) = (o i : Int) := by rw [hI.1.1 7 (by decide) (by decide) (by decide) (by decide)]; exact h7 i hi
    rw [e7]
    refine p_for (S := (Nat → Int → Int)) (X := fun r M => am_x am_P am_gg (d + 1) am_k2 0 Q 25 [some (.inr (.inr 109)), some (.inl ((i : Int))), some (.inl ((o i : Int))), some (.inl (r)), none, none] [] M 0 0) (B 0) (fun r M' => lsO B o ((i * 16 + r) * 8) M M') ?_ ?_ 0 M1 (by omega) (by rw [show (i * 16 + 0) * 8 = i * 128 by omega]; exact hI)
    · rintro M2 ⟨hF2, n, T, h2⟩
      refine (h_2_25_109 _ _ _ _ _ _).mpr ?_
      rw [xg_n (stF_g hF2 hg)]
      rw [if_neg (by omega)]
      refine am_x_le [some (.inr (.inr 109)), some (.inl (w32 ((i : Int) + 1))), none, none, none, none] (am_lb_le _ _ ⟨rfl, rfl, trivial⟩) ?_
      rw [w32_s (by omega)]
      refine go M2 ⟨hF2, n, T, st_up h2 (by omega) (fun t ht hk1 hk2 => ?_)⟩
      have := dF_lt hW ht
      have := spl_lt (i := t.2)
      unfold skey at hk1 hk2
      omega
    · rintro r M2 hr ⟨hF2, n, T, h2⟩ gor
      refine (h_2_25_109 _ _ _ _ _ _).mpr ?_
      rw [xg_n (stF_g hF2 hg), xg_sy (stF_g hF2 hg) hr]
      rw [if_pos (by omega)]
      rw [if_pos (by omega)]
      have skip : ¬ (gUsd B r ∧ gsy B r = o i) → am_x am_P am_gg (d + 1) am_k2 0 Q 25 [some (.inr (.inr 109)), some (.inl ((i : Int))), some (.inl ((o i : Int))), some (.inl (w32 ((r : Int) + 1))), none, none] [] M2 0 0 := by
        intro hno
        rw [w32_s (by omega)]
        refine gor M2 ⟨hF2, n, T, st_up h2 (by omega) (fun t ht hk1 hk2 => hno ?_)⟩
        have a1 := dF_lt hW ht
        have := spl_lt (i := t.2)
        unfold skey at hk1 hk2
        have e1 : t.1 = r := by omega
        have e2 : oi o (gsy B t.1) = i := by omega
        have e3 := (oi_ok ho a1.2.2.2).2
        rw [e2] at e3
        rw [← e1]
        exact ⟨ht.1, e3.symm⟩
      refine @p_if _ _ _ _ ?_ ?_
      · intro e
        have e : gsy B r = o i := by omega
        refine x_isUsed (by omega) (by rw [hF2.1 16 (by decide) (by decide) (by decide) (by decide)]; exact hu) (fun hus => ?_) (fun hus => ?_)
        · rw [if_neg (by omega)]
          rw [if_pos (by omega)]
          have hz := hW.2.2.2.1 r hr
          have eo : oi o (gsy B r) = i := by rw [e]; exact oi_o ho hi
          rw [xg_sz (stF_g hF2 hg) hr, show w32 ((gsz B r : Int) - 2) = ((gsz B r - 1 : Nat) : Int) - 1 by rw [w32_i (by omega) (by omega)]; omega, ← e]
          refine x_ruleSteps (o := o) (b := 0) hW hg hus (fun M3 h3 => ?_) (gsz B r - 1) M2 (by omega) ⟨hF2, n, T, st_up h2 (by rw [eo]; omega) (fun t ht hk1 hk2 => ?_)⟩
          · rw [w32_s (by omega), e]
            obtain ⟨hF3, n3, T3, h3⟩ := h3
            rw [eo] at h3
            refine gor M3 ⟨hF3, n3, T3, st_up h3 (by omega) (fun t ht hk1 hk2 => ?_)⟩
            have := dF_lt hW ht
            have := spl_lt (i := t.2)
            unfold skey at hk1 hk2
            omega
          · have a1 := dF_lt hW ht
            have := spl_lt (i := t.2)
            unfold skey at hk1 hk2
            rw [eo] at hk2
            have e1 : t.1 = r := by omega
            have hs : spl t.2 < 4 - (gsz B r - 1) := by omega
            have h4 := ht.2
            rw [e1] at h4
            unfold spl at hs
            split at hs <;> omega
        · rw [if_pos (by omega)]
          exact skip (fun q => hus q.1)
      · intro e; exact skip (fun q => e (by omega))
end S9z2
