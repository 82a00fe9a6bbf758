/-! the class builds the own tree -/
def ctp (B x : Nat → Nat) (r a n : Nat) : Nat → Nat
  | 0 => a
  | i + 1 => ctp B x r a n i + (cu B x r i (ctp B x r a n i) (a + n - ctp B x r a n i) + 1)
/-- the symbols of a row, where they begin, how much they make: so many from behind -/
def kdn (B x : Nat → Nat) (r a n : Nat) : Nat → List nd
  | 0 => []
  | j + 1 => if gsg B r (gsz B r - (j + 1)) < 8 then (gsg B r (gsz B r - (j + 1)), ctp B x r a n (gsz B r - (j + 1)), cu B x r (gsz B r - (j + 1)) (ctp B x r a n (gsz B r - (j + 1))) (a + n - ctp B x r a n (gsz B r - (j + 1))) + 1) :: kdn B x r a n j else kdn B x r a n j
def fl (B x : Nat → Nat) : List nd → List nd
  | [] => []
  | t :: l => (yT B x t.1 t.2.1 t.2.2).1 ++ fl B x l
def tot : List nd → Nat
  | [] => 0
  | t :: l => t.2.2 + tot l
def vld (B x : Nat → Nat) (N : Nat) : List nd → Prop
  | [] => True
  | t :: l => (t.1 < 8 ∧ gRch B t.1 ∧ 1 ≤ t.2.2 ∧ t.2.1 + t.2.2 ≤ N ∧ 0 < wT B x t.1 t.2.1 t.2.2) ∧ vld B x N l
section Sa4
variable {B x o : Nat → Nat} {a n r i j s k c e f d m N : Nat} {T : Nat → Nat × Nat} {M M0 : (Nat → Int → Int)} {Q : Int → (Nat → Int → Int) → Prop}
theorem ctp_ok (h : 0 < wR B x r 0 a n) : ∀ i, i ≤ gsz B r → a + i ≤ ctp B x r a n i ∧ ctp B x r a n i ≤ a + n ∧ 0 < wR B x r i (ctp B x r a n i) (a + n - ctp B x r a n i)
  | 0, _ => ⟨Nat.le_refl _, by show a ≤ a + n; omega, by show 0 < wR B x r 0 a (a + n - a); rw [Nat.add_sub_cancel_left]; exact h⟩
  | i + 1, hi => by
    obtain ⟨h1, h2, h3⟩ := ctp_ok h i (by omega)
    obtain ⟨c1, c2, c3, c4, c5, c6⟩ := cu_ok (by omega) h3
    show a + (i + 1) ≤ ctp B x r a n i + (cu B x r i (ctp B x r a n i) (a + n - ctp B x r a n i) + 1) ∧ ctp B x r a n i + (cu B x r i (ctp B x r a n i) (a + n - ctp B x r a n i) + 1) ≤ a + n ∧ 0 < wR B x r (i + 1) (ctp B x r a n i + (cu B x r i (ctp B x r a n i) (a + n - ctp B x r a n i) + 1)) (a + n - (ctp B x r a n i + (cu B x r i (ctp B x r a n i) (a + n - ctp B x r a n i) + 1)))
    refine ⟨by omega, by omega, ?_⟩
    rw [Nat.sub_add_eq]; exact c3
theorem ctp_end (h : 0 < wR B x r 0 a n) : ctp B x r a n (gsz B r) = a + n := by
  obtain ⟨h1, h2, h3⟩ := ctp_ok h (gsz B r) (Nat.le_refl _)
  rw [wR_end] at h3
  split at h3
  · omega
  · omega
theorem ctp_s : ctp B x r a n (i + 1) = ctp B x r a n i + (cu B x r i (ctp B x r a n i) (a + n - ctp B x r a n i) + 1) := rfl
theorem kdn_s (hi : i + j + 1 = gsz B r) : kdn B x r a n (j + 1) = if gsg B r i < 8 then (gsg B r i, ctp B x r a n i, cu B x r i (ctp B x r a n i) (a + n - ctp B x r a n i) + 1) :: kdn B x r a n j else kdn B x r a n j := by
  have e : gsz B r - (j + 1) = i := by omega
  show (if _ then _ else _) = _
  rw [e]
theorem fl_app : ∀ l l' : List nd, fl B x (l ++ l') = fl B x l ++ fl B x l'
  | [], l' => rfl
  | t :: l, l' => by
    show (yT B x t.1 t.2.1 t.2.2).1 ++ fl B x (l ++ l') = ((yT B x t.1 t.2.1 t.2.2).1 ++ fl B x l) ++ fl B x l'
    rw [fl_app l l', List.append_assoc]
theorem tot_app : ∀ l l' : List nd, tot (l ++ l') = tot l + tot l'
  | [], l' => by show tot l' = 0 + tot l'; omega
  | t :: l, l' => by
    show t.2.2 + tot (l ++ l') = t.2.2 + tot l + tot l'
    rw [tot_app l l']; omega
theorem vld_app : ∀ {l l' : List nd}, vld B x N l → vld B x N l' → vld B x N (l ++ l')
  | [], _, _, h => h
  | t :: l, _, h, h' => ⟨h.1, vld_app h.2 h'⟩
theorem tot_len : ∀ {l : List nd}, vld B x N l → l.length ≤ tot l
  | [], _ => Nat.le_refl _
  | t :: l, h => by
    have := tot_len h.2
    have := h.1.2.2.1
    show l.length + 1 ≤ t.2.2 + tot l
    omega
/-- what the symbols of a row are -/
theorem kdn_ok (hW : gW B) (hr : gUsd B r) (h : 0 < wR B x r 0 a n) (hN : a + n ≤ N) : ∀ j i, i + j = gsz B r → fl B x (kdn B x r a n j) = (yR' B x r i (ctp B x r a n i) (a + n - ctp B x r a n i)).1 ∧ vld B x N (kdn B x r a n j) ∧ tot (kdn B x r a n j) ≤ a + n - ctp B x r a n i
  | 0, i, hi => by
    have e : i = gsz B r := by omega
    subst e
    rw [yR_end]
    exact ⟨rfl, trivial, Nat.zero_le _⟩
  | j + 1, i, hi => by
    obtain ⟨h1, h2, h3⟩ := ctp_ok h i (by omega)
    obtain ⟨c1, c2, c3, c4, c5, c6⟩ := cu_ok (by omega) h3
    obtain ⟨q1, q2, q3⟩ := kdn_ok hW hr h hN j (i + 1) (by omega)
    rw [kdn_s (i := i) (by omega)]
    have hst := yR_step (B := B) (x := x) (r := r) (i := i) (a := ctp B x r a n i) (n := a + n - ctp B x r a n i) (by omega)
    rw [ctp_s] at q1 q3
    rw [Nat.sub_add_eq] at q1
    rw [hst]
    by_cases g : gsg B r i < 8
    · rw [if_pos g]
      refine ⟨?_, ⟨⟨g, usd_sg hr (by omega) g, by dsimp only; omega, by dsimp only; omega, c2⟩, q2⟩, ?_⟩
      · show (yT B x _ _ _).1 ++ fl B x _ = _
        rw [q1]
      · show _ + 1 + tot _ ≤ _
        try dsimp only
        omega
    · rw [if_neg g]
      refine ⟨?_, q2, by omega⟩
      rw [q1, yT_let g]; rfl
theorem fl_exp (hW : gW B) (hs : s < 8) (hc : gRch B s) (hn : n ≤ 16) (h : 0 < wT B x s a n) (l : List nd) : fl B x ((s, a, n) :: l) = (ru B x s a n, a, n) :: fl B x (kdn B x (ru B x s a n) a n (gsz B (ru B x s a n)) ++ l) := by
  obtain ⟨c1, c2, c3, c4, c5⟩ := ru_ok hW hs (by omega) h
  show (yT B x s a n).1 ++ fl B x l = _
  have hu : gUsd B (ru B x s a n) := wR_usd c1 c2 (by rw [c3]; exact hc) c4
  rw [yT_sym hW hs (by omega) h, fl_app, (kdn_ok hW hu c4 (Nat.le_refl _) (gsz B (ru B x s a n)) 0 (by omega)).1]
  show _ :: (yR' B x _ 0 a n).1 ++ _ = _ :: ((yR' B x _ 0 a (a + n - a)).1 ++ _)
  rw [Nat.add_sub_cancel_left]; rfl
/-- the chart's readers -/
theorem mk_rwcF (hW : gW B) (hr : gUsd B r) (h1 : 1 ≤ n) (hn : n ≤ 24) : mk B x (dF B) (rwc B r) a n ↔ 0 < wR B x r 0 a n := by
  have hz := hW.2.2.2.1 r hr.1
  unfold rwc
  by_cases e : gsz B r = 1
  · rw [if_pos e, mk_sgn hW hn hr (by omega), wR_last (by omega) h1]
  · rw [if_neg e, show 32 + 4 * r = 32 + 4 * r + 0 from rfl, mk_rest (by omega)]
    exact ⟨fun q => q.2, fun q => ⟨⟨hr, Or.inl (by omega)⟩, q⟩⟩
theorem x_makes (hc : c < 96) (he : e ≤ 16) (ha : a < e) (h : colF B x e M) (h1 : mk B x (dF B) c a (e - a) → Q 1 M) (h0 : ¬ mk B x (dF B) c a (e - a) → Q 0 M) : am_s am_P am_gg (d + 1) 8 [.inr (.inr 109), .inl (c : Int), .inl (a : Int), .inl (e : Int)] M Q := by
  refine (v_8_109 _ _ _ _ _ _).mpr ?_
  rw [w_96' he hc, if_pos (b_96 he hc)]
  refine p_bit (h c hc) (by omega) (fun q => h0 (fun z => q ⟨ha, z⟩)) (fun q => h1 q.2)
def enF (B x : Nat → Nat) (f N g a e : Nat) : Prop := (g < 8 ∧ a < e ∧ e ≤ f ∧ mk B x (dF B) g a (e - a)) ∨ (16 ≤ g ∧ g < 32 ∧ a < N ∧ e = a + 1 ∧ x a + 16 = g)
theorem x_cutsOf {g : Nat} (hC : chT B x o N f n T M) (hg : g < 8 ∨ (16 ≤ g ∧ g < 32)) (hc : c < 96) (ha : a < e) (he : 1 ≤ e ∧ e ≤ f) (hQ : ∀ v, bs v (fun m => enF B x f N g a m ∧ (m < e ∧ mk B x (dF B) c m (e - m))) → Q v M) : am_s am_P am_gg (d + 2) 9 [.inr (.inr 109), .inl (g : Int), .inl (c : Int), .inl (a : Int), .inl (e : Int)] M Q := by
  obtain ⟨t1, t2, t3, t4, t5, t6, t7, t8, t9, t10⟩ := hC
  refine (v_9_109 _ _ _ _ _ _ _).mpr ?_
  refine x_endsOf (x := x) (B := B) (T := T) (e0 := f + 1) (a0 := 100) (f0 := 0) (N := N) (fun s a h1 h2 => bs_cong (t10 s a h1 h2) (fun e => ?_)) t3 (by omega) (by omega) (fun j h1 h2 => t8 j (by omega)) hg (fun v hv => ?_)
  · unfold enS
    constructor
    · rintro ⟨q1, q2, q3⟩; exact Or.inl ⟨h1, q1, Or.inl ⟨by omega, q3⟩⟩
    · rintro (⟨_, q1, ⟨q2, q3⟩ | ⟨q2, q3⟩⟩ | q)
      · exact ⟨q1, by omega, q3⟩
      · exfalso
        unfold mk DD at q3
        rcases q3 with ⟨_, r, z, _⟩ | z | ⟨r, i, _, _, z, _⟩
        · rcases z with z | ⟨z, j, hj, _⟩
          · omega
          · omega
        · omega
        · rcases z with z | ⟨z, j, hj, _⟩
          · omega
          · omega
      · omega
  · rw [w_96' (by omega) hc, if_pos (b_96 (by omega) hc)]
    refine hQ _ (bs_cong (bs_and hv (t9 e he.1 he.2 c hc)) (fun m => ?_))
    constructor
    · rintro ⟨q1, q2⟩
      refine ⟨?_, q2⟩
      rcases q1 with ⟨z1, z2, ⟨z3, z4⟩ | ⟨z3, _⟩⟩ | z
      · exact Or.inl ⟨z1, z2, by omega, z4⟩
      · omega
      · exact Or.inr z
    · rintro ⟨q1, q2⟩
      refine ⟨?_, q2⟩
      rcases q1 with ⟨z1, z2, z3, z4⟩ | z
      · exact Or.inl ⟨z1, z2, Or.inl ⟨by omega, z4⟩⟩
      · exact Or.inr z
theorem x_isSentence (hW : gW B) (hg : xgb B M 2) (hC : chC B x N M) (h1 : 0 < wT B x (B 2) 0 N → Q 1 M) (h0 : wT B x (B 2) 0 N = 0 → Q 0 M) : am_s am_P am_gg (d + 2) 10 [.inr (.inr 109)] M Q := by
  obtain ⟨-, o, f, n, T, x', hxx, t1, t2, t3, t4, t5, t6, t7, t8, t9, t10⟩ := hC
  refine (v_10_109 _ _ _).mpr ?_
  rw [xg_rt hg, t3]
  have h2 := hW.2.2.1
  have e0 : wT B x' (B 2) 0 N = wT B x (B 2) 0 N := wT_x (fun j _ hj => hxx j (by omega))
  refine x_makes (a := 0) (by omega) (by omega) (by omega) (t9 N t4 t5) (fun q => ?_) (fun q => ?_)
  · rw [if_pos (by omega)]
    rw [Nat.sub_zero, mk_sg hW (by omega) (Or.inl ⟨h2, gRch_0⟩), e0] at q
    exact h1 q
  · rw [if_pos (by omega)]
    rw [Nat.sub_zero, mk_sg hW (by omega) (Or.inl ⟨h2, gRch_0⟩), e0] at q
    exact h0 (by omega)
theorem x_leastRule (hW : gW B) (hg : xgb B M 2) (hu : bs (M 16 5) (gUsd B)) (hs : s < 8) (hc : gRch B s) (h1 : 1 ≤ n) (hn : a + n ≤ 16) (h : 0 < wT B x s a n) (hcol : colF B x (a + n) M) (hQ : Q (ru B x s a n : Int) M) : am_s am_P am_gg (d + 2) 16 [.inr (.inr 109), .inl (s : Int), .inl (a : Int), .inl ((a + n : Nat) : Int)] M Q := by
  obtain ⟨c1, c2, c3, c4, c5⟩ := ru_ok hW hs (by omega) h
  have hn16 := hW.1
  refine (v_16_109 _ _ _ _ _ _).mpr ?_
  refine p_for (S := Unit) (X := fun e _ => am_x am_P am_gg (d + 1) am_k16 1 Q 3 [some (.inr (.inr 109)), some (.inl ((s : Int))), some (.inl ((a : Int))), some (.inl (((a + n : Nat) : Int))), some (.inl (e))] [] M 0 0) (ru B x s a n) (fun _ _ => True) ?_ ?_ 0 () (by omega) trivial
  · intro _ _
    have hus : gUsd B (ru B x s a n) := wR_usd c1 c2 (by rw [c3]; exact hc) c4
    refine (h_16_3_109 _ _ _ _ _ _ _).mpr ?_
    rw [xg_n hg, if_pos (by omega), if_pos (by omega), xg_sy hg c1, if_pos (by omega)]
    refine x_isUsed (by omega) hu (fun _ => ?_) (fun q => absurd hus q)
    rw [if_neg (by decide)]
    refine x_rowCode hg hW c1 ?_
    refine x_makes (rwc_lt hW c1) (by omega) (by omega) hcol (fun _ => ?_) (fun q => absurd ?_ q)
    · rw [if_neg (by decide)]; exact hQ
    · rw [show a + n - a = n by omega, mk_rwcF hW hus h1 (by omega)]; exact c4
  · intro e _ he _ go
    have hz := c5 e he
    refine (h_16_3_109 _ _ _ _ _ _ _).mpr ?_
    rw [xg_n hg, if_pos (by omega), if_pos (by omega), xg_sy hg (by omega), w32_s (by omega)]
    refine @p_if _ _ _ _ ?_ ?_
    · intro ey
      refine x_isUsed (by omega) hu (fun hus => ?_) (fun _ => ?_)
      · rw [if_neg (by decide)]
        refine x_rowCode hg hW (by omega) ?_
        refine x_makes (rwc_lt hW (by omega)) (by omega) (by omega) hcol (fun q => ?_) (fun q => ?_)
        · exfalso
          rw [show a + n - a = n by omega, mk_rwcF hW hus h1 (by omega)] at q
          unfold wm at hz
          rw [if_pos ⟨hus.2.1.1, by omega⟩] at hz
          omega
        · rw [if_pos rfl]; exact go () trivial
      · rw [if_pos rfl]; exact go () trivial
    · intro _; exact go () trivial
end Sa4
