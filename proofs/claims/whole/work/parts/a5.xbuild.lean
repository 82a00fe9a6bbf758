/-! the class builds the own tree: its pile, its nodes -/
theorem enc_ok {s a e : Nat} (hs : s < 8) (ha : a < 17) (he : e < 17) : i_or (i_or (i_shl (s : Int) 16) (i_shl (a : Int) 8)) (e : Int) = ((65536 * s + 256 * a + e : Nat) : Int) ∧ i_shr ((65536 * s + 256 * a + e : Nat) : Int) 16 = (s : Int) ∧ i_and (i_shr ((65536 * s + 256 * a + e : Nat) : Int) 8) 255 = (a : Int) ∧ i_and ((65536 * s + 256 * a + e : Nat) : Int) 255 = (e : Int) := by
  have e1 : i_shl (s : Int) 16 = ((65536 * s : Nat) : Int) := by
    have := i_shl_mul (a := (s : Int)) (n := 16) (by omega)
    rw [show ((16 : Nat) : Int) = 16 from rfl] at this
    rw [this, show (2 : Int) ^ 16 = 65536 from rfl, w32_i (by omega) (by omega)]; omega
  have e2 : i_shl (a : Int) 8 = ((256 * a : Nat) : Int) := by
    have := i_shl_mul (a := (a : Int)) (n := 8) (by omega)
    rw [show ((8 : Nat) : Int) = 8 from rfl] at this
    rw [this, show (2 : Int) ^ 8 = 256 from rfl, w32_i (by omega) (by omega)]; omega
  have o1 : 65536 * s + 256 * a = 65536 * s ||| 256 * a := Nat.two_pow_add_eq_or_of_lt (i := 16) (b := 256 * a) (by omega) s
  have o2 : 256 * (256 * s + a) + e = 256 * (256 * s + a) ||| e := Nat.two_pow_add_eq_or_of_lt (i := 8) (b := e) (by omega) (256 * s + a)
  refine ⟨?_, ?_, ?_, ?_⟩
  · rw [e1, e2, i_or_nat (by omega) (by omega), ← o1, i_or_nat (by omega) (by omega), show 65536 * s + 256 * a = 256 * (256 * s + a) by omega, ← o2]
  · have := i_shr_div (a := ((65536 * s + 256 * a + e : Nat) : Int)) (n := 16) (by unfold am_i32; omega) (by omega)
    rw [show ((16 : Nat) : Int) = 16 from rfl] at this
    rw [this, show (2 : Int) ^ 16 = 65536 from rfl]; omega
  · have := i_shr_div (a := ((65536 * s + 256 * a + e : Nat) : Int)) (n := 8) (by unfold am_i32; omega) (by omega)
    rw [show ((8 : Nat) : Int) = 8 from rfl] at this
    rw [this, show (2 : Int) ^ 8 = 256 from rfl, show ((65536 * s + 256 * a + e : Nat) : Int) / 256 = ((256 * s + a : Nat) : Int) by omega, show (255 : Int) = ((255 : Nat) : Int) from rfl, i_and_nat (by omega) (by omega), show (255 : Nat) = 2 ^ 8 - 1 from rfl, Nat.and_two_pow_sub_one_eq_mod]
    omega
  · rw [show (255 : Int) = ((255 : Nat) : Int) from rfl, i_and_nat (by omega) (by omega), show (255 : Nat) = 2 ^ 8 - 1 from rfl, Nat.and_two_pow_sub_one_eq_mod]
    omega
def ostk (M : (Nat → Int → Int)) : List nd → Prop
  | [] => True
  | t :: l => M 117 (l.length : Int) = ((65536 * t.1 + 256 * t.2.1 + (t.2.1 + t.2.2) : Nat) : Int) ∧ ostk M l
/-- the nodes that are built: their rules, and where their signs begin -/
def ndI (B x : Nat → Nat) (l : List nd) (M : (Nat → Int → Int)) : Prop := M 108 14 = (l.length : Int) ∧ (∀ j : Nat, j < l.length → (l.getD j (0, 0, 0)).1 < B 0 ∧ M 115 (j : Int) = ((l.getD j (0, 0, 0)).1 : Int) ∧ ∀ i : Nat, i ≤ gsz B (l.getD j (0, 0, 0)).1 → M 116 ((5 * j + i : Nat) : Int) = (ctp B x (l.getD j (0, 0, 0)).1 (l.getD j (0, 0, 0)).2.1 (l.getD j (0, 0, 0)).2.2 i : Int)) ∧ bs (M 108 17) (fun r => r ∈ nds l)
def bdF (M M' : (Nat → Int → Int)) : Prop := (∀ c, c ≠ 108 → c < 115 ∨ 117 < c → M' c = M c) ∧ ∀ i : Int, i ≠ 7 → i ≠ 14 → i ≠ 17 → i ≠ 19 → M' 108 i = M 108 i
section Sa5
variable {B x o : Nat → Nat} {a n r i j s k c e f d m N : Nat} {T : Nat → Nat × Nat} {M M0 : (Nat → Int → Int)} {Q : Int → (Nat → Int → Int) → Prop} {st : List nd}
theorem bdF_rf : bdF M M := ⟨fun _ _ _ => rfl, fun _ _ _ _ _ => rfl⟩
theorem bdF_tr {M' M'' : (Nat → Int → Int)} (h : bdF M M') (h' : bdF M' M'') : bdF M M'' := ⟨fun c h1 h2 => (h'.1 c h1 h2).trans (h.1 c h1 h2), fun i h1 h2 h3 h4 => (h'.2 i h1 h2 h3 h4).trans (h.2 i h1 h2 h3 h4)⟩
theorem chT_bd {n' : Nat} {M' : (Nat → Int → Int)} (h : chT B x o N f n' T M) (hF : bdF M M') : chT B x o N f n' T M' := by
  obtain ⟨t1, t2, t3, t4, t5, t6, t7, t8, t9, t10⟩ := h
  refine ⟨t1, stI_M t2 (hF.2 13 (by decide) (by decide) (by decide) (by decide)) (hF.1 112 (by decide) (by decide)) (hF.1 113 (by decide) (by decide)) (hF.1 114 (by decide) (by decide)), by rw [hF.2 4 (by decide) (by decide) (by decide) (by decide)]; exact t3, t4, t5, t6, by rw [hF.2 5 (by decide) (by decide) (by decide) (by decide)]; exact t7, by unfold txI; rw [hF.1 109 (by decide) (by decide)]; exact t8, fun e h1 h2 => by unfold colF; rw [hF.1 111 (by decide) (by decide)]; exact t9 e h1 h2, by unfold endF; rw [hF.1 110 (by decide) (by decide)]; exact t10⟩
theorem ostk_eq {M' : (Nat → Int → Int)} : ∀ {st : List nd}, (∀ j : Nat, j < st.length → M' 117 (j : Int) = M 117 (j : Int)) → ostk M st → ostk M' st
  | [], _, _ => trivial
  | t :: l, h, hs => ⟨by rw [h l.length (by rw [List.length_cons]; omega)]; exact hs.1, ostk_eq (fun j hj => h j (by rw [List.length_cons]; omega)) hs.2⟩
theorem x_opush (h19 : M 108 19 = (st.length : Int)) (hl : st.length < 64) (hs : s < 8) (ha : a < 17) (he : a + n < 17) (ho : ostk M st) (hQ : ∀ M', M' 108 19 = ((st.length + 1 : Nat) : Int) → ostk M' ((s, a, n) :: st) → (∀ c, c ≠ 108 → c ≠ 117 → M' c = M c) → (∀ i : Int, i ≠ 19 → M' 108 i = M 108 i) → Q 0 M') : am_s am_P am_gg (d + 1) 14 [.inr (.inr 109), .inl (s : Int), .inl (a : Int), .inl ((a + n : Nat) : Int)] M Q := by
  refine (v_14_109 _ _ _ _ _ _).mpr ?_
  rw [h19, if_pos (by omega), if_pos (by omega), (enc_ok hs ha he).1, w32_s (by omega)]
  refine hQ _ (up_eq _ _ _ _) ⟨?_, ostk_eq (fun j hj => ?_) ho⟩ (fun c h1 h2 => by rw [up_nc _ _ _ _ h1, up_nc _ _ _ _ h2]) (fun i hi => by rw [up_ni _ _ _ _ hi, up_nc _ _ _ _ (by decide)])
  · rw [up_nc _ _ _ _ (by decide), up_eq]
  · rw [up_nc _ _ _ _ (by decide), up_ni _ _ _ _ (by omega)]
theorem x_cutOf (hj : k < 256) (hi : i < 5) (h : M 116 ((5 * k + i : Nat) : Int) = (c : Int)) (hQ : Q (c : Int) M) : am_s am_P am_gg (d + 1) 12 [.inr (.inr 109), .inl (k : Int), .inl (i : Int)] M Q := by
  refine (v_12_109 _ _ _ _ _).mpr ?_
  rw [show w32 (w32 ((k : Int) * 5) + (i : Int)) = ((5 * k + i : Nat) : Int) by rw [show w32 ((k : Int) * 5) = ((5 * k : Nat) : Int) by rw [w32_i (by omega) (by omega)]; omega, w32_i (by omega) (by omega)]; omega, if_pos (by omega), h]
  exact hQ
/-- where a place's sign ends -/
theorem x_cutAt (hW : gW B) (hC : chT B x o N f n T M) (hr : gUsd B r) (hi : i + 1 < gsz B r) (ha : a + m ≤ f) (h : 0 < wR B x r i a m) (hQ : ∀ v : Nat, v < 4294967296 → v ≠ 0 → v.testBit (a + (cu B x r i a m + 1)) = true → (∀ k, k < a + (cu B x r i a m + 1) → v.testBit k = false) → Q (w32 (v : Int)) M) (haN : a + m ≤ N) : am_s am_P am_gg (d + 2) 9 [.inr (.inr 109), .inl (gsg B r i : Int), .inl (rsc B r i : Int), .inl (a : Int), .inl ((a + m : Nat) : Int)] M Q := by
  have hf := hC.2.2.2.2.2.1
  obtain ⟨c1, c2, c3, c4, c5, c6⟩ := cu_ok (by omega) h
  have hz := hW.2.2.2.1 r hr.1
  refine x_cutsOf hC (hz.2.2.2.2 i (by omega)) (rsc_lt hW hr.1 hi) (by omega) ⟨by omega, ha⟩ (fun v hv => ?_)
  obtain ⟨vn, h1, h2, h3⟩ := hv
  have key : ∀ k, a < k → k < a + m → ((enF B x f N (gsg B r i) a k ∧ (k < a + m ∧ mk B x (dF B) (rsc B r i) k (a + m - k))) ↔ 0 < wk B x r i a m (k - a - 1)) := by
    intro k hk1 hk2
    rw [wk_pos, show k - a - 1 + 1 = k - a by omega, show a + (k - a) = k by omega, show m - (k - a) = a + m - k by omega, ← mk_rsc hW (by omega) (by omega) hr hi, ← mk_sgn hW (by omega) hr (by omega)]
    constructor
    · rintro ⟨q1, q2⟩
      refine ⟨?_, q2.2⟩
      rcases q1 with q1 | ⟨g1, g2, g3, g4, g5⟩
      · exact q1.2.2.2
      · exact (mk_let (D' := dN) ⟨g1, g2⟩).mpr ⟨by omega, g5⟩
    · rintro ⟨q1, q2⟩
      refine ⟨?_, hk2, q2⟩
      rcases hz.2.2.2.2 i (by omega) with g | g
      · exact Or.inl ⟨g, hk1, by omega, q1⟩
      · rw [mk_let (D' := dN) g] at q1
        exact Or.inr ⟨g.1, g.2, by omega, by omega, q1.2⟩
  have hb1 : vn.testBit (a + (cu B x r i a m + 1)) = true := by
    have q := (key (a + (cu B x r i a m + 1)) (by omega) (by omega)).mpr (by rw [show a + (cu B x r i a m + 1) - a - 1 = cu B x r i a m by omega]; exact wk_pos.mpr ⟨c2, c3⟩)
    exact (h3 _).mpr q
  rw [h2, ← w32_nat h1]
  refine hQ vn (by omega) (fun q => by rw [q, Nat.zero_testBit] at hb1; cases hb1) hb1 (fun k hk => ?_)
  cases q : vn.testBit k with
  | false => rfl
  | true =>
    exfalso
    have q2 := (h3 k).mp q
    have hka : a < k := by
      rcases q2.1 with z | z
      · exact z.2.1
      · omega
    have := (key k hka (by omega)).mp q2
    rw [c6 _ (by omega)] at this
    omega
/-- the cuts of a node -/
theorem x_nodeCuts (hW : gW B) (hg : xgb B M 2) (hC : chT B x o N f n T M) (hr : gUsd B r) (hN : a + m ≤ N) (h : 0 < wR B x r 0 a m) (hk : k < 256) (hQ : ∀ M', (∀ c, c ≠ 116 → M' c = M c) → (∀ j : Int, j < ((5 * k : Nat) : Int) ∨ ((5 * k + 5 : Nat) : Int) ≤ j → M' 116 j = M 116 j) → (∀ i : Nat, i < gsz B r → M' 116 ((5 * k + i : Nat) : Int) = (ctp B x r a m i : Int)) → am_x am_P am_gg (d + 2) am_k15 0 Q 59 [some (.inr (.inr 109)), none, none, some (.inl (((a + m : Nat) : Int))), some (.inl ((r : Int))), some (.inl (((5 * k : Nat) : Int))), some (.inl (((gsz B r - 1 : Nat) : Int))), some (.inl (((gsz B r - 1 : Nat) : Int))), none] [] M' 0 0) (h0 : M 116 ((5 * k : Nat) : Int) = (a : Int)) : am_x am_P am_gg (d + 2) am_k15 0 Q 59 [some (.inr (.inr 109)), none, none, some (.inl (((a + m : Nat) : Int))), some (.inl ((r : Int))), some (.inl (((5 * k : Nat) : Int))), some (.inl (((gsz B r - 1 : Nat) : Int))), some (.inl (((0 : Nat) : Int))), none] [] M 0 0 := by
  have hz := hW.2.2.2.1 r hr.1
  have hf := hC.2.2.2.2.2.1
  have hNf := hC.2.2.2.2.1
  refine p_for (S := (Nat → Int → Int)) (X := fun p M => am_x am_P am_gg (d + 2) am_k15 0 Q 59 [some (.inr (.inr 109)), none, none, some (.inl (((a + m : Nat) : Int))), some (.inl ((r : Int))), some (.inl (((5 * k : Nat) : Int))), some (.inl (((gsz B r - 1 : Nat) : Int))), some (.inl (p)), none] [] M 0 0) (gsz B r - 1) (fun p M' => (∀ c, c ≠ 116 → M' c = M c) ∧ (∀ j : Int, j < ((5 * k : Nat) : Int) ∨ ((5 * k + 5 : Nat) : Int) ≤ j → M' 116 j = M 116 j) ∧ ∀ i : Nat, i ≤ p → M' 116 ((5 * k + i : Nat) : Int) = (ctp B x r a m i : Int)) ?_ ?_ 0 M (by omega) ⟨fun _ _ => rfl, fun _ _ => rfl, fun i hi => by rw [show i = 0 by omega]; exact h0⟩
  · rintro M1 ⟨h1, h2, h3⟩
    exact hQ M1 h1 h2 (fun i hi => h3 i (by omega))
  · rintro p M1 hp ⟨h1, h2, h3⟩ go
    obtain ⟨p1, p2, p3⟩ := ctp_ok h p (by omega)
    have hg1 : xgb B M1 2 := xgb_eq hg (fun c g1 g2 => h1 c (by omega))
    have hC1 : chT B x o N f n T M1 := chT_bd hC ⟨fun c g1 g2 => h1 c (by omega), fun i _ _ _ _ => by rw [h1 108 (by decide)]⟩
    refine (h_15_59_109 _ _ _ _ _ _ _ _).mpr ?_
    rw [if_pos (by omega)]
    refine x_signAt hg1 hW hr.1 (by omega) ?_
    refine x_restCode hg1 hW hr.1 (by omega) ?_
    rw [show w32 (((5 * k : Nat) : Int) + (p : Int)) = ((5 * k + p : Nat) : Int) by rw [w32_i (by omega) (by omega)]; omega, if_pos (by omega), h3 p (Nat.le_refl _), show w32 (((5 * k + p : Nat) : Int) + 1) = ((5 * k + (p + 1) : Nat) : Int) by rw [w32_i (by omega) (by omega)]; omega]
    have e1 : a + m = ctp B x r a m p + (a + m - ctp B x r a m p) := by omega
    have goal : ∀ Q' : Int → (Nat → Int → Int) → Prop, (∀ v : Nat, v < 4294967296 → v ≠ 0 → v.testBit (ctp B x r a m (p + 1)) = true → (∀ k, k < ctp B x r a m (p + 1) → v.testBit k = false) → Q' (w32 (v : Int)) M1) → am_s am_P am_gg (d + 2) 9 [.inr (.inr 109), .inl (gsg B r p : Int), .inl (rsc B r p : Int), .inl (ctp B x r a m p : Int), .inl ((a + m : Nat) : Int)] M1 Q' := by
      intro Q' hQ'
      have q := x_cutAt (d := d) (Q := Q') hW hC1 hr (by omega) (by omega) p3 hQ' (by omega)
      rw [← e1] at q
      exact q
    refine goal _ (fun v v1 v2 v3 v4 => ?_)
    have hvz : ¬ w32 (v : Int) = 0 := by unfold w32; omega
    rw [if_neg hvz]
    refine x_ntz v1 v3 v4 ?_
    rw [if_pos (by omega), w32_s (by omega)]
    refine am_x_le [some (.inr (.inr 109)), none, none, some (.inl (((a + m : Nat) : Int))), some (.inl ((r : Int))), some (.inl (((5 * k : Nat) : Int))), some (.inl (((gsz B r - 1 : Nat) : Int))), some (.inl (((p + 1 : Nat) : Int))), none] (am_lb_le _ _ ⟨rfl, rfl, rfl, rfl, rfl, rfl, trivial⟩) ?_
    refine go _ ⟨fun c hc => by rw [up_nc _ _ _ _ hc]; exact h1 c hc, fun j hj => by rw [up_ni _ _ _ _ (by omega)]; exact h2 j hj, fun i hi => ?_⟩
    rw [up_ci]
    by_cases q : i = p + 1
    · rw [if_pos (by omega), q]
    · rw [if_neg (by omega)]; exact h3 i (by omega)
end Sa5
