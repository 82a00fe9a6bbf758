/-! the class numbers the own tree: the pile -/
section Sa9
variable {B x o : Nat → Nat} {a n r i j s k c e f d m N : Nat} {T : Nat → Nat × Nat} {M M0 : (Nat → Int → Int)} {Q : Int → (Nat → Int → Int) → Prop} {st nl : List nd}
def f107 (M M' : (Nat → Int → Int)) : Prop := ∀ c, c ≠ 107 → M' c = M c
theorem rkk_eq {M' : (Nat → Int → Int)} : ∀ {st : List nd}, (∀ j : Nat, j < st.length → M' 107 (j : Int) = M 107 (j : Int)) → rkk B x M st → rkk B x M' st
  | [], _, _ => trivial
  | t :: l, h, hs => ⟨by rw [h l.length (by rw [List.length_cons]; omega)]; exact hs.1, rkk_eq (fun j hj => h j (by rw [List.length_cons]; omega)) hs.2⟩
theorem x_numRow (hW : gW B) (hg0 : xgb B M 2) (hT0 : cT B f M) (hf24 : f ≤ 24) (hr : gUsd B r) (hN : a + m ≤ N) (hN16 : N ≤ 16) (hNf : N ≤ f) (h : 0 < wR B x r 0 a m) (hk : k < 256) (hct : ∀ i : Nat, i ≤ gsz B r → M 116 ((5 * k + i : Nat) : Int) = (ctp B x r a m i : Int)) {l : List nd} (hv : vld B x N l) (ht : m + tot l ≤ 16) {R : Nat} (hQ : ∀ M', (∀ c, c ≠ 107 → M' c = M c) → M' 107 (l.length : Int) = (R : Int) → rkk B x M' l → am_x am_P am_gg (d + 4) am_k157 2 Q 9 [some (.inr (.inr 101)), some (.inr (.inr 109)), some (.inl (((l.length + 1 : Nat) : Int))), some (.inl ((k : Int) - 1)), none, none, none, none, none, none, none, none, none] [] M' 0 0) : ∀ j i (g : Nat), i + j = gsz B r → rkk B x M (kdn B x r a m j ++ l) → g ≤ tG → min (g + (yR' B x r i (ctp B x r a m i) (a + m - ctp B x r a m i)).2) tG = R → am_x am_P am_gg (d + 4) am_k157 2 Q 72 [some (.inr (.inr 101)), some (.inr (.inr 109)), some (.inl (((kdn B x r a m j ++ l).length : Int))), some (.inl ((k : Int))), some (.inl ((r : Int))), some (.inl ((ctp B x r a m i : Int))), some (.inl (((a + m : Nat) : Int))), some (.inr (.inl (g : Int))), none, some (.inl ((i : Int))), none, none, none] [] M 0 0 := by
  have hz := hW.2.2.2.1 r hr.1
  have hn16 := hW.1
  have hr1 := hr.1
  have hll := tot_len hv
  intro j
  induction j with
  | zero =>
    intro i g hi hp hgl hR
    have e : i = gsz B r := by omega
    subst e
    rw [yR_end] at hR
    have e2 : (kdn B x r a m 0 ++ l).length = l.length := rfl
    refine (h_157_72_101_109 _ _ _ _ _ _ _ _ _ _).mpr ?_
    rw [if_pos (by omega), xg_sz hg0 hr.1, if_neg (by omega), e2, if_pos (by omega), w32_s (by omega), show w32 ((k : Int) + (-1)) = (k : Int) - 1 by rw [w32_i (by omega) (by omega)]; omega]
    refine am_x_le [some (.inr (.inr 101)), some (.inr (.inr 109)), some (.inl (((l.length + 1 : Nat) : Int))), some (.inl ((k : Int) - 1)), none, none, none, none, none, none, none, none, none] (am_lb_le _ _ ⟨rfl, rfl, rfl, rfl, trivial⟩) ?_
    have e3 : g = R := by rw [← hR]; show g = min (g + 0) tG; omega
    rw [e3]
    refine hQ _ (fun c hc => up_nc _ _ _ _ hc) (up_eq _ _ _ _) (rkk_eq (fun j hj => ?_) hp)
    rw [up_ni _ _ _ _ (by omega)]
  | succ j ih =>
    intro i g hi hp hgl hR
    obtain ⟨p1, p2, p3⟩ := ctp_ok h i (by omega)
    obtain ⟨c1, c2, c3, c4, c5, c6⟩ := cu_ok (by omega) p3
    have hks := kdn_s (B := B) (x := x) (r := r) (a := a) (n := m) (i := i) (j := j) (by omega)
    have hst := yR_step (B := B) (x := x) (r := r) (i := i) (a := ctp B x r a m i) (n := a + m - ctp B x r a m i) (by omega)
    have hyl : (yT B x (gsg B r i) (ctp B x r a m i) (cu B x r i (ctp B x r a m i) (a + m - ctp B x r a m i) + 1)).2 ≤ tG := yT_le hW (by have := hz.2.2.2.2 i (by omega); omega) (by omega) c2
    have hk1 := kdn_ok hW hr h hN j (i + 1) (by omega)
    have p4 := ctp_ok h (i + 1) (by omega)
    have hlen : (kdn B x r a m j ++ l).length ≤ 16 := by
      have := tot_len (vld_app hk1.2.1 hv)
      rw [tot_app] at this
      omega
    have ecut : M 116 ((5 * k + (i + 1) : Nat) : Int) = (ctp B x r a m (i + 1) : Int) := hct (i + 1) (by omega)
    -- what one place adds
    have body : ∀ (w : Nat) (u : List (Option am_v)) , w = (yT B x (gsg B r i) (ctp B x r a m i) (cu B x r i (ctp B x r a m i) (a + m - ctp B x r a m i) + 1)).2 → rkk B x M (kdn B x r a m j ++ l) → ∀ y : Option am_v, am_s am_P am_gg (d + 4) 12 [.inr (.inr 109), .inl (k : Int), .inl (w32 ((i : Int) + 1))] M (fun r2 M2 => am_s am_P am_gg (d + 4) 158 [.inr (.inr 101), .inl (r : Int), .inl (i : Int), .inl (w32 (((a + m : Nat) : Int) - (ctp B x r a m i : Int))), .inl (w32 (r2 - (ctp B x r a m i : Int))), .inr (.inl (w : Int))] M2 (fun r3 M3 => am_s am_P am_gg (d + 4) 146 [.inr (.inl (g : Int)), .inr (.inl r3)] M3 (fun r4 M4 => am_x am_P am_gg (d + 4) am_k157 2 Q 72 [some (.inr (.inr 101)), some (.inr (.inr 109)), some (.inl (((kdn B x r a m j ++ l).length : Int))), some (.inl ((k : Int))), some (.inl ((r : Int))), some (.inl r2), some (.inl (((a + m : Nat) : Int))), some (.inr (.inl r4)), none, some (.inl (w32 ((i : Int) + 1))), some (.inr (.inl (w : Int))), none, some (.inl r2)] [] M4 0 0))) := by
      intro w u ew hp' y
      rw [w32_s (by omega)]
      refine x_cutOf (c := ctp B x r a m (i + 1)) hk (by omega) ecut ?_
      have ec : ctp B x r a m (i + 1) = ctp B x r a m i + (cu B x r i (ctp B x r a m i) (a + m - ctp B x r a m i) + 1) := rfl
      rw [show w32 (((a + m : Nat) : Int) - (ctp B x r a m i : Int)) = ((a + m - ctp B x r a m i : Nat) : Int) by rw [w32_i (by omega) (by omega)]; omega, show w32 ((ctp B x r a m (i + 1) : Int) - (ctp B x r a m i : Int)) = ((cu B x r i (ctp B x r a m i) (a + m - ctp B x r a m i) + 1 : Nat) : Int) by rw [w32_i (by omega) (by omega)]; omega]
      refine x_ahead hW hg0 hT0 hr.1 hr.2.1.1 (by omega) (by omega) (by omega) hf24 c1 c4 c5 (by rw [ew]; exact hyl) (fun v hv1 hv2 => ?_)
      refine x_plus hgl hv1 ?_
      refine am_x_le [some (.inr (.inr 101)), some (.inr (.inr 109)), some (.inl (((kdn B x r a m j ++ l).length : Int))), some (.inl ((k : Int))), some (.inl ((r : Int))), some (.inl ((ctp B x r a m (i + 1) : Int))), some (.inl (((a + m : Nat) : Int))), some (.inr (.inl ((min (g + v) tG : Nat) : Int))), none, some (.inl (((i + 1 : Nat) : Int))), none, none, none] (am_lb_le _ _ ⟨rfl, rfl, rfl, rfl, rfl, rfl, rfl, rfl, rfl, trivial⟩) ?_
      refine ih (i + 1) (min (g + v) tG) (by omega) hp' (Nat.min_le_right _ _) ?_
      rw [← hR, hst, ec, Nat.sub_add_eq (a + m) (ctp B x r a m i) (cu B x r i (ctp B x r a m i) (a + m - ctp B x r a m i) + 1), hv2 g, ew]
      dsimp only
      clear hst hR ih hQ ecut hct ew hv2
      generalize (yR' B x r (i + 1) (ctp B x r a m i + (cu B x r i (ctp B x r a m i) (a + m - ctp B x r a m i) + 1)) (a + m - ctp B x r a m i - (cu B x r i (ctp B x r a m i) (a + m - ctp B x r a m i) + 1))).2 = z1
      generalize min ((yT B x (gsg B r i) (ctp B x r a m i) (cu B x r i (ctp B x r a m i) (a + m - ctp B x r a m i) + 1)).2 * tR B r (i + 1) (a + m - ctp B x r a m i - (cu B x r i (ctp B x r a m i) (a + m - ctp B x r a m i) + 1))) tG = z2
      generalize q_sm (ctm B r i (a + m - ctp B x r a m i)) (cu B x r i (ctp B x r a m i) (a + m - ctp B x r a m i)) = z3
      omega
    refine (h_157_72_101_109 _ _ _ _ _ _ _ _ _ _).mpr ?_
    rw [if_pos (by omega), xg_sz hg0 hr.1, if_pos (by omega)]
    refine x_signAt hg0 hW hr.1 (by omega) ?_
    refine @p_if _ _ _ _ ?_ ?_
    · intro g8
      have g8 : gsg B r i < 8 := by omega
      rw [if_pos g8] at hks
      rw [hks] at hp ⊢
      have hlc : (((gsg B r i, ctp B x r a m i, cu B x r i (ctp B x r a m i) (a + m - ctp B x r a m i) + 1) :: kdn B x r a m j) ++ l).length = (kdn B x r a m j ++ l).length + 1 := rfl
      rw [hlc, if_pos (by omega), show w32 ((((kdn B x r a m j ++ l).length + 1 : Nat) : Int) + (-1)) = ((kdn B x r a m j ++ l).length : Int) by rw [w32_i (by omega) (by omega)]; omega, if_pos (by omega)]
      have e107 : M 107 ((kdn B x r a m j ++ l).length : Int) = ((yT B x (gsg B r i) (ctp B x r a m i) (cu B x r i (ctp B x r a m i) (a + m - ctp B x r a m i) + 1)).2 : Int) := hp.1
      rw [e107]
      exact body _ [] rfl hp.2 none
    · intro g8
      have g8 : ¬ gsg B r i < 8 := by omega
      rw [if_neg g8] at hks
      rw [hks] at hp ⊢
      have := body 0 [] (by rw [yT_let g8]) hp none
      exact this
theorem x_ownNumber (hW : gW B) (hg : xgb B M 2) (hT : cT B f M) (hf24 : f ≤ 24) (hN1 : 1 ≤ N) (hN16 : N ≤ 16) (hNf : N ≤ f) (h : trO B x N M) (hQ : ∀ M', f107 M M' → Q ((yT B x (B 2) 0 N).2 : Int) M') : am_s am_P am_gg (d + 5) 157 [.inr (.inr 101), .inr (.inr 109)] M Q := by
  obtain ⟨y, hxx, h1, hnd⟩ := h
  have ey : yT B y (B 2) 0 N = yT B x (B 2) 0 N := yT_x hW (by omega) h1 (fun j _ hj => hxx j (by omega))
  have hl := yT_len hW (by omega) hN1 h1
  have hn16 := hW.1
  rw [← ey] at hQ
  refine (v_157_101_109 _ _ _).mpr ?_
  rw [hnd.1, show w32 (((yT B y (B 2) 0 N).1.length : Int) - 1) = ((yT B y (B 2) 0 N).1.length : Int) - 1 by rw [w32_i (by omega) (by omega)]]
  have hend : sq B y N (yT B y (B 2) 0 N).1.length = [] := by
    have q := sq_ok hW hN1 hN16 h1 (yT B y (B 2) 0 N).1.length
    rw [List.drop_length] at q
    cases e : sq B y N (yT B y (B 2) 0 N).1.length with
    | nil => rfl
    | cons t l =>
      exfalso
      rw [e] at q
      obtain ⟨q1, ⟨⟨v1, v2, v3, v4, v5⟩, _⟩, _⟩ := q
      have := fl_exp (x := y) hW v1 v2 (by omega) v5 l
      rw [show ((t.1, t.2.1, t.2.2) : nd) = t from rfl, q1] at this
      cases this
  refine p_down (S := (Nat → Int → Int) × Int) (X := fun b z => am_x am_P am_gg (d + 4) am_k157 2 Q 9 [some (.inr (.inr 101)), some (.inr (.inr 109)), some (.inl (z.2)), some (.inl (b)), none, none, none, none, none, none, none, none, none] [] z.1 0 0) (fun k z => k ≤ (yT B y (B 2) 0 N).1.length ∧ f107 M z.1 ∧ rkk B y z.1 (sq B y N k) ∧ z.2 = ((sq B y N k).length : Int)) ?_ ?_ (yT B y (B 2) 0 N).1.length (M, 0) ⟨Nat.le_refl _, fun _ _ => rfl, by rw [hend]; exact trivial, by rw [hend]; rfl⟩
  · rintro ⟨M1, z⟩ ⟨_, hF1, hp1, hz1⟩
    have hz1 : z = 1 := hz1
    subst hz1
    refine (h_157_9_101_109 _ _ _ _ _).mpr ?_
    dsimp only at hF1 hp1 ⊢
    rw [if_pos (by decide), if_pos (by decide)]
    have e : M1 107 0 = ((yT B y (B 2) 0 N).2 : Int) := hp1.1
    rw [e]
    exact hQ M1 hF1
  · rintro k ⟨M1, z⟩ ⟨hk, hF1, hp1, hz1⟩ go
    dsimp only at hF1 hp1 hz1
    subst hz1
    obtain ⟨s1, s2, s3⟩ := sq_ok hW hN1 hN16 h1 k
    cases e : sq B y N k with
    | nil =>
      exfalso
      rw [e] at s1
      have s1 : [] = (yT B y (B 2) 0 N).1.drop k := s1
      have := congrArg List.length s1
      rw [List.length_drop, List.length_nil] at this
      omega
    | cons t l =>
      obtain ⟨s, a, m⟩ := t
      rw [e] at s1 s2 s3
      obtain ⟨⟨v1, v2, v3, v4, v5⟩, hvl⟩ := s2
      dsimp only at v1 v2 v3 v4 v5
      have s3 : m + tot l ≤ N := s3
      obtain ⟨c1, c2, c3, c4, c5⟩ := ru_ok hW v1 (by omega) v5
      have hus : gUsd B (ru B y s a m) := wR_usd c1 c2 (by rw [c3]; exact v2) c4
      rw [fl_exp hW v1 v2 (by omega) v5 l] at s1
      have hnode : (yT B y (B 2) 0 N).1.getD k (0, 0, 0) = (ru B y s a m, a, m) := by
        have hkl : k < (yT B y (B 2) 0 N).1.length := by omega
        have := List.drop_eq_getElem_cons hkl
        rw [← s1] at this
        rw [List.getD_eq_getElem?_getD, List.getElem?_eq_getElem hkl]
        exact (List.cons.inj this).1.symm
      have hndk := hnd.2.1 k (by omega)
      rw [hnode] at hndk
      dsimp only at hndk
      have hsq : sq B y N (k + 1) = kdn B y (ru B y s a m) a m (gsz B (ru B y s a m)) ++ l := by show exd B y (sq B y N k) = _; rw [e]; rfl
      rw [hsq] at hp1 ⊢
      have hyT := yT_sym hW v1 (by omega) v5
      clear hsq hnode s1
      generalize ru B y s a m = r at c1 c2 c3 c4 c5 hus hndk hp1 hyT ⊢
      have hz := hW.2.2.2.1 r c1
      have hg1 : xgb B M1 2 := xgb_eq hg (fun c g1 g2 => hF1 c (by omega))
      have hT1 : cT B f M1 := by
        unfold cT cL tbl at hT ⊢
        rw [hF1 101 (by decide)]; exact hT
      refine (h_157_9_101_109 _ _ _ _ _).mpr ?_
      dsimp only
      have e115 : M1 115 (k : Int) = (r : Int) := by rw [hF1 115 (by decide)]; exact hndk.2.1
      rw [if_neg (by omega), if_pos (by omega)]
      have hct : ∀ i : Nat, i ≤ gsz B r → M1 116 ((5 * k + i : Nat) : Int) = (ctp B y r a m i : Int) := fun i hi => by rw [hF1 116 (by decide)]; exact hndk.2.2 i hi
      refine x_cutOf (i := 0) (c := a) (by omega) (by omega) (hct 0 (by omega)) ?_
      rw [if_pos (by rw [e115]; omega)]
      have e4 : M1 4 (M1 115 (k : Int)) = (gsz B r : Int) := by rw [e115]; exact xg_sz hg1 c1
      rw [e4]
      refine x_cutOf (i := gsz B r) (c := a + m) (by omega) (by omega) (by rw [hct (gsz B r) (Nat.le_refl _), ctp_end c4]) ?_
      rw [if_pos (by rw [e115]; omega), e115, xg_sy hg1 c1, c3, show w32 (((a + m : Nat) : Int) - (a : Int)) = (m : Int) by rw [w32_i (by omega) (by omega)]; omega]
      refine x_sumRules hg1 hW v1 v3 (by omega) (by omega) (fun r' g1 g2 g3 g4 => tbl_rwc hW hT1 g1 g3 v3 (by omega) (by omega)) ?_
      have q := x_numRow (d := d) (Q := Q) (R := (yT B y s a m).2) hW hg1 hT1 hf24 hus v4 hN16 hNf c4 (by omega : k < 256) hct hvl (by omega) (fun M2 g1 g2 g3 => by
        have q2 := go (M2, ((l.length + 1 : Nat) : Int)) ⟨by omega, fun c hc => (g1 c hc).trans (hF1 c hc), by rw [e]; exact ⟨g2, g3⟩, by rw [e]; rfl⟩
        exact q2) (gsz B r) 0 (min (q_sm (tm B s m) (min (B 0) r)) tG) (by omega) hp1 (Nat.min_le_right _ _) (by
        rw [hyT, show min (B 0) r = r by omega]
        show min (min (q_sm (tm B s m) r) tG + (yR' B y r 0 a (a + m - a)).2) tG = _
        rw [Nat.add_sub_cancel_left]
        dsimp only
        omega)
      exact q
end Sa9
