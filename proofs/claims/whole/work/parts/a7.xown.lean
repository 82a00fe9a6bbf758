/-! the class builds the own tree, whole; its number -/
def trO (B x : Nat → Nat) (N : Nat) (M : (Nat → Int → Int)) : Prop := ∃ x' : Nat → Nat, (∀ j, j < N → x' j = x j) ∧ 0 < wT B x' (B 2) 0 N ∧ ndI B x' (yT B x' (B 2) 0 N).1 M
section Sa7
variable {B x o : Nat → Nat} {a n r i j s k c e f d m N : Nat} {T : Nat → Nat × Nat} {M M0 : (Nat → Int → Int)} {Q : Int → (Nat → Int → Int) → Prop} {st nl : List nd}
theorem x_buildLoop (hW : gW B) (hg0 : xgb B M0 2) (hu0 : bs (M0 16 5) (gUsd B)) (hC0 : chT B x o N f n T M0) {L : List nd} (hL : L.length < 256) (hQ : ∀ M', bdF M0 M' → M' 108 7 = M0 108 7 → ndI B x L M' → Q 0 M') : ∀ k st nl (M : (Nat → Int → Int)), (fl B x st).length = k → nl ++ fl B x st = L → bdF M0 M → M 108 7 = M0 108 7 → vld B x N st → tot st ≤ 16 → ndI B x nl M → M 108 19 = (st.length : Int) → ostk M st → am_x am_P am_gg (d + 3) am_k13 0 Q 53 [some (.inr (.inr 109)), some (.inl ((nl.length : Int))), none] [] M 0 0 := by
  have hf := hC0.2.2.2.2.2.1
  have hNf := hC0.2.2.2.2.1
  intro k
  induction k with
  | zero =>
    intro st nl M hk hL' hF h7 hv ht hnd h19 hst
    have hst0 : st = [] := by
      cases st with
      | nil => rfl
      | cons t l =>
        exfalso
        have hvt := hv.1
        have := fl_exp (x := x) hW hvt.1 hvt.2.1 (by omega) hvt.2.2.2.2 l
        rw [show ((t.1, t.2.1, t.2.2) : nd) = t from rfl] at this
        rw [this] at hk
        cases hk
    subst hst0
    have e : nl = L := by rw [← hL']; show nl = nl ++ []; rw [List.append_nil]
    subst e
    refine (h_13_53_109 _ _ _ _).mpr ?_
    rw [h19, if_pos (by omega), if_neg (by show ¬ (0 : Int) < ((0 : Nat) : Int); omega)]
    exact hQ M hF h7 hnd
  | succ k ih =>
    intro st nl M hk hL' hF h7 hv ht hnd h19 hst
    cases st with
    | nil => cases hk
    | cons t l =>
      obtain ⟨s, a, m⟩ := t
      obtain ⟨⟨v1, v2, v3, v4, v5⟩, hvl⟩ := hv
      dsimp only at v1 v2 v3 v4 v5
      have ht : m + tot l ≤ 16 := ht
      have hexp := fl_exp (x := x) hW v1 v2 (by omega) v5 l
      obtain ⟨c1, c2, c3, c4, c5⟩ := ru_ok hW v1 (by omega) v5
      have hus : gUsd B (ru B x s a m) := wR_usd c1 c2 (by rw [c3]; exact v2) c4
      have hkd := kdn_ok hW hus c4 v4 (gsz B (ru B x s a m)) 0 (by omega)
      have hll := tot_len hvl
      have hg : xgb B M 2 := xgb_eq hg0 (fun c h1 h2 => hF.1 c (by omega) (by omega))
      have hlen : nl.length < 256 := by
        have : L.length = nl.length + (fl B x ((s, a, m) :: l)).length := by rw [← hL', List.length_append]
        omega
      refine (h_13_53_109 _ _ _ _).mpr ?_
      have e1 : M 117 (l.length : Int) = ((65536 * s + 256 * a + (a + m) : Nat) : Int) := hst.1
      have en := enc_ok (s := s) (a := a) (e := a + m) v1 (by omega) (by omega)
      rw [h19, if_pos (by omega), if_pos (by rw [List.length_cons]; omega), show w32 (((((s, a, m) :: l : List nd).length : Nat) : Int) - 1) = (l.length : Int) by rw [List.length_cons, w32_i (by omega) (by omega)]; omega, if_pos (by omega), e1, en.2.1, en.2.2.1, en.2.2.2, w32_s (by omega)]
      refine x_buildNode (x := x) (o := o) (f := f) (n := n) (T := T) (N := N) (st := l) (nl := nl) hW (xgb_eq hg (fun c h1 h2 => up_nc _ _ _ _ (by omega))) (by rw [up_nc _ _ _ _ (by decide), hF.1 16 (by decide) (by decide)]; exact hu0) (chT_bd hC0 (bdF_tr hF ⟨fun c h1 h2 => up_nc _ _ _ _ h1, fun i h1 h2 h3 h4 => up_ni _ _ _ _ h4 _⟩)) v1 v2 v3 v4 v5 hvl ht hlen ?_ (up_eq _ _ _ _) (ostk_eq (fun j hj => by rw [up_nc _ _ _ _ (by decide)]) hst.2) (fun M1 hF1 h71 hnd1 h191 hst1 => ?_)
      · refine ⟨by rw [up_ni _ _ _ _ (by decide)]; exact hnd.1, fun j hj => ?_, by rw [up_ni _ _ _ _ (by decide)]; exact hnd.2.2⟩
        rw [up_nc _ _ _ _ (by decide), up_nc _ _ _ _ (by decide)]; exact hnd.2.1 j hj
      · refine am_x_le [some (.inr (.inr 109)), some (.inl (((nl.length + 1 : Nat) : Int))), none] (am_lb_le _ _ ⟨rfl, rfl, trivial⟩) ?_
        have q := ih (kdn B x (ru B x s a m) a m (gsz B (ru B x s a m)) ++ l) (nl ++ [(ru B x s a m, a, m)]) M1 ?_ ?_ (bdF_tr hF (bdF_tr ⟨fun c h1 h2 => up_nc _ _ _ _ h1, fun i h1 h2 h3 h4 => up_ni _ _ _ _ h4 _⟩ hF1)) ?_ (vld_app hkd.2.1 hvl) ?_ hnd1 h191 hst1
        · rw [List.length_append] at q; exact q
        · rw [hexp, List.length_cons] at hk; omega
        · rw [List.append_assoc, ← hL', hexp]; rfl
        · rw [h71, up_ni _ _ _ _ (by decide)]; exact h7
        · rw [tot_app]
          have hc0 : ctp B x (ru B x s a m) a m 0 = a := rfl
          have := hkd.2.2
          omega
theorem x_build (hW : gW B) (hg : xgb B M 2) (hu : bs (M 16 5) (gUsd B)) (hC : chC B x N M) (h : 0 < wT B x (B 2) 0 N) (hold : M 108 7 = M 108 6 → trO B x N M) (hQ : ∀ M', bdF M M' → M' 108 7 = M' 108 6 → trO B x N M' → chC B x N M' → Q 0 M') : am_s am_P am_gg (d + 4) 13 [.inr (.inr 109)] M Q := by
  refine (v_13_109 _ _ _).mpr ?_
  refine @p_if _ _ _ _ ?_ ?_
  · intro e; exact hQ M bdF_rf e (hold e) hC
  · intro _
    obtain ⟨h2, o, f, n, T, x', hxx, hT⟩ := hC
    have hf := hT.2.2.2.2.2.1
    have hNf := hT.2.2.2.2.1
    have hN1 := hT.2.2.2.1
    have h' : 0 < wT B x' (B 2) 0 N := by rw [wT_x (y := x) (fun j _ hj => hxx j (by omega))]; exact h
    rw [xg_rt hg, hT.2.2.1]
    have hb2 := hW.2.2.1
    have hF0 : bdF M (am_up (am_up (am_up (am_up M 108 7 (M 108 6)) 108 14 0) 108 17 0) 108 19 0) := ⟨fun c h1 h2 => by rw [up_nc _ _ _ _ h1, up_nc _ _ _ _ h1, up_nc _ _ _ _ h1, up_nc _ _ _ _ h1], fun i h1 h2 h3 h4 => by rw [up_ni _ _ _ _ h4, up_ni _ _ _ _ h3, up_ni _ _ _ _ h2, up_ni _ _ _ _ h1]⟩
    have hp := x_opush (d := d + 2) (M := am_up (am_up (am_up (am_up M 108 7 (M 108 6)) 108 14 0) 108 17 0) 108 19 0) (st := []) (s := B 2) (a := 0) (n := N) (Q := fun _ M1 => am_x am_P am_gg (d + 3) am_k13 0 Q 53 [some (.inr (.inr 109)), some (.inl (0)), none] [] M1 0 0) (up_eq _ _ _ _) (by decide) hb2 (by omega) (by omega) trivial (fun M1 g1 g2 g3 g4 => ?_)
    · rw [Nat.zero_add] at hp; exact hp
    · have hF1 : bdF M M1 := bdF_tr hF0 ⟨fun c h1 h2 => g3 c h1 (by omega), fun i h1 h2 h3 h4 => g4 i h4⟩
      have hy := yT_len hW (by omega) hN1 h'
      refine x_buildLoop (M0 := M1) (x := x') (o := o) (f := f) (n := n) (T := T) (N := N) (L := (yT B x' (B 2) 0 N).1) hW (xgb_eq hg (fun c h1 h2 => hF1.1 c (by omega) (by omega))) (by rw [hF1.1 16 (by decide) (by decide)]; exact hu) (chT_bd hT hF1) (by omega) (fun M2 hF2 h72 hnd2 => ?_) _ [(B 2, 0, N)] [] M1 rfl ?_ bdF_rf rfl ⟨⟨hb2, gRch_0, hN1, by show 0 + N ≤ N; omega, h'⟩, trivial⟩ (by show N + 0 ≤ 16; omega) ⟨?_, fun j hj => absurd hj (Nat.not_lt_zero j), ?_⟩ g1 g2
      · refine hQ M2 (bdF_tr hF1 hF2) ?_ ⟨x', hxx, h', hnd2⟩ ⟨?_, o, f, n, T, x', hxx, chT_bd hT (bdF_tr hF1 hF2)⟩
        · rw [h72, g4 7 (by decide), hF2.2 6 (by decide) (by decide) (by decide) (by decide), g4 6 (by decide)]
          rw [up_ni _ _ _ _ (by decide), up_ni _ _ _ _ (by decide), up_ni _ _ _ _ (by decide), up_eq, up_ni _ _ _ _ (by decide), up_ni _ _ _ _ (by decide), up_ni _ _ _ _ (by decide), up_ni _ _ _ _ (by decide)]
        · have hF := bdF_tr hF1 hF2
          rw [hF.2 2 (by decide) (by decide) (by decide) (by decide), hF.1 2 (by decide) (by decide)]; exact h2
      · show (yT B x' (B 2) 0 N).1 ++ [] = _
        rw [List.append_nil]
      · rw [g4 14 (by decide), up_ni _ _ _ _ (by decide), up_ni _ _ _ _ (by decide), up_eq]; rfl
      · rw [g4 17 (by decide), up_ni _ _ _ _ (by decide), up_eq]
        exact bs_cong bs_0 (fun q => ⟨fun z => z.elim, fun z => by unfold nds at z; exact absurd z (List.not_mem_nil)⟩)
theorem trO_nd (hW : gW B) (hN : N ≤ 16) (h : trO B x N M) : M 108 14 = ((yT B x (B 2) 0 N).1.length : Int) ∧ (∀ j : Nat, j < (yT B x (B 2) 0 N).1.length → M 115 (j : Int) = ((nds (yT B x (B 2) 0 N).1).getD j 0 : Int)) ∧ bs (M 108 17) (fun r => r ∈ nds (yT B x (B 2) 0 N).1) ∧ 0 < wT B x (B 2) 0 N := by
  obtain ⟨x', hxx, h1, h2⟩ := h
  have e : yT B x' (B 2) 0 N = yT B x (B 2) 0 N := yT_x hW (by omega) h1 (fun j _ hj => hxx j (by omega))
  rw [e] at h2
  refine ⟨h2.1, fun j hj => ?_, h2.2.2, by rw [← wT_x (x := x') (fun j _ hj => hxx j (by omega))]; exact h1⟩
  rw [(h2.2.1 j hj).2.1]
  unfold nds
  rw [List.getD_eq_getElem?_getD, List.getD_eq_getElem?_getD, List.getElem?_map, List.getElem?_eq_getElem hj]
  rfl
theorem x_ownHas (hr : r < 32) {l : List Nat} (h : bs (M 108 17) (fun r => r ∈ l)) (h1 : r ∈ l → Q 1 M) (h0 : ¬ r ∈ l → Q 0 M) : am_s am_P am_gg (d + 1) 11 [.inr (.inr 109), .inl (r : Int)] M Q := by
  refine (v_11_109 _ _ _ _).mpr ?_
  exact p_bit h hr h0 h1
end Sa7
