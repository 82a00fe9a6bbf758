/-! the class: all rows, all frames -/
def whN (B : Nat → Nat) (r : Nat) : Prop := r < B 0 ∧ gon B r = true ∧ avb B (gK B) r (-1)
def xrows (B : Nat → Nat) (M : (Nat → Int → Int)) : Prop := ∀ r, r < 16 → lrw 88 r (fun n => whN B r ∧ rowN B r n) M
def frmN (B : Nat → Nat) (f n : Nat) : Prop := n < gN B ∧ frm B (gK B) (gX B) (f / 4) (f % 4) (cd (gp B) n)
/-- a frame that has a pair -/
def hasF (B : Nat → Nat) (f : Nat) : Prop := ∃ o, o < 16 ∧ isP B (gK B) (gX B) (16 * f + o)
section S93
variable {B : Nat → Nat} {M M0 : (Nat → Int → Int)} {d : Nat} {Q : Int → (Nat → Int → Int) → Prop} {P : Nat → Prop}
theorem hasF_iff {f : Nat} : cnt (gp B) (16 * f) < cnt (gp B) (16 * (f + 1)) ↔ hasF B f := by
  constructor
  · intro h
    refine Classical.byContradiction (fun no => ?_)
    have := cnt_skip (p := gp B) (t := 16 * f) (t' := 16 * (f + 1)) (by omega) (fun c a b => by
      cases e : gp B c with
      | false => rfl
      | true => exact absurd ⟨c - 16 * f, by omega, by rw [show 16 * f + (c - 16 * f) = c by omega]; exact gp_iff.mp e⟩ no)
    omega
  · intro ⟨o, ho, hp⟩
    have h1 := cnt_lt_of (gp_iff.mpr hp) (n := 16 * (f + 1)) (by omega)
    have h2 := cnt_le_of (p := gp B) (c := 16 * f) (n := 16 * f + o) (by omega)
    omega
/-- the rows' cells alone change -/
def wF1 (c : Nat) (M M' : (Nat → Int → Int)) : Prop := ∀ k, k ≠ c → M' k = M k
theorem own_wh (hW : gW B) {s : Nat} (hs : s < 8) (hN : gK B s ≠ NK) : whN B (gK B s % 16) := by
  obtain ⟨ok, -, -, hr, -⟩ := y_own hW (gpos_ok hW) (gK_ok hW).1 hs hN
  exact ⟨hr, ok.2.1, ok.2.2.1⟩
theorem x_fillRows (hW : gW B) (hg0 : xgb B M0 2) (hc0 : chOK B M0) (hp0 : pnI B M0) (hQ : ∀ M', wF1 88 M0 M' → xrows B M' → Q 0 M') : am_s am_P am_gg (d + 4) 87 [.inr (.inr 82)] M0 Q := by
  have hn := hW.1
  have hpo := gpos_ok hW
  have hy := (gK_ok hW).1
  obtain ⟨n, o, e5, ⟨o1, o2, o3⟩, oa, oj⟩ := hc0.2.2.2.1
  refine (v_87_82 _ _ _).mpr (x_fill_88 ?_)
  have keep : ∀ M', wF1 88 M0 M' → xgb B M' 2 ∧ chOK B M' ∧ pnI B M' := fun M' f => ⟨xgb_eq hg0 (fun c _ _ => f c (by omega)), chOK_cong hc0 (fun i _ => by rw [f 22 (by decide)]) (fun c a b => f c (by omega)), pnI_eq hp0 (fun i _ => by rw [f 81 (by decide)]) (fun c a b => f c (by omega))⟩
  refine p_for (S := Int × (Nat → Int → Int)) (X := fun j x => am_x am_P am_gg (d + 3) am_k87 0 Q 12 [some (.inr (.inr 82)), some (.inl (x.1)), some (.inl (j)), none] [] x.2 0 0) n (fun b x => wF1 88 M0 x.2 ∧ bs x.1 (fun r => ∃ i, i < b ∧ r = gK B (o i) % 16) ∧ ∀ r, r < 16 → lrw 88 r (fun m => (∃ i, i < b ∧ r = gK B (o i) % 16) ∧ rowN B r m) x.2) ?_ ?_ 0 (0, am_fil M0 88 0 256 0) (by omega) ?_
  · intro x ⟨f1, b1, w1⟩
    obtain ⟨a, M1⟩ := x
    dsimp only at f1 b1 w1 ⊢
    refine (h_87_12_82 _ _ _ _ _).mpr ?_
    rw [f1 22 (by decide), e5]
    rw [if_neg (by omega)]
    refine p_for (S := (Nat → Int → Int)) (X := fun j M => am_x am_P am_gg (d + 3) am_k87 0 Q 59 [some (.inr (.inr 82)), some (.inl (a)), some (.inl (j)), none] [] M 0 0) (B 0) (fun b M2 => wF1 88 M0 M2 ∧ ∀ r, r < 16 → lrw 88 r (fun m => ((∃ i, i < n ∧ r = gK B (o i) % 16) ∨ r < b ∧ whN B r) ∧ rowN B r m) M2) ?_ ?_ 0 M1 (by omega) ⟨f1, fun r hr => lrw_cong (w1 r hr) (fun m _ => and_congr ⟨Or.inl, fun z => z.elim id (fun z => absurd z.1 (Nat.not_lt_zero r))⟩ Iff.rfl)⟩
    · intro M2 ⟨f2, w2⟩
      obtain ⟨hg, hc, hp⟩ := keep M2 f2
      refine (h_87_59_82 _ _ _ _ _).mpr ?_
      rw [xg_n hg]
      rw [if_neg (by omega)]
      refine hQ M2 f2 (fun r hr => lrw_cong (w2 r hr) (fun m _ => and_congr ⟨?_, fun z => Or.inr ⟨z.1, z⟩⟩ Iff.rfl))
      rintro (⟨i, hi, e⟩ | z)
      · obtain ⟨_, q2, q3⟩ := o2 i hi
        rw [e]; exact own_wh hW q2 q3
      · exact z.2
    · intro b M2 hb ⟨f2, w2⟩ k
      obtain ⟨hg, hc, hp⟩ := keep M2 f2
      have nx : ∀ M3, wF1 88 M0 M3 → (∀ r, r < 16 → lrw 88 r (fun m => ((∃ i, i < n ∧ r = gK B (o i) % 16) ∨ r < b + 1 ∧ whN B r) ∧ rowN B r m) M3) → am_x am_P am_gg (d + 3) am_k87 0 Q 59 [some (.inr (.inr 82)), some (.inl (a)), some (.inl ((w32 ((b : Int) + 1)))), none] [] M3 0 0 := fun M3 f3 w3 => by
        rw [w32_s (by omega)]; exact k M3 ⟨f3, w3⟩
      refine (h_87_59_82 _ _ _ _ _).mpr ?_
      rw [xg_n hg]
      rw [if_pos (by omega)]
      refine x_isWhole hW hg hc hb ?_ ?_
      · intro ho hav
        rw [if_neg (by omega)]
        have hwh : whN B b := ⟨hb, ho, hav⟩
        refine p_bit b1 (by omega) (fun nb => ?_) (fun yb => ?_)
        · have fil : ∀ i, i < gsz B b → gsg B b i < 8 → ∃ j, j < n ∧ gK B (gsg B b i) % 16 = gK B (o j) % 16 := fun i hi h8 => by
            obtain ⟨j, hj, e⟩ := oa _ h8 (hav i hi (by omega) h8)
            exact ⟨j, hj, by rw [e]⟩
          refine x_fillRow hW hg hc hp hb hav (fun i hi h8 e => ?_) (fun i hi h8 => ?_) (w2 b (by omega)) (fun M3 f3 w3 => ?_)
          · obtain ⟨j, hj, e2⟩ := fil i hi h8
            exact nb ⟨j, hj, by rw [e, e2]⟩
          · obtain ⟨j, hj, e2⟩ := fil i hi h8
            have z := own_wh hW h8 (hav i hi (by omega) h8)
            exact lrw_cong (w2 _ (by have := z.1; omega)) (fun m _ => ⟨fun y => y.2, fun y => ⟨Or.inl ⟨j, hj, e2⟩, y⟩⟩)
          · refine nx M3 (fun c hc => by rw [f3.1 c hc]; exact f2 c hc) (fun r hr => ?_)
            by_cases q : r = b
            · subst q
              exact lrw_cong w3 (fun m _ => ⟨fun z => z.elim (fun z => ⟨z.1.imp id (fun y => ⟨by omega, y.2⟩), z.2⟩) (fun z => ⟨Or.inr ⟨by omega, hwh⟩, z⟩), fun z => Or.inr z.2⟩)
            · exact lrw_cong (lrw_oth f3 q (w2 r hr)) (fun m _ => and_congr (or_congr Iff.rfl ⟨fun z => ⟨by omega, z.2⟩, fun z => ⟨by omega, z.2⟩⟩) Iff.rfl)
        · refine nx M2 f2 (fun r hr => lrw_cong (w2 r hr) (fun m _ => and_congr ⟨fun z => z.imp id (fun z => ⟨by omega, z.2⟩), fun z => ?_⟩ Iff.rfl))
          rcases z with z | z
          · exact Or.inl z
          · by_cases q : r = b
            · subst q; exact Or.inl yb
            · exact Or.inr ⟨by omega, z.2⟩
      · intro hno
        rw [if_pos (by omega)]
        refine nx M2 f2 (fun r hr => lrw_cong (w2 r hr) (fun m _ => and_congr ⟨fun z => z.imp id (fun z => ⟨by omega, z.2⟩), fun z => ?_⟩ Iff.rfl))
        rcases z with z | z
        · exact Or.inl z
        · by_cases q : r = b
          · subst q; exact absurd ⟨z.2.2.1, z.2.2.2⟩ hno
          · exact Or.inr ⟨by omega, z.2⟩
  · intro b x hb ⟨f1, b1, w1⟩ k
    obtain ⟨a, M1⟩ := x
    dsimp only at f1 b1 w1 ⊢
    obtain ⟨hg, hc, hp⟩ := keep M1 f1
    obtain ⟨qa, qb, qc⟩ := o2 b hb
    obtain ⟨ok, hsy, -, hr, -⟩ := y_own hW hpo hy qb qc
    have ls := @y_less B (gK B) (gpos B) hW hpo hy (o b) qb qc
    refine (h_87_12_82 _ _ _ _ _).mpr ?_
    rw [f1 22 (by decide), e5, f1 25 (by decide), qa]
    rw [if_pos (by omega)]
    rw [if_pos (by omega)]
    refine x_yieldRule hc.1 qb ?_
    have idx : ∀ i, i < gsz B (gK B (o b) % 16) → gsg B (gK B (o b) % 16) i < 8 → ∃ j, j < b ∧ o j = gsg B (gK B (o b) % 16) i := fun i hi h8 => by
      obtain ⟨l1, l2⟩ := ls hi h8
      obtain ⟨j, hj, e⟩ := oa _ h8 l2
      refine ⟨j, ?_, e⟩
      by_cases z : j < b
      · exact z
      · by_cases z2 : j = b
        · subst z2; have e' := congrArg (gK B) e; omega
        · have := o3 b j (by omega) hj; rw [e] at this; omega
    refine x_fillRow hW hg hc hp hr ok.2.2.1 (fun i hi h8 e => ?_) (fun i hi h8 => ?_) (w1 _ (by omega)) (fun M2 f2 w2 => ?_)
    · obtain ⟨l1, l2⟩ := ls hi h8
      have := (y_own hW hpo hy h8 l2).2.1
      rw [← e, hsy] at this
      rw [← this] at l1; omega
    · obtain ⟨j, hj, e⟩ := idx i hi h8
      have z := own_wh hW h8 (ls hi h8).2
      exact lrw_cong (w1 _ (by have := z.1; omega)) (fun m _ => ⟨fun y => y.2, fun y => ⟨⟨j, hj, by rw [e]⟩, y⟩⟩)
    · rw [w32_s (by omega)]
      refine am_x_le [some (.inr (.inr 82)), some (.inl (i_or a (i_shl 1 ((gK B (o b) % 16 : Nat) : Int)))), some (.inl (((b + 1 : Nat) : Int))), none] (am_lb_le _ _ ⟨rfl, rfl, rfl, trivial⟩) ?_
      refine k (i_or a (i_shl 1 ((gK B (o b) % 16 : Nat) : Int)), M2) ⟨fun c hc => (f2.1 c hc).trans (f1 c hc), bs_cong (bs_add b1 (by omega)) (fun j => ⟨?_, ?_⟩), fun r hr2 => ?_⟩
      · rintro (⟨i, hi, e⟩ | e)
        · exact ⟨i, by omega, e⟩
        · exact ⟨b, by omega, e⟩
      · rintro ⟨i, hi, e⟩
        by_cases q : i = b
        · subst q; exact Or.inr e
        · exact Or.inl ⟨i, by omega, e⟩
      · dsimp only
        by_cases q : r = gK B (o b) % 16
        · subst q
          exact lrw_cong w2 (fun m _ => ⟨fun z => z.elim (fun z => ⟨⟨b, by omega, rfl⟩, z.2⟩) (fun z => ⟨⟨b, by omega, rfl⟩, z⟩), fun z => Or.inr z.2⟩)
        · refine lrw_cong (lrw_oth f2 q (w1 r hr2)) (fun m _ => and_congr ⟨fun ⟨i, hi, e⟩ => ⟨i, by omega, e⟩, fun ⟨i, hi, e⟩ => ?_⟩ Iff.rfl)
          by_cases q2 : i = b
          · subst q2; exact absurd e q
          · exact ⟨i, by omega, e⟩
  · refine ⟨fun c hc => ?_, bs_cong bs_0 (fun j => ⟨fun z => z.elim, fun ⟨i, hi, _⟩ => absurd hi (Nat.not_lt_zero i)⟩), fun r hr w hw => ?_⟩
    · show am_fil M0 88 0 256 0 c = _
      rw [fil_nc _ _ _ _ _ hc]
    · dsimp only
      rw [fil_at, if_pos (by omega)]
      exact ld_cong ld_0 (fun k _ => ⟨fun z => z.elim, fun ⟨⟨i, hi, _⟩, _⟩ => absurd hi (Nat.not_lt_zero i)⟩)
theorem xrows_at (hW : gW B) (h : xrows B M) {s : Nat} (hs : s < 8) (hN : gK B s ≠ NK) : lrw 88 (gK B s % 16) (rowN B (gK B s % 16)) M := by
  have z := own_wh hW hs hN
  exact lrw_cong (h _ (by omega)) (fun n _ => ⟨fun y => y.2, fun y => ⟨z, y⟩⟩)
/-- the frame above one that has a pair -/
theorem up_frame (hW : gW B) {f : Nat} (hf : f < 64) (h : hasF B f) (h2 : gsy B (f / 4) ≠ B 2) : hasF B (4 * (gX B (gsy B (f / 4)) / 4 % 16) + gX B (gsy B (f / 4)) % 4) ∧ gX B (gsy B (gX B (gsy B (f / 4)) / 4 % 16)) < gX B (gsy B (f / 4)) ∧ f / 4 < B 0 ∧ gX B (gsy B (f / 4)) ≠ NK := by
  have hn := hW.1
  have hp := gpos_ok hW
  have hy := (gK_ok hW).1
  have hx := (gX_ok hW).1
  obtain ⟨o, ho, hP⟩ := h
  have ec : 16 * f + o = cde (f / 4) (f % 4) o := by unfold cde; omega
  rw [ec] at hP
  obtain ⟨p1, p2, p3, p4, p5, p6, p7, p8, p9, p10, p11⟩ := (isP_cde (by omega) (by omega) ho).mp hP
  have hsy := (hW.2.2.2.1 _ p1).1
  obtain ⟨xok, hg, hcc, -, lt⟩ := x_own hW hp hy hx hsy h2 p3
  refine ⟨⟨f / 4, by omega, ?_⟩, lt, p1, p3⟩
  have fr : frm B (gK B) (gX B) (f / 4) (f % 4) (cde (gX B (gsy B (f / 4)) / 4 % 16) (gX B (gsy B (f / 4)) % 4) (f / 4)) := (frm_eq hW hp hy hx p1 p3).mpr (Or.inr ⟨h2, Or.inl rfl⟩)
  have := frm_pairs hW _ _ _ o (Nat.lt_succ_self _) (by omega) (by omega) ho hP fr
  rw [show 16 * (4 * (gX B (gsy B (f / 4)) / 4 % 16) + gX B (gsy B (f / 4)) % 4) + f / 4 = cde (gX B (gsy B (f / 4)) / 4 % 16) (gX B (gsy B (f / 4)) % 4) (f / 4) by unfold cde; omega]
  exact this
end S93
