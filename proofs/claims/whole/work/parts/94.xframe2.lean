/-! the class: a frame -/
section S94
variable {B : Nat → Nat} {M M0 : (Nat → Int → Int)} {d : Nat} {Q : Int → (Nat → Int → Int) → Prop} {P : Nat → Prop}
theorem x_fillFrame (hW : gW B) (hg : xgb B M 2) (hc : chOK B M) (hp : pnI B M) (hr : xrows B M) {f : Nat} (hf : f < 64) (hF : hasF B f) (hup : gsy B (f / 4) ≠ B 2 → lrw 87 (4 * (gX B (gsy B (f / 4)) / 4 % 16) + gX B (gsy B (f / 4)) % 4) (frmN B (4 * (gX B (gsy B (f / 4)) / 4 % 16) + gX B (gsy B (f / 4)) % 4)) M) (h : lrw 87 f (fun _ => False) M) (hQ : ∀ M', rwF 87 f M M' → lrw 87 f (frmN B f) M' → Q 0 M') : am_s am_P am_gg (d + 3) 90 [.inr (.inr 82), .inl (f : Int)] M Q := by
  have hn := hW.1
  have hpo := gpos_ok hW
  have hy := (gK_ok hW).1
  have hx := (gX_ok hW).1
  obtain ⟨o, ho, hP⟩ := hF
  have hF : hasF B f := ⟨o, ho, hP⟩
  have ec : 16 * f + o = cde (f / 4) (f % 4) o := by unfold cde; omega
  rw [ec] at hP
  clear ec
  obtain ⟨p1, p2, p3, p4, p5, p6, p7, p8, p9, p10, p11⟩ := (isP_cde (by omega) (by omega) ho).mp hP
  obtain ⟨hsy, hz, hz4, -, hs⟩ := hW.2.2.2.1 _ p1
  have feq := fun n => frm_eq (i := f % 4) (c := cd (gp B) n) hW hpo hy hx p1 p3
  clear p3 p11 p9 p8 p7 p6
  refine (v_90_82 _ _ _ _).mpr ?_
  have et : w32 (Int.tdiv (f : Int) 4) = ((f / 4 : Nat) : Int) := by rw [show Int.tdiv (f : Int) 4 = ((f / 4 : Nat) : Int) from rfl, w32_i (by omega) (by omega)]
  have em : w32 (Int.tmod (f : Int) 4) = ((f % 4 : Nat) : Int) := by rw [show Int.tmod (f : Int) 4 = ((f % 4 : Nat) : Int) from rfl, w32_i (by omega) (by omega)]
  have eb : w32 ((f : Int) * 16) = ((16 * f : Nat) : Int) := by rw [w32_i (by omega) (by omega)]; omega
  rw [et, em, eb, xg_sy hg p1, xg_rt hg]
  rw [if_pos (by omega)]
  -- the other places
  have places : ∀ (M1 : (Nat → Int → Int)) (P : Nat → Prop) (z1 z2 z3 z4 : Option am_v), rwF 87 f M M1 → lrw 87 f P M1 → (∀ n, n < 1024 → (P n ∨ (∃ i, i < gsz B (f / 4) ∧ i ≠ f % 4 ∧ yatN B (f / 4) i n) ↔ frmN B f n)) → am_x am_P am_gg (d + 2) am_k90 0 Q 104 [some (.inr (.inr 82)), z1, some (.inl (((f / 4 : Nat) : Int))), some (.inl (((f % 4 : Nat) : Int))), some (.inl (((16 * f : Nat) : Int))), z2, some (.inl (0)), z3] [] M1 0 0 := by
    intro M1 P z1 z2 z3 z4 f1 w1 heq
    refine am_x_le [some (.inr (.inr 82)), none, some (.inl (((f / 4 : Nat) : Int))), some (.inl (((f % 4 : Nat) : Int))), some (.inl (((16 * f : Nat) : Int))), none, some (.inl (((0 : Nat) : Int))), none] (am_lb_le _ _ ⟨rfl, rfl, rfl, rfl, rfl, trivial⟩) ?_
    refine p_for (S := (Nat → Int → Int)) (X := fun j M => am_x am_P am_gg (d + 2) am_k90 0 Q 104 [some (.inr (.inr 82)), none, some (.inl (((f / 4 : Nat) : Int))), some (.inl (((f % 4 : Nat) : Int))), some (.inl (((16 * f : Nat) : Int))), none, some (.inl (j)), none] [] M 0 0) (gsz B (f / 4)) (fun e M2 => rwF 87 f M M2 ∧ lrw 87 f (fun n => P n ∨ ∃ i, i < e ∧ i ≠ f % 4 ∧ yatN B (f / 4) i n) M2) ?_ ?_ 0 M1 (by omega) ⟨f1, lrw_cong w1 (fun n _ => ⟨Or.inl, fun z => z.elim id (fun ⟨i, a, _⟩ => absurd a (Nat.not_lt_zero i))⟩)⟩
    · intro M2 ⟨f2, w2⟩
      have hg2 : xgb B M2 2 := xgb_eq hg (fun c _ _ => f2.1 c (by omega))
      refine (h_90_104_82 _ _ _ _ _ _ _).mpr ?_
      rw [xg_sz hg2 p1]
      rw [if_pos (by omega)]
      rw [if_neg (by omega)]
      exact hQ M2 f2 (lrw_cong w2 heq)
    · intro e M2 he ⟨f2, w2⟩ k
      have hg2 : xgb B M2 2 := xgb_eq hg (fun c _ _ => f2.1 c (by omega))
      have hc2 : chOK B M2 := chOK_cong hc (fun i _ => by rw [f2.1 22 (by decide)]) (fun c a b => f2.1 c (by omega))
      have hp2 : pnI B M2 := pnI_eq hp (fun i _ => by rw [f2.1 81 (by decide)]) (fun c a b => f2.1 c (by omega))
      have hr2 : xrows B M2 := fun r hr16 => lrw_cel f2 (by decide) (hr r hr16)
      refine (h_90_104_82 _ _ _ _ _ _ _).mpr ?_
      rw [xg_sz hg2 p1, w32_s (i := e) (by omega)]
      rw [if_pos (by omega)]
      rw [if_pos (by omega)]
      refine @p_if _ _ _ _ ?_ ?_
      · intro q
        refine k M2 ⟨f2, lrw_cong w2 (fun n _ => or_congr Iff.rfl ⟨fun ⟨i, a, z⟩ => ⟨i, by omega, z⟩, fun ⟨i, a, z⟩ => ⟨i, ?_, z⟩⟩)⟩
        by_cases q2 : i = e
        · subst q2; exact absurd (by omega) z.1
        · omega
      · intro q
        refine x_addYieldAt_87 hW hg2 hc2 hp2 hf p1 he (fun _ _ z => absurd z (by decide)) (fun h8 hN => xrows_at hW hr2 h8 hN) w2 (fun M3 f3 w3 => ?_)
        refine k M3 ⟨rwF_tr f2 f3, lrw_cong w3 (fun n _ => ⟨?_, ?_⟩)⟩
        · rintro ((z | ⟨i, a, z⟩) | z)
          · exact Or.inl z
          · exact Or.inr ⟨i, by omega, z⟩
          · exact Or.inr ⟨e, by omega, by omega, z⟩
        · rintro (z | ⟨i, a, z⟩)
          · exact Or.inl (Or.inl z)
          · by_cases q2 : i = e
            · subst q2; exact Or.inr z.2
            · exact Or.inl (Or.inr ⟨i, by omega, z⟩)
  have rowE : ∀ n, n < gN B → (rowH B (gK B) (f / 4) ((f % 4 : Nat) : Int) (cd (gp B) n) ↔ ∃ i, i < gsz B (f / 4) ∧ i ≠ f % 4 ∧ yatN B (f / 4) i n) := by
    intro n hnN
    constructor
    · rintro ⟨i, hi, hb, h8, hor⟩
      have hN := p10 i hi hb h8
      exact ⟨i, hi, by omega, hnN, h8, hN, hor.imp id (fun h => (yh_eq hW hpo hy h8 hN).mp h)⟩
    · rintro ⟨i, hi, hb, _, h8, hN, hor⟩
      exact ⟨i, hi, by omega, h8, hor.imp id (fun h => (yh_eq hW hpo hy h8 hN).mpr h)⟩
  refine @p_if _ _ _ _ ?_ ?_
  · intro e
    refine places M _ _ _ _ none rwF_rf h (fun n _ => ?_)
    unfold frmN
    constructor
    · rintro (z | z)
      · exact z.elim
      · have hnN : n < gN B := by obtain ⟨i, _, _, y⟩ := z; exact y.1
        exact ⟨hnN, (feq n).mpr (Or.inl ((rowE n hnN).mpr z))⟩
    · rintro ⟨hnN, z⟩
      rcases (feq n).mp z with z | z
      · exact Or.inr ((rowE n hnN).mp z)
      · exact absurd (show gsy B (f / 4) = B 2 by omega) z.1
  · intro e
    have h2 : gsy B (f / 4) ≠ B 2 := by omega
    obtain ⟨hup1, lt, -, -⟩ := up_frame hW hf hF h2
    have hup := hup h2
    have gw := hc.2.1
    refine x_contextRule hg gw hsy h2 (x_contextPlace hg gw hsy h2 ?_)
    have rr : ∀ n, frmN B f n ↔ n < gN B ∧ (rowH B (gK B) (f / 4) ((f % 4 : Nat) : Int) (cd (gp B) n) ∨ (cd (gp B) n = cde (gX B (gsy B (f / 4)) / 4 % 16) (gX B (gsy B (f / 4)) % 4) (f / 4) ∨ frm B (gK B) (gX B) (gX B (gsy B (f / 4)) / 4 % 16) (gX B (gsy B (f / 4)) % 4) (cd (gp B) n))) := fun n => by
      unfold frmN; rw [feq n]
      exact and_congr Iff.rfl (or_congr Iff.rfl ⟨fun z => z.2, fun z => ⟨h2, z⟩⟩)
    have neqf : 4 * (gX B (gsy B (f / 4)) / 4 % 16) + gX B (gsy B (f / 4)) % 4 ≠ f := fun z => by
      have : gX B (gsy B (f / 4)) / 4 % 16 = f / 4 := by omega
      rw [this] at lt; omega
    generalize gX B (gsy B (f / 4)) / 4 % 16 = r1 at *
    have hr1 : r1 < 16 := by
      by_cases z : r1 < 16
      · exact z
      · obtain ⟨o1, ho1, hP1⟩ := hup1
        have := hP1.1
        omega
    generalize hi1 : gX B (gsy B (f / 4)) % 4 = i1 at *
    refine x_numberOf hp.1 hr1 (by omega) (by omega) ?_
    have c4 := cde_lt (r := r1) (i := i1) (o := f / 4) hr1 (by omega) (by omega)
    refine x_addBit_87 hf c4 h (fun M1 f1 w1 => ?_)
    rw [show w32 (w32 (w32 ((r1 : Int) * 4) + (i1 : Int)) * 16) = ((16 * (4 * r1 + i1) : Nat) : Int) by rw [w32_i (x := (r1 : Int) * 4) (by omega) (by omega), w32_i (x := (r1 : Int) * 4 + (i1 : Int)) (by omega) (by omega), w32_i (by omega) (by omega)]; omega]
    refine x_addWords_87_87 hf (by omega) (fun _ z => neqf z.symm) (pnI_eq hp (fun i _ => by rw [f1.1 81 (by decide)]) (fun c a b => f1.1 c (by omega))) w1 (lrw_oth f1 neqf hup) (fun n z => z.1) (fun M2 f2 w2 => ?_)
    refine places M2 _ _ _ _ none (rwF_tr f1 f2) w2 (fun n _ => ?_)
    rw [rr n, bit_eq c4]
    have fe : frmN B (4 * r1 + i1) n ↔ n < gN B ∧ frm B (gK B) (gX B) r1 i1 (cd (gp B) n) := by
      unfold frmN; rw [show (4 * r1 + i1) / 4 = r1 by omega, show (4 * r1 + i1) % 4 = i1 by omega]
    rw [fe]
    constructor
    · rintro (((z | z) | z) | z)
      · exact z.elim
      · exact ⟨z.1, Or.inr (Or.inl z.2)⟩
      · exact ⟨z.1, Or.inr (Or.inr z.2)⟩
      · have hnN : n < gN B := by obtain ⟨i, _, _, y⟩ := z; exact y.1
        exact ⟨hnN, Or.inl ((rowE n hnN).mpr z)⟩
    · rintro ⟨hnN, z | z | z⟩
      · exact Or.inr ((rowE n hnN).mp z)
      · exact Or.inl (Or.inl (Or.inr ⟨hnN, z⟩))
      · exact Or.inl (Or.inr ⟨hnN, z⟩)
end S94
