/-! the class: all frames; the same the other way about -/
/-- the frames that are filled, and in which order -/
def ffI (B : Nat → Nat) (M : (Nat → Int → Int)) (D : Nat → Bool) (φ : Nat → Nat) : Prop := M 81 10 = (cnt D 64 : Int) ∧ (∀ i, i < cnt D 64 → M 86 (i : Int) = (φ i : Int) ∧ φ i < 64 ∧ D (φ i) = true) ∧ (∀ f, f < 64 → D f = true → ∃ i, i < cnt D 64 ∧ φ i = f) ∧ (∀ i j, i < j → j < cnt D 64 → φ i ≠ φ j) ∧ (∀ f, f < 64 → D f = true → hasF B f) ∧ ∀ f, f < 64 → lrw 87 f (fun n => D f = true ∧ frmN B f n) M
def ffF (M M' : (Nat → Int → Int)) : Prop := (∀ c, c ≠ 81 → c ≠ 86 → c ≠ 87 → M' c = M c) ∧ ∀ i : Int, i ≠ 10 → M' 81 i = M 81 i
section S95
variable {B : Nat → Nat} {M M0 : (Nat → Int → Int)} {d : Nat} {Q : Int → (Nat → Int → Int) → Prop} {P : Nat → Prop}
theorem ffF_R {M1 : (Nat → Int → Int)} (f : ffF M M1) (hg : xgb B M 2) (hc : chOK B M) (hp : pnI B M) (hr : xrows B M) (hf : xfF B 65 M) : xgb B M1 2 ∧ chOK B M1 ∧ pnI B M1 ∧ xrows B M1 ∧ xfF B 65 M1 :=
  ⟨xgb_eq hg (fun c _ _ => f.1 c (by omega) (by omega) (by omega)), chOK_cong hc (fun i _ => by rw [f.1 22 (by decide) (by decide) (by decide)]) (fun c a b => f.1 c (by omega) (by omega) (by omega)), pnI_eq hp (fun i hi => f.2 i (by omega)) (fun c a b => f.1 c (by omega) (by omega) (by omega)), fun r hr16 w hw => by rw [f.1 88 (by decide) (by decide) (by decide)]; exact hr r hr16 w hw, fun g hg => by rw [f.1 85 (by decide) (by decide) (by decide)]; exact hf g hg⟩
theorem x_fillFrames (hW : gW B) (hg0 : xgb B M0 2) (hc0 : chOK B M0) (hp0 : pnI B M0) (hr0 : xrows B M0) (hf0 : xfF B 65 M0) (hQ : ∀ M' D φ, ffF M0 M' → ffI B M' D φ → (∀ f, f < 64 → hasF B f → D f = true) → Q 0 M') : am_s am_P am_gg (d + 4) 89 [.inr (.inr 82)] M0 Q := by
  have hn := hW.1
  obtain ⟨m, q, e7, ⟨o1, o2, o3⟩, oa, oj⟩ := hc0.2.2.2.2.1
  refine (v_89_82 _ _ _).mpr (x_fill_87 ?_)
  refine p_for (S := ((Nat → Bool) × (Nat → Nat)) × (Nat → Int → Int)) (X := fun j x => am_x am_P am_gg (d + 3) am_k89 0 Q 15 [some (.inr (.inr 82)), some (.inl (j)), none, none] [] x.2 0 0) m (fun a x => ffF M0 x.2 ∧ ffI B x.2 x.1.1 x.1.2 ∧ ∀ f, f < 64 → (x.1.1 f = true ↔ hasF B f ∧ ∃ a', a' < a ∧ gsy B (f / 4) = q a')) ?_ ?_ 0 ((fun _ => false, fun _ => 0), am_up (am_fil M0 87 0 1024 0) 81 10 0) (by omega) ?_
  · intro x ⟨f1, i1, d1⟩
    obtain ⟨⟨D, φ⟩, M1⟩ := x
    dsimp only at f1 i1 d1 ⊢
    refine (h_89_15_82 _ _ _ _).mpr ?_
    rw [f1.1 22 (by decide) (by decide) (by decide), e7]
    rw [if_neg (by omega)]
    refine hQ M1 D φ f1 i1 (fun f hf hF => (d1 f hf).mpr ⟨hF, ?_⟩)
    obtain ⟨o, ho, hP⟩ := hF
    have e1 : (16 * f + o) / 64 = f / 4 := by omega
    have h1 := hP.1
    have h3 := hP.2.2.1
    rw [e1] at h1 h3
    obtain ⟨i, hi, e⟩ := oa _ ((hW.2.2.2.1 _ h1).1) h3
    exact ⟨i, hi, e.symm⟩
  · intro a x ha ⟨f1, i1, d1⟩ k
    obtain ⟨⟨D, φ⟩, M1⟩ := x
    dsimp only at f1 i1 d1 ⊢
    obtain ⟨qa, qb, qc⟩ := o2 a ha
    refine (h_89_15_82 _ _ _ _).mpr ?_
    rw [f1.1 22 (by decide) (by decide) (by decide), e7, f1.1 26 (by decide) (by decide) (by decide), qa]
    rw [if_pos (by omega)]
    rw [if_pos (by omega)]
    refine p_for (S := ((Nat → Bool) × (Nat → Nat)) × (Nat → Int → Int)) (X := fun j x => am_x am_P am_gg (d + 3) am_k89 0 Q 38 [some (.inr (.inr 82)), some (.inl ((a : Int))), some (.inl ((q a : Int))), some (.inl (j))] [] x.2 0 0) (B 0 * 4) (fun c x => ffF M0 x.2 ∧ ffI B x.2 x.1.1 x.1.2 ∧ ∀ f, f < 64 → (x.1.1 f = true ↔ hasF B f ∧ ((∃ a', a' < a ∧ gsy B (f / 4) = q a') ∨ gsy B (f / 4) = q a ∧ f < c))) ?_ ?_ 0 ((D, φ), M1) (by omega) ⟨f1, i1, fun f hf => (d1 f hf).trans (and_congr Iff.rfl ⟨Or.inl, fun z => z.elim id (fun z => absurd z.2 (Nat.not_lt_zero f))⟩)⟩
    · intro x ⟨f2, i2, d2⟩
      obtain ⟨⟨D, φ⟩, M2⟩ := x
      dsimp only at f2 i2 d2 ⊢
      obtain ⟨hg, hc, hp, hr, hf⟩ := ffF_R f2 hg0 hc0 hp0 hr0 hf0
      refine (h_89_38_82 _ _ _ _ _ _).mpr ?_
      rw [xg_n hg, show w32 ((B 0 : Int) * 4) = ((B 0 * 4 : Nat) : Int) by rw [w32_i (by omega) (by omega)]; omega, w32_s (i := a) (by omega)]
      rw [if_neg (by omega)]
      refine am_x_le [some (.inr (.inr 82)), some (.inl (((a + 1 : Nat) : Int))), none, none] (am_lb_le _ _ ⟨rfl, rfl, trivial⟩) ?_
      refine k ((D, φ), M2) ⟨f2, i2, fun f hf => (d2 f hf).trans (and_congr_right (fun hF => ⟨?_, ?_⟩))⟩
      · rintro (⟨a', h1, h2⟩ | h)
        · exact ⟨a', by omega, h2⟩
        · exact ⟨a, by omega, h.1⟩
      · rintro ⟨a', h1, h2⟩
        by_cases z : a' = a
        · subst z
          refine Or.inr ⟨h2, ?_⟩
          obtain ⟨o, ho, hP⟩ := hF
          have := hP.1
          clear hP
          omega
        · exact Or.inl ⟨a', by omega, h2⟩
    · intro c x hc4 ⟨f2, i2, d2⟩ k2
      obtain ⟨⟨D, φ⟩, M2⟩ := x
      dsimp only at f2 i2 d2 ⊢
      obtain ⟨hg, hc, hp, hr, hf⟩ := ffF_R f2 hg0 hc0 hp0 hr0 hf0
      have hr4 : c / 4 < B 0 := by omega
      have hsy := (hW.2.2.2.1 _ hr4).1
      have skip : ¬ (hasF B c ∧ gsy B (c / 4) = q a) → am_x am_P am_gg (d + 3) am_k89 0 Q 38 [some (.inr (.inr 82)), some (.inl ((a : Int))), some (.inl ((q a : Int))), some (.inl (((c + 1 : Nat) : Int)))] [] M2 0 0 := by
        intro no
        refine k2 ((D, φ), M2) ⟨f2, i2, fun f hf => (d2 f hf).trans (and_congr_right (fun hF => or_congr Iff.rfl ⟨fun z => ⟨z.1, by omega⟩, fun z => ⟨z.1, ?_⟩⟩))⟩
        by_cases e : f = c
        · subst e; exact absurd ⟨hF, z.1⟩ no
        · omega
      refine (h_89_38_82 _ _ _ _ _ _).mpr ?_
      have et : w32 (Int.tdiv (c : Int) 4) = ((c / 4 : Nat) : Int) := by rw [show Int.tdiv (c : Int) 4 = ((c / 4 : Nat) : Int) from rfl, w32_i (by omega) (by omega)]
      rw [xg_n hg, show w32 ((B 0 : Int) * 4) = ((B 0 * 4 : Nat) : Int) by rw [w32_i (by omega) (by omega)]; omega, w32_s (i := c) (by omega), et, xg_sy hg hr4]
      rw [if_pos (by omega)]
      rw [if_pos (by omega)]
      refine @p_if _ _ _ _ ?_ ?_
      · intro e
        have e : gsy B (c / 4) = q a := by omega
        -- this frame isn't filled yet
        have dno : hasF B c → D c = false := fun hF => by
          cases z : D c with
          | false => rfl
          | true =>
            rcases ((d2 c (by omega)).mp z).2 with ⟨a', h1, h2⟩ | h
            · exact absurd (h2.symm.trans e) (oj a' a h1 ha)
            · exact absurd h.2 (Nat.lt_irrefl _)
        have le64 := cnt_le (p := D) 64
        by_cases hF : hasF B c
        · have cl := cnt_lt (p := D) (q := fun _ => true) (n := 64) (t := c) (fun _ _ _ => rfl) (by omega) rfl (dno hF)
          have ct := cnt_le (p := fun _ => true) 64
          have hfi := hasF_iff.mpr hF
          rw [i2.1, hf c (by omega), hf (c + 1) (by omega), w32_s (i := cnt D 64) (by omega)]
          rw [if_pos (by omega)]
          rw [if_pos (by omega)]
          rw [if_pos (by omega)]
          rw [if_pos (by omega)]
          rw [if_pos (by omega)]
          generalize hM3 : am_up (am_up M2 86 (cnt D 64 : Int) (c : Int)) 81 10 ((cnt D 64 + 1 : Nat) : Int) = M3
          have f3 : ffF M0 M3 := by
            rw [← hM3]
            exact ⟨fun k a b e => by rw [up_nc _ _ _ _ a, up_nc _ _ _ _ b]; exact f2.1 k a b e, fun i hi => by rw [up_ni _ _ _ _ hi, up_nc _ _ _ _ (by decide)]; exact f2.2 i hi⟩
          have c87 : M3 87 = M2 87 := by rw [← hM3, up_nc _ _ _ _ (by decide), up_nc _ _ _ _ (by decide)]
          obtain ⟨hg3, hc3, hp3, hr3, hf3⟩ := ffF_R f3 hg0 hc0 hp0 hr0 hf0
          have rows3 : ∀ f, f < 64 → lrw 87 f (fun n => D f = true ∧ frmN B f n) M3 := fun f hf w hw => by rw [c87]; exact i2.2.2.2.2.2 f hf w hw
          refine x_fillFrame hW hg3 hc3 hp3 hr3 (by omega) hF (fun h2 => ?_) (lrw_cong (rows3 c (by omega)) (fun n _ => ⟨fun z => (by rw [dno hF] at z; cases z.1), fun z => z.elim⟩)) (fun M4 f4 w4 => ?_)
          · obtain ⟨u1, u2, u3, u4⟩ := up_frame hW (by omega) hF h2
            have hx := (gX_ok hW).1
            obtain ⟨xok, -⟩ := x_own hW (gpos_ok hW) (gK_ok hW).1 hx hsy h2 u4
            have sx := (hW.2.2.2.1 _ xok.1).1
            obtain ⟨ia, hia, eia⟩ := oa _ sx xok.2.2.2.2.2.1
            have ial : ia < a := by
              by_cases z : ia < a
              · exact z
              · by_cases z2 : ia = a
                · subst z2
                  rw [← eia, ← e] at u2; omega
                · have := o3 a ia (by omega) hia
                  rw [eia, ← e] at this; omega
            have dt := (d2 (4 * (gX B (gsy B (c / 4)) / 4 % 16) + gX B (gsy B (c / 4)) % 4) (by have := xok.1; clear xok; omega)).mpr ⟨u1, Or.inl ⟨ia, ial, by rw [eia, show (4 * (gX B (gsy B (c / 4)) / 4 % 16) + gX B (gsy B (c / 4)) % 4) / 4 = gX B (gsy B (c / 4)) / 4 % 16 by omega]⟩⟩
            exact lrw_cong (rows3 _ (by have := xok.1; clear xok; omega)) (fun n _ => ⟨fun z => z.2, fun z => ⟨dt, z⟩⟩)
          · have cc : cnt (fun f => if f = c then true else D f) 64 = cnt D 64 + 1 := cnt_add (p := D) (q := fun f => if f = c then true else D f) (t := c) (dno hF) (by simp) (fun k hk => by simp [hk]) (by omega)
            refine k2 ((fun f => if f = c then true else D f, fun i => if i = cnt D 64 then c else φ i), M4) ⟨⟨fun k a b e => by dsimp only; rw [f4.1 k e]; exact f3.1 k a b e, fun i hi => by dsimp only; rw [f4.1 81 (by decide)]; exact f3.2 i hi⟩, ⟨?_, fun i hi => ?_, fun f hf hD => ?_, fun i j hij hj => ?_, fun f hf hD => ?_, fun f hf => ?_⟩, fun f hf => ?_⟩
            · dsimp only
              rw [f4.1 81 (by decide), ← hM3, up_eq, cc]
            · dsimp only at hi ⊢
              rw [cc] at hi
              rw [f4.1 86 (by decide), ← hM3, up_nc _ _ _ _ (by decide), up_ci]
              by_cases z : i = cnt D 64
              · rw [if_pos (by omega), if_pos z, if_pos rfl]; exact ⟨rfl, by omega, rfl⟩
              · rw [if_neg (by omega), if_neg z]
                obtain ⟨w1, w2, w3⟩ := i2.2.1 i (by omega)
                refine ⟨w1, w2, ?_⟩
                by_cases y : φ i = c
                · rw [if_pos y]
                · rw [if_neg y]; exact w3
            · dsimp only at hD ⊢
              rw [cc]
              by_cases z : f = c
              · exact ⟨cnt D 64, by omega, by rw [if_pos rfl, z]⟩
              · rw [if_neg z] at hD
                obtain ⟨i, hi, ei⟩ := i2.2.2.1 f hf hD
                exact ⟨i, by omega, by rw [if_neg (by omega)]; exact ei⟩
            · dsimp only at hj ⊢
              rw [cc] at hj
              rw [if_neg (show ¬ i = cnt D 64 by omega)]
              by_cases z : j = cnt D 64
              · rw [if_pos z]
                intro y
                have := (i2.2.1 i (by omega)).2.2
                rw [y, dno hF] at this; cases this
              · rw [if_neg z]; exact i2.2.2.2.1 i j hij (by omega)
            · dsimp only at hD
              by_cases z : f = c
              · subst z; exact hF
              · rw [if_neg z] at hD; exact i2.2.2.2.2.1 f hf hD
            · dsimp only
              by_cases z : f = c
              · subst z
                exact lrw_cong w4 (fun n _ => ⟨fun y => ⟨by rw [if_pos rfl], y⟩, fun y => y.2⟩)
              · exact lrw_cong (lrw_oth f4 z (rows3 f hf)) (fun n _ => by rw [if_neg z])
            · dsimp only
              by_cases z : f = c
              · subst z
                rw [if_pos rfl]
                exact ⟨fun _ => ⟨hF, Or.inr ⟨e, by omega⟩⟩, fun _ => rfl⟩
              · rw [if_neg z]
                exact (d2 f hf).trans (and_congr_right (fun _ => or_congr Iff.rfl ⟨fun y => ⟨y.1, by omega⟩, fun y => ⟨y.1, by omega⟩⟩))
        · have hfi := mt hasF_iff.mp hF
          rw [i2.1, hf c (by omega), hf (c + 1) (by omega)]
          refine @p_if _ _ _ _ ?_ ?_
          · intro _
            rw [if_pos (by omega)]
            rw [if_pos (by omega)]
            rw [if_neg (by omega)]
            exact skip (fun z => hF z.1)
          · intro _
            exact skip (fun z => hF z.1)
      · intro e
        exact skip (fun z => e (by rw [z.2]))
  · refine ⟨⟨fun c a _ b => ?_, fun i hi => ?_⟩, ⟨?_, fun i hi => ?_, fun f _ z => (by cases z), fun i j _ hj => ?_, fun f _ z => (by cases z), fun f hf w hw => ?_⟩, fun f hf => ⟨fun z => (by cases z), fun ⟨_, a', h, _⟩ => absurd h (Nat.not_lt_zero a')⟩⟩
    · dsimp only; rw [up_nc _ _ _ _ a, fil_nc _ _ _ _ _ b]
    · dsimp only; rw [up_ni _ _ _ _ hi, fil_nc _ _ _ _ _ (by decide)]
    · dsimp only; rw [up_eq]; rfl
    · exact absurd hi (by rw [show cnt (fun _ => false) 64 = 0 from cnt_zero (fun _ _ => rfl)]; exact Nat.not_lt_zero i)
    · exact absurd hj (by rw [show cnt (fun _ => false) 64 = 0 from cnt_zero (fun _ _ => rfl)]; exact Nat.not_lt_zero j)
    · dsimp only
      rw [up_nc _ _ _ _ (by decide), fil_at, if_pos (by omega)]
      exact ld_cong ld_0 (fun k _ => ⟨fun z => z.elim, fun z => by cases z.1⟩)
end S95
