/-! rings: a symbol comes to itself by rows of one symbol -/
def edg (D : Nat → Nat) (u v : Nat) : Prop := ∃ r, r < D 0 ∧ gsz D r = 1 ∧ gsg D r 0 < 8 ∧ gsy D r = u ∧ gsg D r 0 = v
def pok (D : Nat → Nat) (pos : Nat → Nat) : Prop := (∀ s, pos s < 8) ∧ ∀ r, r < D 0 → gsz D r = 1 → gsg D r 0 < 8 → pos (gsg D r 0) < pos (gsy D r)
def nrg (D : Nat → Nat) : Prop := ∃ pos, pok D pos
def clo (D : Nat → Nat) (s : Nat) (X : Nat → Prop) : Prop := ∀ u v, edg D u v → u = s ∨ X u → X v
/-- met, and yet to be gone on from -/
def rgI (D : Nat → Nat) (s : Nat) (met more : Nat → Prop) : Prop := (∀ X, clo D s X → ∀ v, met v → X v) ∧ (∀ X, clo D s X → ∀ v, more v → v = s ∨ X v) ∧ (∀ u v, edg D u v → u = s ∨ met u → more u ∨ met v) ∧ ¬ met s ∧ (∀ v, met v → v < 8) ∧ (∀ v, more v → v < 8) ∧ ∀ pos, pok D pos → ∀ v, more v → pos v ≤ pos s
def rgE (D : Nat → Nat) (s : Nat) (R : Nat → Prop) : Prop := clo D s R ∧ (∀ X, clo D s X → ∀ v, R v → X v) ∧ ¬ R s ∧ ∀ v, R v → v < 8
section Se3
variable {M : (Nat → Int → Int)} {d : Nat} {Q : Int → (Nat → Int → Int) → Prop} {D : Nat → Nat} {s : Nat} {met more : Nat → Prop}
theorem pok_e {pos : Nat → Nat} (h : pok D pos) {u v : Nat} (e : edg D u v) : pos v < pos u := by
  obtain ⟨r, h1, h2, h3, h4, h5⟩ := e
  have := h.2 r h1 h2 h3
  rw [h4, h5] at this; exact this
theorem edg_8 {u v : Nat} (e : edg D u v) : v < 8 := by
  obtain ⟨r, h1, h2, h3, h4, h5⟩ := e
  omega
theorem rgI_0 (hs : s < 8) : rgI D s (fun _ => False) (fun v => v = s) :=
  ⟨fun _ _ _ z => z.elim, fun _ _ _ z => Or.inl z, fun u v _ z => Or.inl (z.elim id (fun q => q.elim)), id, fun _ z => z.elim, fun v z => by omega, fun pos _ v z => by rw [z]; exact Nat.le_refl _⟩
theorem rgI_no (h : rgI D s met more) {u : Nat} (hu : more u) (e : edg D u s) : ¬ nrg D := by
  rintro ⟨pos, hp⟩
  have h1 := h.2.2.2.2.2.2 pos hp u hu
  have h2 := pok_e hp e
  omega
theorem rgI_s (h : rgI D s met more) (hn : ¬ ∃ u, more u ∧ edg D u s) : rgI D s (fun v => met v ∨ ∃ u, more u ∧ edg D u v) (fun v => (∃ u, more u ∧ edg D u v) ∧ ¬ met v) := by
  obtain ⟨h1, h2, h3, h4, h5, h6, h7⟩ := h
  have hx : ∀ X, clo D s X → ∀ v, (∃ u, more u ∧ edg D u v) → X v := fun X hX v ⟨u, a, b⟩ => hX u v b (h2 X hX u a)
  refine ⟨fun X hX v z => z.elim (h1 X hX v) (hx X hX v), fun X hX v z => Or.inr (hx X hX v z.1), fun u v e z => ?_, fun z => z.elim h4 hn, fun v z => z.elim (h5 v) (fun ⟨u, _, b⟩ => edg_8 b), fun v ⟨⟨u, _, b⟩, _⟩ => edg_8 b, fun pos hp v ⟨⟨u, a, b⟩, _⟩ => ?_⟩
  · by_cases q : u = s ∨ met u
    · rcases h3 u v e q with k | k
      · exact Or.inr (Or.inr ⟨u, k, e⟩)
      · exact Or.inr (Or.inl k)
    · refine Or.inl ⟨?_, fun k => q (Or.inr k)⟩
      rcases z with z | z | z
      · exact absurd (Or.inl z) q
      · exact absurd (Or.inr z) q
      · exact z
  · have k1 := h7 pos hp u a
    have k2 := pok_e hp b
    omega
theorem rgI_e (h : rgI D s met more) (hm : ∀ v, ¬ more v) : rgE D s met :=
  ⟨fun u v e z => (h.2.2.1 u v e z).elim (fun q => absurd q (hm u)) id, h.1, h.2.2.2.1, h.2.2.2.2.1⟩
theorem rgE_all (hU : rdU D) {R : Nat → Nat → Prop} (h : ∀ s, s < 8 → rgE D s (R s)) : nrg D := by
  refine ⟨fun s => if s < 8 then cnt (dc (R s)) 8 else 0, fun s => ?_, fun r hr hz hg => ?_⟩
  · by_cases q : s < 8
    · dsimp only
      rw [if_pos q]
      have := cnt_lt (p := dc (R s)) (q := fun _ => true) (n := 8) (t := s) (fun _ _ _ => rfl) q rfl (dc_f (h s q).2.2.1)
      have := cnt_le (p := fun _ => true) 8
      omega
    · dsimp only
      rw [if_neg q]; omega
  · have hy := (hU.2 r hr).1
    dsimp only
    rw [if_pos hg, if_pos hy]
    have e : edg D (gsy D r) (gsg D r 0) := ⟨r, hr, hz, hg, rfl, rfl⟩
    have hR := (h _ hy).1 _ _ e (Or.inl rfl)
    have hsub := (h _ hg).2.1 (R (gsy D r)) (fun u v e z => (h _ hy).1 u v e (Or.inr (z.elim (fun q => by rw [q]; exact hR) id)))
    have := cnt_lt (p := dc (R (gsg D r 0))) (q := dc (R (gsy D r))) (n := 8) (t := gsg D r 0) (fun k _ z => dc_iff.mpr (hsub k (dc_iff.mp z))) hg (dc_iff.mpr hR) (dc_f (h _ hg).2.2.1)
    omega
/-- the next ones -/
theorem m_ring1 {w o t : Nat} (h : rdr w o t D M) (hU : rdU D) {a b c : Int} (hc : bs c more) (hQ : ∀ e, bs e (fun v => ∃ u, more u ∧ edg D u v) → am_s am_P am_gg (d + 1) 226 [.inl e, .inl a] M (fun r2 M2 => (if r2 = 0 then am_x am_P am_gg (d + 1) am_k252 4 Q 14 [some (.inr (.inr 174)), some (.inl a), some (.inl (i_or b e)), some (.inl (i_and e (i_xor b (-1)))), none, none, none] [] M2 0 0 else Q 1 M2))) : am_x am_P am_gg (d + 1) am_k252 4 Q 24 [some (.inr (.inr 174)), some (.inl a), some (.inl b), some (.inl c), some (.inl (0)), some (.inl (0)), none] [] M 0 0 := by
  obtain ⟨a1, a2, a3, a4⟩ := h
  have hn := hU.1
  have e0 : M 174 1035 = (D 0 : Int) := a4.off (k := 0) (by omega) rfl
  clear a1 a2 a3
  refine p_for (S := Int) (X := fun f e => am_x am_P am_gg (d + 1) am_k252 4 Q 24 [some (.inr (.inr 174)), some (.inl a), some (.inl b), some (.inl c), some (.inl e), some (.inl f), none] [] M 0 0) (D 0) (fun f e => bs e (fun v => ∃ r, r < f ∧ gsz D r = 1 ∧ gsg D r 0 < 8 ∧ more (gsy D r) ∧ gsg D r 0 = v)) ?_ ?_ 0 0 (Nat.zero_le _) (bs_cong bs_0 (fun j => ⟨fun z => z.elim, fun ⟨r, hr, _⟩ => absurd hr (Nat.not_lt_zero r)⟩))
  · intro e he
    refine (h_252_24_174 _ _ _ _ _ _ _ _).mpr ?_
    rw [e0, if_neg (Int.lt_irrefl _)]
    refine am_s_mono (Nat.le_refl _) (hQ e (bs_cong he (fun v => ⟨fun ⟨r, h1, h2, h3, h4, h5⟩ => ⟨gsy D r, h4, r, h1, h2, h3, rfl, h5⟩, fun ⟨u, g, r, h1, h2, h3, h4, h5⟩ => ⟨r, h1, h2, h3, by rw [h4]; exact g, h5⟩⟩))) (fun r2 M2 q => ?_)
    by_cases z : r2 = 0
    · rw [if_pos z] at q ⊢
      refine am_x_le [some (.inr (.inr 174)), some (.inl a), some (.inl (i_or b e)), some (.inl (i_and e (i_xor b (-1)))), none, none, none] (am_lb_le _ _ ⟨rfl, rfl, rfl, rfl, trivial⟩) ?_
      exact q
    · rw [if_neg z] at q ⊢; exact q
  · intro r e hr he go
    have hr16 : r < 16 := by omega
    obtain ⟨u1, u2, u3, u4, u5⟩ := hU.2 r hr
    have g0 : gsg D r 0 < 32 := by have := u5 0 u2; omega
    have vg : M 174 ((1035 + (51 + 4 * r + 0) : Nat) : Int) = (gsg D r 0 : Int) := a4 (51 + 4 * r + 0) (by omega)
    have vy : M 174 ((1035 + (3 + r) : Nat) : Int) = (gsy D r : Int) := a4 (3 + r) (by omega)
    have vz : M 174 ((1035 + (19 + r) : Nat) : Int) = (gsz D r : Int) := a4 (19 + r) (by omega)
    clear u5 a4 hU hQ
    refine (h_252_24_174 _ _ _ _ _ _ _ _).mpr ?_
    rw [e0, if_pos (by omega), e2_g0 hr16, e2_y hr16, if_pos (by omega), if_pos (by omega), vg, vy, w32_s (by omega)]
    have skip : (¬ (gsz D r = 1 ∧ gsg D r 0 < 8 ∧ more (gsy D r))) → am_x am_P am_gg (d + 1) am_k252 4 Q 24 [some (.inr (.inr 174)), some (.inl a), some (.inl b), some (.inl c), some (.inl e), some (.inl (((r + 1 : Nat) : Int))), some (.inl ((gsg D r 0 : Int)))] [] M 0 0 := by
      intro z
      refine am_x_le [some (.inr (.inr 174)), some (.inl a), some (.inl b), some (.inl c), some (.inl e), some (.inl (((r + 1 : Nat) : Int))), none] (am_lb_le _ _ ⟨rfl, rfl, rfl, rfl, rfl, rfl, trivial⟩) ?_
      refine go e (bs_cong he (fun v => ⟨fun ⟨r', h1, h2⟩ => ⟨r', by omega, h2⟩, fun ⟨r', h1, h2, h3, h4, h5⟩ => ⟨r', ?_, h2, h3, h4, h5⟩⟩))
      by_cases q : r' = r
      · subst q; exact absurd ⟨h2, h3, h4⟩ z
      · omega
    refine m_bs hc (by omega) (fun q => ?_) (fun q => ?_)
    · rw [if_neg (by decide), e2_z hr16, if_pos (by omega), vz]
      by_cases q1 : gsz D r = 1
      · rw [if_pos (by omega)]
        by_cases q2 : gsg D r 0 < 8
        · rw [if_pos (by omega)]
          refine am_x_le [some (.inr (.inr 174)), some (.inl a), some (.inl b), some (.inl c), some (.inl (i_or e (i_shl 1 (gsg D r 0 : Int)))), some (.inl (((r + 1 : Nat) : Int))), none] (am_lb_le _ _ ⟨rfl, rfl, rfl, rfl, rfl, rfl, trivial⟩) ?_
          refine go _ (bs_cong (bs_add he (by omega)) (fun v => ⟨?_, ?_⟩))
          · rintro (⟨r', h1, h2⟩ | z)
            · exact ⟨r', by omega, h2⟩
            · exact ⟨r, by omega, q1, q2, q, z.symm⟩
          · rintro ⟨r', h1, h2, h3, h4, h5⟩
            by_cases qq : r' = r
            · subst qq; exact Or.inr h5.symm
            · exact Or.inl ⟨r', by omega, h2, h3, h4, h5⟩
        · rw [if_neg (by omega)]
          exact skip (fun z => q2 z.2.1)
      · rw [if_neg (by omega)]
        exact skip (fun z => q1 z.1)
    · rw [if_pos rfl]
      exact skip (fun z => q z.2.2)
/-- from one symbol on -/
theorem m_ring2 {w o t : Nat} (h : rdr w o t D M) (hU : rdU D) (hs : s < 8) (h1 : ¬ nrg D → Q 1 M) (h0 : (∃ R, rgE D s R) → am_x am_P am_gg (d + 1) am_k252 4 Q 2 [some (.inr (.inr 174)), some (.inl (((s + 1 : Nat) : Int))), none, none, none, none, none] [] M 0 0) : am_x am_P am_gg (d + 1) am_k252 4 Q 14 [some (.inr (.inr 174)), some (.inl ((s : Int))), some (.inl (0)), some (.inl (i_shl 1 (s : Int))), none, none, none] [] M 0 0 := by
  refine p_whi (S := Int × Int) (X := fun x => am_x am_P am_gg (d + 1) am_k252 4 Q 14 [some (.inr (.inr 174)), some (.inl ((s : Int))), some (.inl x.1), some (.inl x.2), none, none, none] [] M 0 0) (fun n x => ∃ met more, bs x.1 met ∧ bs x.2 more ∧ rgI D s met more ∧ n = 2 * (256 - x.1.toNat) + (if x.2 = 0 then 0 else 1)) ?_ _ (0, i_shl 1 (s : Int)) ⟨_, _, bs_0, bs_one (by omega), rgI_0 hs, rfl⟩
  rintro n ⟨b, c⟩ ⟨met, more, hb, hc, hI, hn⟩ go
  dsimp only at hb hc hn ⊢
  refine (h_252_14_174 _ _ _ _ _ _).mpr ?_
  have hb256 := bs_lt hb (n := 8) hI.2.2.2.2.1
  have hb0 := bs_rng hb
  have p256 : ((2 ^ 8 : Nat) : Int) = 256 := by decide
  by_cases z : c = 0
  · rw [if_pos z, w32_s (by omega)]
    refine am_x_le [some (.inr (.inr 174)), some (.inl (((s + 1 : Nat) : Int))), none, none, none, none, none] (am_lb_le _ _ ⟨rfl, rfl, trivial⟩) ?_
    exact h0 ⟨met, rgI_e hI ((bs_z hc).mp z)⟩
  · rw [if_neg z]
    refine m_ring1 h hU hc (fun e he => m_bs he (by omega) (fun q => ?_) (fun q => ?_))
    · rw [if_neg (by decide)]
      obtain ⟨u, q1, q2⟩ := q
      exact h1 (rgI_no hI q1 q2)
    · rw [if_pos rfl]
      have hI' := rgI_s hI q
      have hb' := bs_or hb he
      have hc' := bs_sub he hb
      have hl := bs_or_l hb he
      have hb256' := bs_lt hb' (n := 8) hI'.2.2.2.2.1
      refine go _ (i_or b e, i_and e (i_xor b (-1))) ?_ ⟨_, _, hb', hc', hI', rfl⟩
      dsimp only
      rw [if_neg z] at hn
      by_cases z' : i_and e (i_xor b (-1)) = 0
      · rw [if_pos z']; omega
      · rw [if_neg z']
        have hne : i_or b e ≠ b := by
          intro k
          refine z' ((bs_z hc').mpr (fun j hj => ?_))
          have e1 := bs_bit hb' (k := j) (by have := edg_8 hj.1.choose_spec.2; omega)
          have e2 := bs_bit hb (k := j) (by have := edg_8 hj.1.choose_spec.2; omega)
          have k1 := e1.1 (Or.inr hj.1)
          have k2 := e2.2 hj.2
          rw [k, k2] at k1; cases k1
        omega
theorem m_ring {w o t : Nat} (h : rdr w o t D M) (hU : rdU D) (h1 : ¬ nrg D → Q 1 M) (h0 : nrg D → Q 0 M) : am_s am_P am_gg (d + 2) 252 [.inr (.inr 174)] M Q := by
  refine (v_252_174 _ _ _).mpr ?_
  refine p_for (S := Unit) (X := fun a _ => am_x am_P am_gg (d + 1) am_k252 4 Q 2 [some (.inr (.inr 174)), some (.inl a), none, none, none, none, none] [] M 0 0) 8 (fun a _ => ∀ s, s < a → ∃ R, rgE D s R) ?_ ?_ 0 () (by decide) (fun s hs => absurd hs (Nat.not_lt_zero s))
  · intro _ hI
    refine (h_252_2_174 _ _ _ _).mpr ?_
    rw [if_neg (by decide)]
    exact h0 (rgE_all hU (R := fun s => if hs : s < 8 then (hI s hs).choose else fun _ => False) (fun s hs => by rw [dif_pos hs]; exact (hI s hs).choose_spec))
  · intro s _ hs hI go
    refine (h_252_2_174 _ _ _ _).mpr ?_
    rw [if_pos (by omega)]
    refine m_ring2 h hU hs h1 (fun hR => go () (fun s' hs' => ?_))
    by_cases q : s' = s
    · subst q; exact hR
    · exact hI s' (by omega)
end Se3
