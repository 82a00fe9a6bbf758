/-! load: the reference -/
/-- a text being read: what stands as it was -/
def ldF (M0 M : (Nat → Int → Int)) : Prop := (∀ c, c ≠ 173 → c ≠ 174 → M c = M0 c) ∧ (∀ i : Int, i = 1 ∨ i = 5 ∨ 11 ≤ i → M 173 i = M0 173 i) ∧ M 173 2 = 0 ∧ (∀ j : Int, j < 1035 → M 174 j = M0 174 j) ∧ ∃ D, rb (M 174) 1035 D
section Se7
variable {M M0 : (Nat → Int → Int)} {d : Nat} {Q : Int → (Nat → Int → Int) → Prop} {x : rd} {s : sS} {D : Nat → Nat}
theorem ldF_rr {M' : (Nat → Int → Int)} (h : ldF M0 M) (f : rrF M M') (hD : ∃ D, rb (M' 174) 1035 D) : ldF M0 M' := by
  obtain ⟨h1, h2, h3, h4, h5⟩ := h
  exact ⟨fun c a b => by rw [f.1 c a b]; exact h1 c a b, fun i hi => by rw [f.2.1 i (by omega)]; exact h2 i hi, by rw [f.2.1 2 (by decide)]; exact h3, fun j hj => by rw [f.2.2 j hj]; exact h4 j hj, hD⟩
theorem ldF_6 (h : ldF M0 M) {v : Int} : ldF M0 (am_up M 173 6 v) := by
  obtain ⟨h1, h2, h3, h4, h5⟩ := h
  refine ⟨fun c a b => by rw [up_nc _ _ _ _ a]; exact h1 c a b, fun i hi => by rw [up_ni _ _ _ _ (by omega)]; exact h2 i hi, by rw [up_ni _ _ _ _ (by decide)]; exact h3, fun j hj => by rw [up_nc _ _ _ _ (by decide)]; exact h4 j hj, ?_⟩
  rw [up_nc _ _ _ _ (by decide)]; exact h5
theorem rdr_6 {w o t : Nat} (h : rdr w o t D M) {v : Int} : rdr w o t D (am_up M 173 6 v) := by
  obtain ⟨a1, a2, a3, a4⟩ := h
  exact ⟨by rw [up_ni _ _ _ _ (by decide)]; exact a1, fun z => by rw [up_ni _ _ _ _ (by decide)]; exact a2 z, by rw [up_ni _ _ _ _ (by decide)]; exact a3, by rw [up_nc _ _ _ _ (by decide)]; exact a4⟩
/-- the end of it -/
theorem ldF_end (hS : rS s M0) (h : ldF M0 M) {M' : (Nat → Int → Int)} {st fk fa : Int} (i1 : am_i32 st) (i2 : am_i32 fk) (i3 : am_i32 fa) (e2 : M' 173 2 = st) (e6 : M' 173 6 = fk) (e7 : M' 173 7 = fa) (e5 : M' 173 5 = 0) (ei : ∀ i : Int, i = 1 ∨ 11 ≤ i → M' 173 i = M 173 i) (ec : ∀ c, c ≠ 173 → c ≠ 174 → M' c = M c) (e4 : ∀ j : Int, j < 1035 → M' 174 j = M 174 j) {D' : Nat → Nat} (eD : rb (M' 174) 1035 D') : rS (st, fk, fa, 0, s.tp, s.B, s.H) M' ∧ rA s (st, fk, fa, 0, s.tp, s.B, s.H) M0 M' := by
  obtain ⟨⟨w1, w2, w3, w4, w5, w6, w7, w8⟩, g2, g6, g7, g5, g75, hB, g1, hH, hD⟩ := hS
  obtain ⟨h1, h2, h3, h4, h5⟩ := h
  have f4 : ∀ j : Int, j < 1035 → M' 174 j = M0 174 j := fun j hj => by rw [e4 j hj, h4 j hj]
  refine ⟨⟨⟨i1, i2, i3, Nat.zero_le _, fun i hi => absurd hi (Nat.not_lt_zero i), w6, w7, w8⟩, e2, e6, e7, e5, fun i hi => absurd hi (Nat.not_lt_zero i), fun k hk => ?_, ?_, fun j hj k hk => ?_, fun k hk => ?_⟩, fun c a b _ => by rw [ec c a b, h1 c a b], fun i hi => by rw [ei i (by omega), h2 i (by omega)], Or.inr ⟨by rw [ei 11 (by omega), h2 11 (by omega)], rfl⟩⟩
  · rw [f4 _ (by omega)]; exact hB k hk
  · rw [ei 1 (by omega), h2 1 (by omega)]; exact g1
  · have hj : j < s.H.length := hj
    have w7 : s.H.length ≤ 8 := w7
    have q := hH j hj k hk
    show M' 174 ((115 * (s.H.length - j) + k : Nat) : Int) = _
    rw [f4 _ (by omega)]; exact q
  · rw [eD k hk]; omega
/-- refused -/
theorem r_flt (hS : rS s M0) (h : ldF M0 M) {y : Nat × Nat × rd} {n e : Nat} {p : Int} (he : ldE y = e) (e0 : e ≠ 0) (e9 : e ≤ 9) (hp : ldP n y = p) (hpi : am_i32 p) {M' : (Nat → Int → Int)} (e6 : M' 173 6 = (e : Int)) (ei : ∀ i : Int, i ≠ 6 → M' 173 i = M 173 i) (ec : ∀ c, c ≠ 173 → M' c = M c) (hQ : ∀ r M', rC s (ldS s n y).2 (ldS s n y).1 M0 r M' → Q r M') : am_s am_P am_gg (d + 1) 224 [.inr (.inr 174), .inl 7] (am_up (am_up M' 173 7 p) 173 5 0) (fun r M => Q r M) := by
  refine m_refuse (hQ _ _ ?_)
  obtain ⟨D, hD⟩ := h.2.2.2.2
  have hl : ldS s n y = (-1, (7, (e : Int), p, 0, s.tp, s.B, s.H)) := by unfold ldS; rw [he, hp, if_neg e0]
  rw [hl]
  refine ⟨rfl, ldF_end hS h (D' := D) (by unfold am_i32; omega) (am_i32_n (by omega)) hpi (up_eq _ _ _ _) ?_ ?_ ?_ (fun i hi => ?_) (fun c a b => ?_) (fun j hj => ?_) ?_⟩
  · rw [up_ni _ _ _ _ (by decide), up_ni _ _ _ _ (by decide), up_ni _ _ _ _ (by decide)]; exact e6
  · rw [up_ni _ _ _ _ (by decide), up_ni _ _ _ _ (by decide), up_eq]
  · rw [up_ni _ _ _ _ (by decide), up_eq]
  · rw [up_ni _ _ _ _ (by omega), up_ni _ _ _ _ (by omega), up_ni _ _ _ _ (by omega)]; exact ei i (by omega)
  · rw [up_nc _ _ _ _ a, up_nc _ _ _ _ a, up_nc _ _ _ _ a]; exact ec c a
  · rw [up_nc _ _ _ _ (by decide), up_nc _ _ _ _ (by decide), up_nc _ _ _ _ (by decide), ec 174 (by decide)]
  · rw [up_nc _ _ _ _ (by decide), up_nc _ _ _ _ (by decide), up_nc _ _ _ _ (by decide), ec 174 (by decide)]; exact hD
/-- taken -/
theorem r_tkn (hS : rS s M0) (h : ldF M0 M) {y : Nat × Nat × rd} {n : Nat} (he : ldE y = 0) (hG : ldG y.2.2) (hr : rb (M 174) 1035 y.2.2.2.2.2) (e6 : M 173 6 = 0) (hQ : ∀ r M', rC s (ldS s n y).2 (ldS s n y).1 M0 r M' → Q r M') : am_s am_P am_gg (d + 2) 237 [.inr (.inr 174)] (am_up (am_up (am_up M 173 7 (-1)) 173 5 0) 174 1036 (w32 ((i_shl 1 (M 174 1035)) - 1))) (fun _ M7 => am_s am_P am_gg (d + 2) 236 [.inr (.inr 174), .inl 1035, .inl 0] M7 (fun _ M8 => am_s am_P am_gg (d + 2) 228 [.inr (.inr 174)] M8 (fun r9 M9 => Q r9 M9))) := by
  have hl : ldS s n y = ((y.2.2.2.2.2 0 : Int), sp_keep (0, 0, -1, 0, s.tp, s.B, s.H) (ldB y.2.2.2.2.2)) := by unfold ldS; rw [if_pos he]
  rw [hl] at hQ
  have hW := ldB_W hG
  have hn : y.2.2.2.2.2 0 ≤ 16 := hG.1.2.1.1
  generalize y.2.2.2.2.2 = D at hQ hW hr hn
  clear hl hG he
  have v0 : M 174 1035 = (D 0 : Int) := hr.off (k := 0) (by omega) rfl
  have p0 := Nat.pow_pos (n := D 0) (show 0 < 2 by decide)
  have p1 : 2 ^ D 0 ≤ 2 ^ 16 := Nat.pow_le_pow_right (by decide) hn
  have ev : w32 (i_shl 1 (M 174 1035) - 1) = ((2 ^ D 0 - 1 : Nat) : Int) := by
    rw [v0, i_shl_one (by omega), w32_i (by omega) (by omega)]; omega
  rw [ev]
  have hB1 : rb (am_up (am_up (am_up M 173 7 (-1)) 173 5 0) 174 1036 ((2 ^ D 0 - 1 : Nat) : Int) 174) 1035 (ldB D) :=
    rb_up (k := 1) (by rw [up_nc _ _ _ _ (by decide), up_nc _ _ _ _ (by decide)]; exact hr) (by decide) rfl rfl
  have hE := ldF_end hS h (M' := am_up (am_up (am_up M 173 7 (-1)) 173 5 0) 174 1036 ((2 ^ D 0 - 1 : Nat) : Int)) (st := 0) (fk := 0) (fa := -1) (D' := ldB D) (by unfold am_i32; omega) (by unfold am_i32; omega) (by unfold am_i32; omega) (by rw [up_nc _ _ _ _ (by decide), up_ni _ _ _ _ (by decide), up_ni _ _ _ _ (by decide)]; exact h.2.2.1) (by rw [up_nc _ _ _ _ (by decide), up_ni _ _ _ _ (by decide), up_ni _ _ _ _ (by decide)]; exact e6) (by rw [up_nc _ _ _ _ (by decide), up_ni _ _ _ _ (by decide), up_eq]) (by rw [up_nc _ _ _ _ (by decide), up_eq]) (fun i hi => by rw [up_nc _ _ _ _ (by decide), up_ni _ _ _ _ (by omega), up_ni _ _ _ _ (by omega)]) (fun c a b => by rw [up_nc _ _ _ _ b, up_nc _ _ _ _ a, up_nc _ _ _ _ a]) (fun j hj => by rw [up_ni _ _ _ _ (by omega), up_nc _ _ _ _ (by decide), up_nc _ _ _ _ (by decide)]) hB1
  generalize am_up (am_up (am_up M 173 7 (-1)) 173 5 0) 174 1036 ((2 ^ D 0 - 1 : Nat) : Int) = M5 at hB1 hE
  obtain ⟨hS5, hA5⟩ := hE
  refine m_keeps hS5 (fun M7 b1 b2 b3 b4 b5 b6 b7 => ?_)
  have hB7 : rb (M7 174) 1035 (ldB D) := fun k hk => by rw [b7 _ (by omega) (by omega)]; exact hB1 k hk
  refine m_copy (o1 := 1035) (o2 := 0) (by decide) (by decide) (by decide) ?_
  have hB8 : rb (am_cpy M7 174 174 ((1035 : Nat) : Int) ((0 : Nat) : Int) 115 174) 0 (ldB D) := rb_cpy_to (fun j => cpy_174 _ _ _ _) hB7
  refine m_rules hB8 (hQ _ _ ?_)
  have hC := rC_keep hS5 (x := (ldB D 0 : Int)) hW (M1 := M7) (M' := am_cpy M7 174 174 ((1035 : Nat) : Int) ((0 : Nat) : Int) 115) hB8 b2 b3 (fun i i1 _ _ i4 => b4 i i1 i4) (by rw [b4 2 (by decide) (by decide)]; exact hS5.2.1) b5 b6 b7 (fun c hc => cpy_nc _ _ _ _ _ _ hc) (fun j hj => by rw [cpy_174, if_neg (by omega)])
  refine ⟨?_, hC.2.1, rA_tr hA5 hC.2.2⟩
  unfold ldB; rw [gU_ne (by decide)]
theorem r_readL {n : Nat} {y : Nat × Nat × rd} (hS : rS s M0) (hn : n ≤ s.tn) (hQ : ∀ r M', rC s (ldS s n y).2 (ldS s n y).1 M0 r M' → Q r M') : ∀ m i x M, i + m = n → rdL s.tp m x i = y → rdr x.1 x.2.1 x.2.2.1 x.2.2.2 M → rdW x → M 173 6 = 0 → ldF M0 M → am_x am_P am_gg (d + 5) am_k253 1 Q 54 [some (.inr (.inr 174)), some (.inl ((n : Int))), some (.inl ((i : Int)))] [] M 0 0 := by
  have hn400 : n ≤ 400 := Nat.le_trans hn hS.1.2.2.2.1
  intro m
  induction m with
  | zero =>
    intro i x M hi hy hx hW h6 hF
    have : i = n := by omega
    subst this
    have hy : (0, i, x) = y := hy
    subst hy
    have pi : am_i32 (i : Int) := am_i32_n (by omega)
    refine (h_253_54_174 _ _ _ _ _).mpr ?_
    rw [if_neg (Int.lt_irrefl _), if_pos h6]
    have flt : ∀ e : Nat, rdE x = e → e ≠ 0 → e ≤ 9 → am_s am_P am_gg (d + 5) 224 [.inr (.inr 174), .inl 7] (am_up (am_up (am_up M 173 6 (e : Int)) 173 7 (i : Int)) 173 5 0) (fun r M => Q r M) := fun e k1 k2 k3 =>
      r_flt hS hF (e := e) (p := (i : Int)) (by rw [ldE_e]; exact k1) k2 k3 (ldP_e (by rw [k1]; exact k2)) pi (up_eq _ _ _ _) (fun j hj => up_ni _ _ _ _ hj _) (fun c hc => up_nc _ _ _ _ hc) hQ
    by_cases w0 : x.1 = 0
    · have z8 : M 173 8 = 0 := by rw [hx.1, w0]; rfl
      rw [if_pos z8]
      by_cases t0 : x.2.2.1 = 0
      · have z10 : M 173 10 = 0 := by rw [hx.2.2.1, t0]; rfl
        rw [if_pos z10]
        exact flt 2 (rdE_2 (Or.inr t0)) (by decide) (by decide)
      · have z10 : ¬ M 173 10 = 0 := by rw [hx.2.2.1]; omega
        rw [if_neg z10, if_pos h6]
        refine m_allTold hx hW.2.1 hW.2.2.1 (fun g3 => ?_) (fun g3 => ?_)
        · rw [if_neg (by decide), if_pos h6]
          refine m_ring hx hW.2.1 (fun g4 => ?_) (fun g4 => ?_)
          · rw [if_neg (by decide)]
            exact flt 7 (rdE_7 w0 t0 g3 g4) (by decide) (by decide)
          · rw [if_pos rfl, if_pos h6, if_neg (by omega)]
            exact r_tkn (d := d + 3) hS hF (y := (0, i, x)) (by rw [ldE_e]; exact rdE_0 w0 t0 g3 g4) ⟨hW, w0, t0, g4⟩ hx.2.2.2 h6 hQ
        · rw [if_pos rfl]
          exact flt 6 (rdE_6 w0 t0 g3) (by decide) (by decide)
    · have z8 : ¬ M 173 8 = 0 := by rw [hx.1]; omega
      rw [if_neg z8]
      exact flt 2 (rdE_2 (Or.inl w0)) (by decide) (by decide)
  | succ m ih =>
    intro i x M hi hy hx hW h6 hF
    have hin : i < n := by omega
    refine (h_253_54_174 _ _ _ _ _).mpr ?_
    rw [if_pos (by omega), if_pos h6, if_pos (by omega), hF.1 175 (by decide) (by decide), hS.2.2.2.2.2.1 i (by omega), w32_s (by omega)]
    refine am_s_mono (Nat.le_refl _) (m_takes hx hW (hS.1.2.2.2.2.1 i (by omega))) (fun r1 M1 q => ?_)
    obtain ⟨q1, q2, q3, q4⟩ := q
    have hF1 : ldF M0 (am_up M1 173 6 r1) := ldF_6 (ldF_rr hF q3 q4)
    by_cases z : (rdT x (s.tp i)).1 = 0
    · have r0 : r1 = 0 := by rw [q1, z]; rfl
      rw [if_pos r0]
      refine ih (i + 1) (rdT x (s.tp i)).2 _ (by omega) ?_ (rdr_6 (q2 z)) (rdW_T hW _ z) (by rw [up_eq]; exact r0) hF1
      rw [← hy]; show _ = (if (rdT x (s.tp i)).1 = 0 then _ else _); rw [if_pos z]
    · have r0 : ¬ r1 = 0 := by rw [q1]; omega
      have hy : ((rdT x (s.tp i)).1, i, x) = y := by rw [← hy]; show _ = (if (rdT x (s.tp i)).1 = 0 then _ else _); rw [if_neg z]
      subst hy
      rw [if_neg r0]
      have e0 : w32 ((i : Int) + 0) = (i : Int) := by rw [Int.add_zero, w32_i (by omega) (by omega)]
      rw [e0]
      have v6 : am_up M1 173 6 r1 173 6 = r1 := up_eq _ _ _ _
      have v6' : ¬ am_up M1 173 6 r1 173 6 = 0 := by rw [v6]; exact r0
      have v6p : 0 < am_up M1 173 6 r1 173 6 := by rw [v6, q1]; omega
      have t5 := rdT_5 x (s.tp i)
      have fin := r_flt (d := d + 4) (Q := Q) hS hF1 (y := ((rdT x (s.tp i)).1, i, x)) (n := n) (ldE_b z) z (by show (rdT x (s.tp i)).1 ≤ 9; omega) (ldP_b z) (am_i32_n (show i < 2147483648 by omega)) (M' := am_up M1 173 6 r1) (by rw [v6]; exact q1) (fun _ _ => rfl) (fun _ _ => rfl) hQ
      generalize am_up M1 173 6 r1 = M2 at v6' v6p fin ⊢
      refine (h_253_54_174 _ _ _ _ _).mpr ?_
      rw [if_pos (by omega), if_neg v6', if_neg v6', if_neg v6', if_neg v6', if_neg v6', if_pos v6p]
      exact fin
theorem r_load (h : rS s M) (hD0 : D 0 = 0) (hD : ∀ k : Nat, 0 < k → k < 115 → M 174 ((1035 + k : Nat) : Int) = (D k : Int)) (a : Int) : am_s am_P am_gg (d + 6) 253 [.inr (.inr 174), .inl a] M (rC s (sp_load s D a).2 (sp_load s D a).1 M) := by
  have u := up23 M 0 0
  have g5 : M 173 5 = (s.tn : Int) := h.2.2.2.2.1
  refine (v_253_174 _ _ _ _).mpr ?_
  rw [g5]
  unfold sp_load
  refine m_isIn (fun q => ?_) (fun q => ?_)
  · rw [if_neg (by decide), if_pos q]
    obtain ⟨n, rfl⟩ : ∃ n : Nat, a = (n : Int) := ⟨a.toNat, by omega⟩
    rw [show (n : Int).toNat = n from rfl]
    have hB : rb (am_up (am_up (am_up (am_up (am_up (am_up M 173 3 0) 173 2 0) 173 8 0) 173 10 0) 174 1035 0) 173 6 0 174) 1035 D := by
      intro k hk
      rw [up_nc _ _ _ _ (by decide), up_ci]
      by_cases q : k = 0
      · subst q; rw [if_pos (by omega), hD0]; rfl
      · rw [if_neg (by omega), up_nc _ _ _ _ (by decide), up_nc _ _ _ _ (by decide), up_nc _ _ _ _ (by decide), up_nc _ _ _ _ (by decide)]
        exact hD k (by omega) hk
    refine r_readL h (by omega) (fun r M' q => q) n 0 (0, 0, 0, D) _ (by omega) rfl ⟨?_, fun z => absurd rfl z, ?_, hB⟩ (rdW_0 hD0) (up_eq _ _ _ _) ⟨fun c a b => ?_, fun i hi => ?_, ?_, fun j hj => ?_, D, hB⟩
    · rw [up_ni _ _ _ _ (by decide), up_nc _ _ _ _ (by decide), up_ni _ _ _ _ (by decide), up_eq]; rfl
    · rw [up_ni _ _ _ _ (by decide), up_nc _ _ _ _ (by decide), up_eq]; rfl
    · rw [up_nc _ _ _ _ a, up_nc _ _ _ _ b, up_nc _ _ _ _ a, up_nc _ _ _ _ a, up_nc _ _ _ _ a, up_nc _ _ _ _ a]
    · rw [up_ni _ _ _ _ (by omega), up_nc _ _ _ _ (by decide), up_ni _ _ _ _ (by omega), up_ni _ _ _ _ (by omega), up_ni _ _ _ _ (by omega), up_ni _ _ _ _ (by omega)]
    · rw [up_ni _ _ _ _ (by decide), up_nc _ _ _ _ (by decide), up_ni _ _ _ _ (by decide), up_ni _ _ _ _ (by decide), up_eq]
    · rw [up_nc _ _ _ _ (by decide), up_ni _ _ _ _ (by omega), up_nc _ _ _ _ (by decide), up_nc _ _ _ _ (by decide), up_nc _ _ _ _ (by decide), up_nc _ _ _ _ (by decide)]
  · rw [if_pos rfl, if_neg q]
    have u2 := up232 M 0 0 1
    exact m_refuse (rC_st h (by unfold am_i32; omega) (up_eq _ _ _ _) u2.1 u2.2)
end Se7
