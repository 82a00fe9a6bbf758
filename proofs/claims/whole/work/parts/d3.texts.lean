/-! texts: both -/
def ltO (s : sS) (n : Nat) : Prop := ∀ j, j < n → 97 ≤ s.tp j ∧ s.tp j ≤ 112
def tx (s : sS) (n : Nat) : Nat → Nat := cn s.tp n
def xT (k : Nat) (st : Int) (s : sS) (M : (Nat → Int → Int)) : Prop := xS k s M ∧ k1 s.B M ∧ k2 s.B M ∧ k3 s.B M ∧ k4 s.B M ∧ k5 s.B M ∧ (M 108 2 ≤ M 2 0 ∧ cgI s.B st M) ∧ k7 s.B M
section Sd3
variable {s s' : sS} {B B' : Nat → Nat} {k k' d n : Nat} {st st' : Int} {M M' M0 : (Nat → Int → Int)} {Q : Int → (Nat → Int → Int) → Prop} {l : List Nat}
theorem xT_J (h : xT k st s M) (hs : st ≤ ((6100 * (k + 1) : Nat) : Int)) : xJ (k + 1) s M := ⟨xS_mono h.1 (by omega), h.2.1, h.2.2.1, h.2.2.2.1, h.2.2.2.2.1, h.2.2.2.2.2.1, ⟨h.2.2.2.2.2.2.1.1, cgI_st h.2.2.2.2.2.2.1.2 hs⟩, h.2.2.2.2.2.2.2⟩
theorem xT_ct (h : xT k st s M) (f : ctF M M') {y : Nat → Nat} {m : Nat} (hc : ccI s.B y m st' M') : xT k st' s M' := by
  obtain ⟨h0, a1, a2, a3, a4, a5, a6, a7⟩ := h
  have e2 : M' 2 0 = M 2 0 := by rw [f 2 (by omega)]
  exact ⟨xS_c h0 (fun c hc => f c (by omega)), k1_M a1 e2 (fun c a b => f c (by omega)), k2_M a2 e2 (fun c a b => f c (by omega)), k3_M a3 e2 (fun c a b => f c (by omega)), k4_M a4 e2 (by rw [f 81 (by omega)]) (fun c a b => f c (by omega)), k5_M a5 e2 (fun c a b => f c (by omega)), ⟨by rw [hc.2.2.1.1]; exact Int.le_refl _, ccI_g hc⟩, k7_M a7 e2 (fun c a b => f c (by omega))⟩
theorem ctF_hi (h : ctF M M') : hiF M M' := fun c hc => h c (by omega)
theorem tx_ok (hl : ltO s n) {j : Nat} (hj : j < n) : tx s n j = s.tp j - 97 ∧ tx s n j < 16 := by
  have := hl j hj
  unfold tx cn
  rw [if_pos hj]; omega
def txK (s : sS) (a : Int) : Prop := 1 ≤ a ∧ a ≤ 16 ∧ a ≤ s.tn
theorem xj_canText (h : xS k s M) {a : Int} (h1 : txK s a → Q 1 M) (h0 : ¬ txK s a → Q 0 M) : am_s am_P am_gg (d + 1) 217 [.inr (.inr 1), .inl a] M Q := by
  refine (v_217_1 _ _ _ _).mpr ?_
  rw [show M 0 1 = (s.tn : Int) from h.2.1]
  unfold txK at h1 h0
  refine @p_if _ _ _ _ ?_ ?_
  · intro e; exact h0 (by omega)
  intro e
  refine @p_if _ _ _ _ ?_ ?_
  · intro e2; exact h0 (by omega)
  intro e2
  refine @p_if _ _ _ _ ?_ ?_
  · intro e3; exact h0 (by omega)
  · intro e3; exact h1 (by omega)
theorem xj_noText (h : xS k s M) {a : Int} (h1 : ¬ txK s a → Q 1 M) (h4 : txK s a → ¬ ltO s a.toNat → Q 4 M) (h0 : txK s a → ltO s a.toNat → Q 0 M) : am_s am_P am_gg (d + 2) 218 [.inr (.inr 1), .inl a] M Q := by
  refine (v_218_1 _ _ _ _).mpr (xj_canText h (fun hk => ?_) (fun hk => ?_))
  · rw [if_neg (by decide)]
    have hk' := hk
    unfold txK at hk'
    obtain ⟨n, rfl⟩ := p_nat (show 0 ≤ a by omega)
    have htn := h.1.2.2.2.1
    refine p_for (S := Unit) (X := fun b _ => am_x am_P am_gg (d + 1) am_k218 1 Q 12 [some (.inr (.inr 1)), some (.inl ((n : Int))), some (.inl (b))] [] M 0 0) n (fun b _ => ∀ j, j < b → 97 ≤ s.tp j ∧ s.tp j ≤ 112) ?_ ?_ 0 () (by omega) (fun j hj => absurd hj (Nat.not_lt_zero j))
    · intro _ hI
      refine (h_218_12_1 _ _ _ _ _).mpr ?_
      rw [if_neg (by omega)]; exact h0 hk hI
    · intro b _ hb hI go
      refine (h_218_12_1 _ _ _ _ _).mpr ?_
      have e1 : M 1 (b : Int) = (s.tp b : Int) := h.2.2.2.2.2.1 b (by omega)
      rw [if_pos (by omega), if_pos (by omega), e1]
      refine @p_if _ _ _ _ ?_ ?_
      · intro e; exact h4 hk (fun z => by have := z b hb; omega)
      intro e
      rw [if_pos (by omega)]
      refine @p_if _ _ _ _ ?_ ?_
      · intro e2; exact h4 hk (fun z => by have := z b hb; omega)
      · intro e2
        rw [w32_s (by omega)]
        refine go () (fun j hj => ?_)
        by_cases q : j = b
        · subst q; omega
        · exact hI j (by omega)
  · rw [if_pos rfl]; exact h1 hk
theorem xj_hold (h : xJ k s M) (hk : k < 512) (hK : txK s (n : Int)) (hl : ltO s n) (hQ : ∀ M', xT k ((6100 * k : Nat) + 1) s M' → hiF M M' → (∀ c, c < 16 → M' c = M c) → (∀ c, 120 < c → M' c = M c) → sOK s.B M' → ccI s.B (tx s n) n ((6100 * k : Nat) + 1) M' → Q 0 M') : am_s am_P am_gg (d + 5) 219 [.inr (.inr 1), .inl (n : Int)] M Q := by
  unfold txK at hK
  refine (v_219_1 _ _ _ _).mpr (xj_sets h (fun M1 h1 f1 o1 => ?_))
  have htp := h1.1.2.2.2.2.2.1
  refine x_holdC_2 (y := tx s n) (xJ_W h) (xJ_g h1) o1.2.2.2.1 (by omega) (by omega) (fun j hj => ?_) (by omega) h1.2.2.2.2.2.2.1.2 (fun M2 f2 c2 => ?_)
  · rw [htp j (by omega)]
    have := hl j hj
    have := tx_ok hl hj
    omega
  · exact hQ M2 (xT_ct (st := ((6100 * k : Nat) : Int)) h1 f2 c2) (hiF_tr (sF_hi f1) (ctF_hi f2)) (fun c hc => by rw [f2 c (by omega)]; exact f1 c (by omega)) (fun c hc => by rw [f2 c (by omega)]; exact f1 c (by omega)) (sOK_c o1 (fun c a b => f2 c (by omega))) c2
theorem xT_g (h : xT k st s M) : xgb s.B M 2 := h.1.2.2.2.2.2.2.1
/-- the class: no sentence -/
theorem xj_noSent (h : xJ k s M) (hk : k < 512) {a : Int} (h1 : ¬ txK s a → Q 1 M) (h4 : txK s a → ¬ ltO s a.toNat → Q 4 M) (h5 : txK s a → ltO s a.toNat → wT s.B (tx s a.toNat) (s.B 2) 0 a.toNat = 0 → ∀ M', xT k ((6100 * k : Nat) + 1) s M' → hiF M M' → Q 5 M') (h0 : txK s a → ltO s a.toNat → 0 < wT s.B (tx s a.toNat) (s.B 2) 0 a.toNat → ∀ M', xT k ((6100 * k : Nat) + 1) s M' → hiF M M' → (∀ c, c < 16 → M' c = M c) → (∀ c, 120 < c → M' c = M c) → sOK s.B M' → trO s.B (tx s a.toNat) a.toNat M' → Q 0 M') : am_s am_P am_gg (d + 6) 220 [.inr (.inr 1), .inl a] M Q := by
  refine (v_220_1 _ _ _ _).mpr (xj_noText h.1 (fun q => ?_) (fun q1 q2 => ?_) (fun q1 q2 => ?_))
  · rw [if_neg (by decide)]; exact h1 q
  · rw [if_neg (by decide)]; exact h4 q1 q2
  · rw [if_pos rfl]
    have q1' := q1
    unfold txK at q1'
    obtain ⟨n, rfl⟩ := p_nat (show 0 ≤ a by omega)
    refine xj_hold h hk q1 q2 (fun M1 g1 f1 f1' f1'' o1 c1 => ?_)
    refine x_isSentence (xJ_W h) (xT_g g1) c1.2.2.1 (fun hp => ?_) (fun hz => ?_)
    · rw [if_neg (by decide)]
      refine x_buildC (xJ_W h) (xT_g g1) o1.2.2.2.1 hp c1 (fun M2 f2 c2 t2 => ?_)
      exact h0 q1 q2 hp M2 (xT_ct g1 f2 c2) (hiF_tr f1 (ctF_hi f2)) (fun c hc => by rw [f2 c (by omega)]; exact f1' c hc) (fun c hc => by rw [f2 c (by omega)]; exact f1'' c hc) (sOK_c o1 (fun c a b => f2 c (by omega))) t2
    · rw [if_pos rfl]; exact h5 q1 q2 hz M1 g1 f1
/-- ends of calls, one call on -/
theorem eT_ans {R : Int → sS → Prop} {D : Nat} (hD : 1 ≤ D) (h : xJ (k + 1) s M) (hf : hiF M0 M) (v : Int) (hR : R v (s.S 0)) : am_s am_P am_gg D 205 [.inr (.inr 1), .inl v] M (fun r M2 => ∃ s', R r s' ∧ xJ (k + 1) s' M2 ∧ hiF M0 M2) := am_s_mono (d := 1) hD (xj_answer (d := 0) h v) (fun r M2 q => ⟨s.S 0, by rw [q.1]; exact hR, q.2.1, hiF_tr hf q.2.2⟩)
theorem eT_ref {R : Int → sS → Prop} {D : Nat} (hD : 1 ≤ D) (h : xJ (k + 1) s M) (hf : hiF M0 M) (n : Nat) (hn : n < 10) (hR : R (-1) (s.S (n : Int))) : am_s am_P am_gg D 204 [.inr (.inr 1), .inl (n : Int)] M (fun r M2 => ∃ s', R r s' ∧ xJ (k + 1) s' M2 ∧ hiF M0 M2) := am_s_mono (d := 1) hD (xj_refuse (d := 0) h (i32_s hn)) (fun r M2 q => ⟨s.S (n : Int), by rw [q.1]; exact hR, q.2.1, hiF_tr hf q.2.2⟩)
/-! the reference -/
theorem rJ_gen (h : rJ s M) (e : ∀ c, c < 192 → c ≠ 173 → c ≠ 186 → M' c = M c) (ei : ∀ i : Int, i ≠ 3 → i ≠ 29 → i ≠ 42 → i ≠ 44 → M' 173 i = M 173 i) (ht : tI s.B M → tI s.B M') : rJ s M' := by
  obtain ⟨⟨hw, g2, g6, g7, g5, g75, hB, g1, hH, hD⟩, h2⟩ := h
  refine ⟨⟨hw, by rw [ei 2 (by decide) (by decide) (by decide) (by decide)]; exact g2, by rw [ei 6 (by decide) (by decide) (by decide) (by decide)]; exact g6, by rw [ei 7 (by decide) (by decide) (by decide) (by decide)]; exact g7, by rw [ei 5 (by decide) (by decide) (by decide) (by decide)]; exact g5, by rw [e 175 (by omega) (by decide) (by decide)]; exact g75, by rw [e 174 (by omega) (by decide) (by decide)]; exact hB, by rw [ei 1 (by decide) (by decide) (by decide) (by decide)]; exact g1, by rw [e 174 (by omega) (by decide) (by decide)]; exact hH, by rw [e 174 (by omega) (by decide) (by decide)]; exact hD⟩, ?_⟩
  rw [ei 11 (by decide) (by decide) (by decide) (by decide)]
  rcases h2 with q | ⟨q1, q2, q3⟩
  · exact Or.inl q
  · refine Or.inr ⟨q1, ?_, ht q3⟩
    unfold rL yR xR pI bR cR at q2 ⊢
    rw [ei 12 (by decide) (by decide) (by decide) (by decide), ei 13 (by decide) (by decide) (by decide) (by decide), ei 14 (by decide) (by decide) (by decide) (by decide), ei 15 (by decide) (by decide) (by decide) (by decide), ei 34 (by decide) (by decide) (by decide) (by decide), ei 37 (by decide) (by decide) (by decide) (by decide)]
    rw [e 176 (by omega) (by decide) (by decide), e 177 (by omega) (by decide) (by decide), e 178 (by omega) (by decide) (by decide), e 179 (by omega) (by decide) (by decide), e 180 (by omega) (by decide) (by decide), e 181 (by omega) (by decide) (by decide), e 182 (by omega) (by decide) (by decide), e 183 (by omega) (by decide) (by decide), e 184 (by omega) (by decide) (by decide), e 185 (by omega) (by decide) (by decide), e 187 (by omega) (by decide) (by decide), e 188 (by omega) (by decide) (by decide), e 189 (by omega) (by decide) (by decide), e 190 (by omega) (by decide) (by decide), e 191 (by omega) (by decide) (by decide)]; exact q2
theorem m_forgetsW (hQ : ∀ M', (∀ c, c ≠ 196 → M' c = M c) → (∀ j : Nat, j < 2312 → M' 196 (j : Int) = -1) → Q 0 M') : am_s am_P am_gg (d + 1) 335 [.inr (.inr 174)] M Q := by
  refine (v_335_174 _ _ _).mpr ?_
  refine p_for (S := (Nat → Int → Int)) (X := fun b M => am_x am_P am_gg d am_k335 0 Q 2 [some (.inr (.inr 174)), some (.inl (b))] [] M 0 0) 2312 (fun b M1 => (∀ c, c ≠ 196 → M1 c = M c) ∧ ∀ j : Nat, j < b → M1 196 (j : Int) = -1) ?_ ?_ 0 M (by omega) ⟨fun _ _ => rfl, fun j hj => absurd hj (Nat.not_lt_zero j)⟩
  · rintro M1 ⟨h1, h2⟩
    refine (h_335_2_174 _ _ _ _).mpr ?_
    rw [if_neg (by omega)]; exact hQ M1 h1 h2
  · rintro b M1 hb ⟨h1, h2⟩ go
    refine (h_335_2_174 _ _ _ _).mpr ?_
    rw [if_pos (by omega), if_pos (by omega), w32_s (by omega)]
    refine go _ ⟨fun c hc => by rw [up_nc _ _ _ _ hc]; exact h1 c hc, fun j hj => ?_⟩
    rw [up_ci]
    by_cases q : j = b
    · rw [if_pos (by omega)]
    · rw [if_neg (by omega)]; exact h2 j (by omega)
theorem wI_new {x : Nat → Nat} {N : Nat} (hB : rb (M 174) 0 B) (h42 : M 173 42 = (N : Int)) (hN : N ≤ 16) (hx : ∀ j : Nat, j < N → M 195 (j : Int) = (x j : Int) ∧ x j < 16) (h196 : ∀ j : Nat, j < 2312 → M 196 (j : Int) = -1) : wI B x N M := ⟨hB, h42, hN, hx, fun s a n h1 h2 => Or.inl (h196 _ (by omega))⟩
theorem w8_let {v : Nat} (h : v < 256) : (97 ≤ w8 (v : Int) ∧ w8 (v : Int) ≤ 112 ↔ 97 ≤ v ∧ v ≤ 112) ∧ (97 ≤ v ∧ v ≤ 112 → w8 (v : Int) = (v : Int)) := by unfold w8; omega
theorem rj_asksText (h : rJ s M) {a : Int} (h1 : ¬ txK s a → ∀ M', rJ s M' → loF M M' → Q 1 M') (h4 : txK s a → ¬ ltO s a.toNat → ∀ M', rJ s M' → loF M M' → Q 4 M') (h0 : txK s a → ltO s a.toNat → ∀ M', rJ s M' → loF M M' → wI s.B (tx s a.toNat) a.toNat M' → Q 0 M') : am_s am_P am_gg (d + 4) 334 [.inr (.inr 174), .inl a] M Q := by
  have ht := rJ_t (v := 0) h
  have hts := ht.1
  have h256 := h.1.1.2.2.2.2.1
  refine (v_334_174 _ _ _ _).mpr (m_isIn (fun q => ?_) (fun q => ?_))
  · rw [if_neg (by decide), show am_up M 173 3 0 173 5 = (s.tn : Int) from hts.2.2.2.2.1]
    refine @p_if _ _ _ _ ?_ ?_
    · intro e; exact h1 (fun z => by unfold txK at z; omega) _ ht lo_up
    intro e
    have hK : txK s a := by unfold txK; omega
    obtain ⟨n, rfl⟩ := p_nat (show 0 ≤ a by omega)
    have e175 : ∀ j : Nat, j < n → am_up M 173 3 0 175 (j : Int) = w8 (s.tp j : Int) := fun j hj => hts.2.2.2.2.2.1 j (by omega)
    have htn := h.1.1.2.2.2.1
    have hlo : loF M (am_up M 173 3 0) := lo_up
    generalize am_up M 173 3 0 = M1 at *
    refine p_for (S := Unit) (X := fun b _ => am_x am_P am_gg (d + 3) am_k334 1 Q 27 [some (.inr (.inr 174)), some (.inl ((n : Int))), some (.inl (b))] [] M1 0 0) n (fun b _ => ∀ j, j < b → 97 ≤ s.tp j ∧ s.tp j ≤ 112) ?_ ?_ 0 () (by omega) (fun j hj => absurd hj (Nat.not_lt_zero j))
    · intro _ hI
      refine (h_334_27_174 _ _ _ _ _).mpr ?_
      rw [if_neg (by omega)]
      refine p_for (S := (Nat → Int → Int)) (X := fun b M => am_x am_P am_gg (d + 3) am_k334 1 Q 54 [some (.inr (.inr 174)), some (.inl ((n : Int))), some (.inl (b))] [] M 0 0) n (fun b M2 => (∀ c, c ≠ 195 → M2 c = M1 c) ∧ ∀ j : Nat, j < b → M2 195 (j : Int) = ((s.tp j - 97 : Nat) : Int)) ?_ ?_ 0 M1 (by omega) ⟨fun _ _ => rfl, fun j hj => absurd hj (Nat.not_lt_zero j)⟩
      · rintro M2 ⟨k1, k2⟩
        refine (h_334_54_174 _ _ _ _ _).mpr ?_
        rw [if_neg (by omega)]
        refine m_forgetsW (fun M3 k3 k4 => ?_)
        have fr : ∀ c, c ≠ 173 → c ≠ 195 → c ≠ 196 → M3 c = M1 c := fun c a1 a2 a3 => by rw [k3 c a3, up_nc _ _ _ _ a1]; exact k1 c a2
        have fi : ∀ i : Int, i ≠ 42 → M3 173 i = M1 173 i := fun i hi => by rw [k3 173 (by decide), up_ni _ _ _ _ hi, k1 173 (by decide)]
        have h3 : rJ s M3 := rJ_gen ht (fun c a1 a2 a3 => fr c a2 (by omega) (by omega)) (fun i _ _ a3 _ => fi i a3) (fun t => tI_M t (by rw [fr 174 (by decide) (by decide) (by decide)]; exact t.1) (fr 193 (by decide) (by decide) (by decide)) (fr 194 (by decide) (by decide) (by decide)))
        refine h0 hK hI M3 h3 (fun c hc => by rw [fr c (by omega) (by omega) (by omega)]; exact hlo c hc) (wI_new (rb_of h3) (by rw [k3 173 (by decide), up_eq]; rfl) (by show n ≤ 16; omega) (fun j hj => ?_) k4)
        have hj : j < n := hj
        rw [k3 195 (by decide), up_nc _ _ _ _ (by decide), k2 j hj]
        have := tx_ok (s := s) hI hj
        exact ⟨by rw [← this.1]; rfl, this.2⟩
      · rintro b M2 hb ⟨k1, k2⟩ go
        refine (h_334_54_174 _ _ _ _ _).mpr ?_
        have hbb := hI b hb
        rw [if_pos (by omega), if_pos (by omega), if_pos (by omega), k1 175 (by decide), e175 b hb, (w8_let (by omega)).2 hbb, w32_s (by omega), show w32 ((s.tp b : Int) - 97) = ((s.tp b - 97 : Nat) : Int) by rw [w32_i (by omega) (by omega)]; omega]
        refine go _ ⟨fun c hc => by rw [up_nc _ _ _ _ hc]; exact k1 c hc, fun j hj => ?_⟩
        rw [up_ci]
        by_cases q : j = b
        · rw [if_pos (by omega), q]
        · rw [if_neg (by omega)]; exact k2 j (by omega)
    · intro b _ hb hI go
      refine (h_334_27_174 _ _ _ _ _).mpr ?_
      have hv := (w8_let (h256 b (by omega))).1
      rw [if_pos (by omega), if_pos (by omega), e175 b hb]
      refine (v_242 _ _ _ _).mpr (m_isIn (fun w => ?_) (fun w => ?_))
      · rw [if_pos (by omega), if_neg (by decide), w32_s (by omega)]
        refine go () (fun j hj => ?_)
        by_cases q : j = b
        · subst q; exact hv.mp w
        · exact hI j (by omega)
      · rw [if_pos (by omega), if_pos rfl]
        exact h4 hK (fun z => w (hv.mpr (z b hb))) M1 ht hlo
  · rw [if_pos rfl]; exact h1 (fun z => by unfold txK at z; omega) _ ht lo_up
end Sd3
