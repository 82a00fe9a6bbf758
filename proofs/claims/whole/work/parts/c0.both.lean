/-! both objects, as they stand between two calls -/
def k1 (B : Nat → Nat) (M : (Nat → Int → Int)) : Prop := M 16 1 ≤ M 2 0 ∧ (M 16 1 = M 2 0 → sOK B M)
def k2 (B : Nat → Nat) (M : (Nat → Int → Int)) : Prop := M 22 1 ≤ M 2 0 ∧ (M 22 1 = M 2 0 → chOK B M)
def k3 (B : Nat → Nat) (M : (Nat → Int → Int)) : Prop := M 81 2 ≤ M 2 0 ∧ (M 81 2 = M 2 0 → pOK B M ∧ spI B M)
def k4 (B : Nat → Nat) (M : (Nat → Int → Int)) : Prop := M 93 2 ≤ M 81 2 ∧ M 93 3 ≤ M 81 2 ∧ (M 81 2 = M 2 0 → (M 93 2 = M 81 2 → coOK B M) ∧ (M 93 3 = M 81 2 → apR B (M 93 4)))
def k5 (B : Nat → Nat) (M : (Nat → Int → Int)) : Prop := cLet M ∧ M 100 1 ≤ M 2 0 ∧ (M 100 1 = M 2 0 → tcO B M)
def k6 (B : Nat → Nat) (k : Nat) (M : (Nat → Int → Int)) : Prop := M 108 2 ≤ M 2 0 ∧ cgI B ((6100 * k : Nat) : Int) M
def k7 (B : Nat → Nat) (M : (Nat → Int → Int)) : Prop := M 121 3 ≤ M 2 0 ∧ (M 121 3 = M 2 0 → skO B M)
def xK (B : Nat → Nat) (k : Nat) (M : (Nat → Int → Int)) : Prop := k1 B M ∧ k2 B M ∧ k3 B M ∧ k4 B M ∧ k5 B M ∧ k6 B k M ∧ k7 B M
def xJ (k : Nat) (s : sS) (M : (Nat → Int → Int)) : Prop := xS k s M ∧ xK s.B k M
def rJ (s : sS) (M : (Nat → Int → Int)) : Prop := rS s M ∧ (M 173 11 = 0 ∨ M 173 11 = 1 ∧ rL s.B M ∧ tI s.B M)
def J (k : Nat) (M : (Nat → Int → Int)) : Prop := ∃ s, xJ k s M ∧ rJ s M
def hiF (M M' : (Nat → Int → Int)) : Prop := ∀ c, 173 ≤ c → M' c = M c
def loF (M M' : (Nat → Int → Int)) : Prop := ∀ c, c < 173 → M' c = M c
section Sc0
variable {s s' : sS} {B B' : Nat → Nat} {k k' d : Nat} {M M' : (Nat → Int → Int)} {Q : Int → (Nat → Int → Int) → Prop}
theorem k1_M (h : k1 B M) (e2 : M' 2 0 = M 2 0) (e : ∀ c, 16 ≤ c → c ≤ 21 → M' c = M c) : k1 B M' := by
  unfold k1 at h ⊢; rw [e 16 (by omega) (by omega), e2]; exact ⟨h.1, fun q => sOK_c (h.2 q) e⟩
theorem k2_M (h : k2 B M) (e2 : M' 2 0 = M 2 0) (e : ∀ c, 22 ≤ c → c ≤ 80 → M' c = M c) : k2 B M' := by
  unfold k2 at h ⊢; rw [e 22 (by omega) (by omega), e2]; exact ⟨h.1, fun q => chOK_cong (h.2 q) (fun i _ => by rw [e 22 (by omega) (by omega)]) (fun c a b => e c (by omega) b)⟩
theorem spI_M (h : spI B M) (e81 : M' 81 16 = M 81 16) (e91 : M' 91 = M 91) (e92 : M' 92 = M 92) : spI B M' := by
  unfold spI lw at h ⊢; rw [e81, e91, e92]; exact h
theorem k3_M (h : k3 B M) (e2 : M' 2 0 = M 2 0) (e : ∀ c, 81 ≤ c → c ≤ 92 → M' c = M c) : k3 B M' := by
  unfold k3 at h ⊢; rw [e 81 (by omega) (by omega), e2]; exact ⟨h.1, fun q => ⟨pOK_eq (h.2 q).1 e, spI_M (h.2 q).2 (by rw [e 81 (by omega) (by omega)]) (e 91 (by omega) (by omega)) (e 92 (by omega) (by omega))⟩⟩
theorem coOK_M (h : coOK B M) (e5 : M' 93 5 = M 93 5) (e94 : M' 94 = M 94) (e96 : M' 96 = M 96) : coOK B M' := by
  unfold coOK at h ⊢; rw [e5, e94, e96]; exact h
theorem k4_M (h : k4 B M) (e2 : M' 2 0 = M 2 0) (e81 : M' 81 2 = M 81 2) (e : ∀ c, 93 ≤ c → c ≤ 99 → M' c = M c) : k4 B M' := by
  unfold k4 at h ⊢; rw [e 93 (by omega) (by omega), e81, e2]
  exact ⟨h.1, h.2.1, fun q => ⟨fun z => coOK_M ((h.2.2 q).1 z) (by rw [e 93 (by omega) (by omega)]) (e 94 (by omega) (by omega)) (e 96 (by omega) (by omega)), (h.2.2 q).2⟩⟩
theorem tcO_M (h : tcO B M) (e : ∀ c, 100 ≤ c → c ≤ 106 → M' c = M c) : tcO B M' := by
  unfold tcO cT cL tbl pkO lsI at h ⊢
  rw [e 100 (by omega) (by omega), e 101 (by omega) (by omega), e 105 (by omega) (by omega), e 106 (by omega) (by omega)]; exact h
theorem cLet_M (h : cLet M) (e : M' 101 = M 101) : cLet M' := by unfold cLet at h ⊢; rw [e]; exact h
theorem k5_M (h : k5 B M) (e2 : M' 2 0 = M 2 0) (e : ∀ c, 100 ≤ c → c ≤ 106 → M' c = M c) : k5 B M' := by
  unfold k5 at h ⊢; rw [e 100 (by omega) (by omega), e2]; exact ⟨cLet_M h.1 (e 101 (by omega) (by omega)), h.2.1, fun q => tcO_M (h.2.2 q) e⟩
theorem k6_M (h : k6 B k M) (e2 : M' 2 0 = M 2 0) (e : ∀ c, 108 ≤ c → c ≤ 118 → M' c = M c) : k6 B k M' := by
  unfold k6 at h ⊢; rw [e 108 (by omega) (by omega), e2]; exact ⟨h.1, cgI_M h.2 e2 e⟩
theorem k6_mono (h : k6 B k M) (hk : k ≤ k') : k6 B k' M := ⟨h.1, cgI_st h.2 (by omega)⟩
theorem k7_M (h : k7 B M) (e2 : M' 2 0 = M 2 0) (e : ∀ c, 121 ≤ c → c ≤ 123 → M' c = M c) : k7 B M' := by
  unfold k7 skO at h ⊢; rw [e 121 (by omega) (by omega), e 122 (by omega) (by omega), e 123 (by omega) (by omega), e2]; exact h
theorem xK_mono (h : xK B k M) (hk : k ≤ k') : xK B k' M := ⟨h.1, h.2.1, h.2.2.1, h.2.2.2.1, h.2.2.2.2.1, k6_mono h.2.2.2.2.2.1 hk, h.2.2.2.2.2.2⟩
theorem xJ_mono (h : xJ k s M) (hk : k ≤ k') : xJ k' s M := ⟨xS_mono h.1 hk, xK_mono h.2 hk⟩
theorem xK_M (h : xK B k M) (e2 : M' 2 0 = M 2 0) (e : ∀ c, 16 ≤ c → c < 125 → M' c = M c) : xK B k M' := by
  obtain ⟨h1, h2, h3, h4, h5, h6, h7⟩ := h
  exact ⟨k1_M h1 e2 (fun c a b => e c (by omega) (by omega)), k2_M h2 e2 (fun c a b => e c (by omega) (by omega)), k3_M h3 e2 (fun c a b => e c (by omega) (by omega)), k4_M h4 e2 (by rw [e 81 (by omega) (by omega)]) (fun c a b => e c (by omega) (by omega)), k5_M h5 e2 (fun c a b => e c (by omega) (by omega)), k6_M h6 e2 (fun c a b => e c (by omega) (by omega)), k7_M h7 e2 (fun c a b => e c (by omega) (by omega))⟩
/-- a newer version: nothing that is kept is of it -/
theorem xK_v (h : xK B k M) (e2 : M 2 0 < M' 2 0) (e : ∀ c, 16 ≤ c → c < 125 → M' c = M c) : xK B' k M' := by
  obtain ⟨h1, h2, h3, h4, h5, h6, h7⟩ := h
  refine ⟨?_, ?_, ?_, ?_, ?_, ?_, ?_⟩
  · unfold k1 at h1 ⊢; rw [e 16 (by omega) (by omega)]; exact ⟨by omega, fun q => by omega⟩
  · unfold k2 at h2 ⊢; rw [e 22 (by omega) (by omega)]; exact ⟨by omega, fun q => by omega⟩
  · unfold k3 at h3 ⊢; rw [e 81 (by omega) (by omega)]; exact ⟨by omega, fun q => by omega⟩
  · unfold k3 at h3; unfold k4 at h4 ⊢; rw [e 81 (by omega) (by omega), e 93 (by omega) (by omega)]; exact ⟨h4.1, h4.2.1, fun q => by omega⟩
  · unfold k5 at h5 ⊢; rw [e 100 (by omega) (by omega)]; exact ⟨cLet_M h5.1 (e 101 (by omega) (by omega)), by omega, fun q => by omega⟩
  · unfold k6 cgI at h6 ⊢
    refine ⟨by rw [e 108 (by omega) (by omega)]; omega, chW_M h6.2.1 (e 110 (by omega) (by omega)), by rw [e 108 (by omega) (by omega), e 118 (by omega) (by omega)]; exact h6.2.2.1, fun q => ?_⟩
    rw [e 108 (by omega) (by omega)] at q
    omega
  · unfold k7 at h7 ⊢; rw [e 121 (by omega) (by omega)]; exact ⟨by omega, fun q => by omega⟩
theorem xJ_C {v r : Int} (h : xJ k s M) (hk : k ≤ k') (hc : xC k' s s' v M r M') : r = v ∧ xJ k' s' M' ∧ hiF M M' := by
  obtain ⟨c1, c2, c3, c4⟩ := hc
  refine ⟨c1, ⟨c2, ?_⟩, fun c hc => c3 c (by omega) (by omega)⟩
  rcases c4 with c4 | ⟨c4, c5⟩
  · exact xK_mono (xK_v h.2 c4 (fun c a b => c3 c a (by omega))) hk
  · rw [c4]
    exact xK_mono (xK_M h.2 (by rw [c5 2 (by omega) (by omega)]) (fun c a b => c3 c a (by omega))) hk
theorem rL_M (h : rL B M) (e : ∀ i : Int, 12 ≤ i → M' 173 i = M 173 i) (e2 : ∀ c, 176 ≤ c → c ≤ 191 → c ≠ 186 → M' c = M c) : rL B M' := by
  unfold rL yR xR pI bR cR at h ⊢
  rw [e 12 (by decide), e 13 (by decide), e 14 (by decide), e 15 (by decide), e 34 (by decide), e 37 (by decide), e2 176 (by decide) (by decide) (by decide), e2 177 (by decide) (by decide) (by decide), e2 178 (by decide) (by decide) (by decide), e2 179 (by decide) (by decide) (by decide), e2 180 (by decide) (by decide) (by decide), e2 181 (by decide) (by decide) (by decide), e2 182 (by decide) (by decide) (by decide), e2 183 (by decide) (by decide) (by decide), e2 184 (by decide) (by decide) (by decide), e2 185 (by decide) (by decide) (by decide), e2 187 (by decide) (by decide) (by decide), e2 188 (by decide) (by decide) (by decide), e2 189 (by decide) (by decide) (by decide), e2 190 (by decide) (by decide) (by decide), e2 191 (by decide) (by decide) (by decide)]; exact h
theorem tI_M (h : tI B M) (e174 : rb (M' 174) 0 B) (e193 : M' 193 = M 193) (e194 : M' 194 = M 194) : tI B M' := by
  unfold tI mT at h ⊢; rw [e193, e194]; exact ⟨e174, h.2⟩
theorem rJ_C {v r : Int} (h : rJ s M) (hc : rC s s' v M r M') : r = v ∧ rJ s' M' ∧ loF M M' := by
  obtain ⟨c1, c2, c3, c4, c5⟩ := hc
  refine ⟨c1, ⟨c2, ?_⟩, fun c hc => c3 c (by omega) (by omega) (by omega)⟩
  rcases c5 with c5 | ⟨c5, c6⟩
  · exact Or.inl c5
  · rw [c5, c6]
    rcases h.2 with q | ⟨q1, q2, q3⟩
    · exact Or.inl q
    · exact Or.inr ⟨q1, rL_M q2 (fun i hi => c4 i hi) (fun c a b _ => c3 c (by omega) (by omega) (by omega)), tI_M q3 (by rw [← c6]; exact c2.2.2.2.2.2.2.1) (c3 193 (by decide) (by decide) (by decide)) (c3 194 (by decide) (by decide) (by decide))⟩
theorem xJ_hi (h : xJ k s M) (e : loF M M') : xJ k s M' := by
  obtain ⟨⟨a1, a2, a3, a4, a5, a6, a7, a8, a9, top, t1, t2, t3⟩, h2⟩ := h
  refine ⟨⟨a1, by rw [e 0 (by omega)]; exact a2, by rw [e 0 (by omega)]; exact a3, by rw [e 0 (by omega)]; exact a4, by rw [e 0 (by omega)]; exact a5, by rw [e 1 (by omega)]; exact a6, xgb_eq a7 (fun c b1 b2 => e c (by omega)), by rw [e 2 (by omega)]; exact a8, by rw [e 0 (by omega)]; exact a9, top, t1, by rw [e 0 (by omega)]; exact t2, fun j hj => xgb_eq (t3 j hj) (fun c b1 b2 => e c (by omega))⟩, xK_M h2 (by rw [e 2 (by omega)]) (fun c a b => e c (by omega))⟩
theorem rJ_lo (h : rJ s M) (e : hiF M M') : rJ s M' := by
  obtain ⟨⟨hw, g2, g6, g7, g5, g75, hB, g1, hH, hD⟩, h2⟩ := h
  refine ⟨⟨hw, by rw [e 173 (by omega)]; exact g2, by rw [e 173 (by omega)]; exact g6, by rw [e 173 (by omega)]; exact g7, by rw [e 173 (by omega)]; exact g5, by rw [e 175 (by omega)]; exact g75, by rw [e 174 (by omega)]; exact hB, by rw [e 173 (by omega)]; exact g1, by rw [e 174 (by omega)]; exact hH, by rw [e 174 (by omega)]; exact hD⟩, ?_⟩
  rw [e 173 (by omega)]
  rcases h2 with q | ⟨q1, q2, q3⟩
  · exact Or.inl q
  · exact Or.inr ⟨q1, rL_M q2 (fun i _ => by rw [e 173 (by omega)]) (fun c a b _ => e c (by omega)), tI_M q3 (by rw [e 174 (by omega)]; exact hB) (e 193 (by omega)) (e 194 (by omega))⟩
/-- a call of both -/
theorem pr_mk {zx zm : Nat} {as : List am_v} (h : ∀ s M, xJ k s M → rJ s M → ∃ (v : Int) (s' : sS), (∀ M, xJ k s M → am_s am_P am_gg 1600 zx (.inr (.inr 1) :: as) M (fun r M1 => r = v ∧ xJ (k + 1) s' M1 ∧ hiF M M1)) ∧ (∀ M, rJ s M → am_s am_P am_gg 1600 zm (.inr (.inr 174) :: as) M (fun r M2 => r = v ∧ rJ s' M2 ∧ loF M M2))) : lm_pr (J k) (J (k + 1)) zx zm as := by
  intro M ⟨s, hx, hr⟩
  obtain ⟨v, s', h1, h2⟩ := h s M hx hr
  refine am_s_mono (Nat.le_refl _) (h1 M hx) (fun r M1 ⟨q1, q2, q3⟩ => ?_)
  refine am_s_mono (Nat.le_refl _) (h2 M1 (rJ_lo hr q3)) (fun r' M2 ⟨p1, p2, p3⟩ => ⟨by rw [q1, p1], s', xJ_hi q2 p3, p2⟩)
/-- what a call of the class, of the reference comes to -/
def xG (k : Nat) (s' : sS) (v : Int) (M : (Nat → Int → Int)) (r : Int) (M' : (Nat → Int → Int)) : Prop := r = v ∧ xJ k s' M' ∧ hiF M M'
def rG (s' : sS) (v : Int) (M : (Nat → Int → Int)) (r : Int) (M' : (Nat → Int → Int)) : Prop := r = v ∧ rJ s' M' ∧ loF M M'
theorem J_mono (h : J k M) (hk : k ≤ k') : J k' M := by
  obtain ⟨s, h1, h2⟩ := h
  exact ⟨s, xJ_mono h1 hk, h2⟩
end Sc0
