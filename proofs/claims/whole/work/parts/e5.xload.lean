/-! reading a whole text; the class -/
def rdL (tp : Nat → Nat) : Nat → rd → Nat → Nat × Nat × rd
  | 0, x, i => (0, i, x)
  | n + 1, x, i => if (rdT x (tp i)).1 = 0 then rdL tp n (rdT x (tp i)).2 (i + 1) else ((rdT x (tp i)).1, i, x)
noncomputable def rdE (x : rd) : Nat := @ite _ (x.1 ≠ 0 ∨ x.2.2.1 = 0) (Classical.propDecidable _) 2 (@ite _ (alT x.2.2.1 x.2.2.2) (Classical.propDecidable _) (@ite _ (nrg x.2.2.2) (Classical.propDecidable _) 0 7) 6)
/-- the fault's kind, its place, what is answered and what then stands -/
noncomputable def ldE (y : Nat × Nat × rd) : Nat := if y.1 = 0 then rdE y.2.2 else y.1
noncomputable def ldP (n : Nat) (y : Nat × Nat × rd) : Int := if y.1 = 0 then (if rdE y.2.2 = 0 then -1 else (n : Int)) else (y.2.1 : Int)
def ldB (D : Nat → Nat) : Nat → Nat := gU D 1 (2 ^ D 0 - 1)
noncomputable def ldS (s : sS) (n : Nat) (y : Nat × Nat × rd) : Int × sS := if ldE y = 0 then ((y.2.2.2.2.2 0 : Int), sp_keep (0, 0, -1, 0, s.tp, s.B, s.H) (ldB y.2.2.2.2.2)) else (-1, (7, (ldE y : Int), ldP n y, 0, s.tp, s.B, s.H))
/-- what stands when a text is without fault -/
def ldG (x : rd) : Prop := rdW x ∧ x.1 = 0 ∧ x.2.2.1 ≠ 0 ∧ nrg x.2.2.2
section Se5
variable {M : (Nat → Int → Int)} {d : Nat} {Q : Int → (Nat → Int → Int) → Prop} {x : rd} {k : Nat} {s : sS}
theorem rdE_2 (h : x.1 ≠ 0 ∨ x.2.2.1 = 0) : rdE x = 2 := by unfold rdE; rw [if_pos h]
theorem rdE_n (h1 : x.1 = 0) (h2 : x.2.2.1 ≠ 0) : ¬ (x.1 ≠ 0 ∨ x.2.2.1 = 0) := fun z => z.elim (fun q => q h1) h2
theorem rdE_6 (h1 : x.1 = 0) (h2 : x.2.2.1 ≠ 0) (h3 : ¬ alT x.2.2.1 x.2.2.2) : rdE x = 6 := by unfold rdE; rw [if_neg (rdE_n h1 h2), if_neg h3]
theorem rdE_7 (h1 : x.1 = 0) (h2 : x.2.2.1 ≠ 0) (h3 : alT x.2.2.1 x.2.2.2) (h4 : ¬ nrg x.2.2.2) : rdE x = 7 := by unfold rdE; rw [if_neg (rdE_n h1 h2), if_pos h3, if_neg h4]
theorem rdE_0 (h1 : x.1 = 0) (h2 : x.2.2.1 ≠ 0) (h3 : alT x.2.2.1 x.2.2.2) (h4 : nrg x.2.2.2) : rdE x = 0 := by unfold rdE; rw [if_neg (rdE_n h1 h2), if_pos h3, if_pos h4]
theorem ldE_b {y : Nat × Nat × rd} (h : y.1 ≠ 0) : ldE y = y.1 := by unfold ldE; rw [if_neg h]
theorem ldP_b {n : Nat} {y : Nat × Nat × rd} (h : y.1 ≠ 0) : ldP n y = (y.2.1 : Int) := by unfold ldP; rw [if_neg h]
theorem ldE_e {i : Nat} : ldE (0, i, x) = rdE x := by unfold ldE; rw [if_pos rfl]
theorem ldP_e {n i : Nat} (h : rdE x ≠ 0) : ldP n (0, i, x) = (n : Int) := by unfold ldP; rw [if_pos rfl, if_neg h]
theorem ldP_0 {n i : Nat} (h : rdE x = 0) : ldP n (0, i, x) = -1 := by unfold ldP; rw [if_pos rfl, if_pos h]
theorem rdT_5 (x : rd) (b : Nat) : (rdT x b).1 ≤ 5 := by
  unfold rdT; (repeat' split) <;> exact Nat.le_of_ble_eq_true rfl
theorem rdX_9 (h : rdX x M) {i v : Int} (hi : i ≠ 3 ∧ i ≠ 4) : rdX x (am_up M 9 i v) := by
  obtain ⟨a1, a2, a3⟩ := h
  exact ⟨by rw [up_ni _ _ _ _ (by omega)]; exact a1, fun z => by rw [up_ni _ _ _ _ (by omega)]; exact a2 z, a3⟩
theorem rdF_tr {M1 M2 : (Nat → Int → Int)} (h : rdF M M1) (h' : rdF M1 M2) : rdF M M2 := fun c hc => (h' c hc).trans (h c hc)
/-- what reading leaves in the class -/
def ldR (n : Nat) (y : Nat × Nat × rd) (M : (Nat → Int → Int)) : Prop := M 9 1 = (ldE y : Int) ∧ M 9 2 = ldP n y ∧ (ldE y = 0 → rdX y.2.2 M ∧ ldG y.2.2 ∧ xo y.2.2.2.2.2 (M 15))
theorem ldR_bad {n e : Nat} {y : Nat × Nat × rd} {M' : (Nat → Int → Int)} (he : ldE y = e) (e0 : e ≠ 0) {p : Int} (hp : ldP n y = p) (h1 : M' 9 1 = (e : Int)) (h2 : M' 9 2 = p) : ldR n y M' := ⟨by rw [he]; exact h1, by rw [hp]; exact h2, fun z => absurd (by rw [← he]; exact z) e0⟩
theorem x_readL {n : Nat} {tp : Nat → Nat} {M0 : (Nat → Int → Int)} (hn : n ≤ 400) (ht : ∀ i, i < n → tp i < 256) (hM : ∀ i : Nat, i < n → M0 1 (i : Int) = (tp i : Int)) : ∀ m i x M, i + m = n → rdX x M → rdW x → M 9 1 = 0 → rdF M0 M → (∀ M', rdF M0 M' → ldR n (rdL tp m x i) M' → Q 0 M') → am_x am_P am_gg (d + 5) am_k105 0 Q 24 [some (.inr (.inr 10)), some (.inr (.inr 2)), some (.inl ((n : Int))), some (.inl ((i : Int)))] [] M 0 0 := by
  intro m
  induction m with
  | zero =>
    intro i x M hi hx hW h91 hF hQ
    have : i = n := by omega
    subst this
    refine (h_105_24_10_2 _ _ _ _ _).mpr ?_
    rw [if_neg (Int.lt_irrefl _), if_pos h91]
    have hQ : ∀ M', rdF M0 M' → ldR i (0, i, x) M' → Q 0 M' := hQ
    obtain ⟨w, o, t, D⟩ := x
    have bad : ∀ (e : Nat) (M' : (Nat → Int → Int)), (∀ c, c ≠ 15 → M' c = M c) → rdE (w, o, t, D) = e → e ≠ 0 → (if (e : Int) = 0 then Q 0 (am_up (am_up M' 9 1 (e : Int)) 9 2 (-1)) else Q 0 (am_up (am_up M' 9 1 (e : Int)) 9 2 (i : Int))) := by
      intro e M' k1 k2 k3
      rw [if_neg (by omega)]
      refine hQ _ (rdF_up (rdF_up (fun c hc => by rw [k1 c (by omega)]; exact hF c hc) (by omega)) (by omega)) (ldR_bad (by rw [ldE_e]; exact k2) k3 (ldP_e (by rw [k2]; exact k3)) (by rw [up_ni _ _ _ _ (by decide), up_eq]) (up_eq _ _ _ _))
    refine x_look hx hW (fun g => ?_) (fun g1 g2 g3 => ?_) (fun g1 g2 g3 g4 M' k => ?_) (fun g1 g2 g3 M' k1 k2 => ?_)
    · exact bad 2 M (fun _ _ => rfl) (rdE_2 g) (by decide)
    · exact bad 6 M (fun _ _ => rfl) (rdE_6 g1 g2 g3) (by decide)
    · exact bad 7 M' k (rdE_7 g1 g2 g3 g4) (by decide)
    · rw [if_pos rfl]
      have hnr := xo_nrg hW.2.1 k2
      have e0 := rdE_0 (x := (w, o, t, D)) g1 g2 g3 hnr
      refine hQ _ (rdF_up (rdF_up (fun c hc => by rw [k1 c (by omega)]; exact hF c hc) (by omega)) (by omega)) ⟨?_, ?_, fun _ => ⟨rdX_9 (rdX_9 (rdx_15 hx k1) (by omega)) (by omega), ⟨hW, g1, g2, hnr⟩, ?_⟩⟩
      · rw [up_ni _ _ _ _ (by decide), up_eq, ldE_e, e0]; rfl
      · rw [up_eq, ldP_0 e0]
      · rw [up_nc _ _ _ _ (by decide), up_nc _ _ _ _ (by decide)]; exact k2
  | succ m ih =>
    intro i x M hi hx hW h91 hF hQ
    have hin : i < n := by omega
    refine (h_105_24_10_2 _ _ _ _ _).mpr ?_
    rw [if_pos (by omega), if_pos h91, if_pos (by omega), hF 1 (by omega), hM i hin, w32_s (by omega)]
    refine x_step hx hW (ht i hin) (fun M1 k1 k2 => ?_)
    by_cases z : (rdT x (tp i)).1 = 0
    · have hQ : ∀ M', rdF M0 M' → ldR n (rdL tp m (rdT x (tp i)).2 (i + 1)) M' → Q 0 M' := by
        intro M' a b
        refine hQ M' a ?_
        unfold rdL; rw [if_pos z]; exact b
      exact ih (i + 1) _ _ (by omega) (rdX_9 (rdX_9 (k1 z) (by omega)) (by omega)) (rdW_T hW _ z) (by rw [up_ni _ _ _ _ (by decide), up_eq, z]; rfl) (rdF_up (rdF_up (rdF_tr hF k2) (by omega)) (by omega)) hQ
    · have e : rdL tp (m + 1) x i = ((rdT x (tp i)).1, i, x) := by show (if (rdT x (tp i)).1 = 0 then _ else _) = _; rw [if_neg z]
      rw [e] at hQ
      have hv : (am_up (am_up M1 9 1 ((rdT x (tp i)).1 : Int)) 9 2 (i : Int)) 9 1 = ((rdT x (tp i)).1 : Int) := by rw [up_ni _ _ _ _ (by decide), up_eq]
      have hv0 : ¬ (am_up (am_up M1 9 1 ((rdT x (tp i)).1 : Int)) 9 2 (i : Int)) 9 1 = 0 := by rw [hv]; omega
      have fin := hQ _ (rdF_up (rdF_up (rdF_tr hF k2) (c := 9) (by omega) (i := 1) (v := ((rdT x (tp i)).1 : Int))) (c := 9) (by omega) (i := 2) (v := (i : Int))) (ldR_bad (ldE_b z) z (ldP_b z) hv (up_eq _ _ _ _))
      refine (h_105_24_10_2 _ _ _ _ _).mpr ?_
      rw [if_neg hv0, if_neg hv0]
      by_cases q : ((i + 1 : Nat) : Int) < (n : Int)
      · rw [if_pos q]; exact fin
      · rw [if_neg q]; exact fin
theorem rdW_0 {D : Nat → Nat} (h : D 0 = 0) : rdW (0, 0, 0, D) := by
  have hU : rdU D := ⟨by omega, fun r hr => by omega⟩
  have hg : gtold D = 0 := by unfold gtold; rw [h]; rfl
  exact ⟨Nat.zero_le _, hU, by show 0 < 256; decide, fun z => absurd rfl z, fun z => absurd z (by show ¬ 3 ≤ 0; decide), fun z => absurd rfl z, fun _ => h, fun _ z => absurd rfl z, by show 0 = gtold D ||| 0; rw [hg]; rfl, fun z => absurd rfl z⟩
theorem x_read {n : Nat} {tp D : Nat → Nat} (hD : D 0 = 0) (hn : n ≤ 400) (ht : ∀ i, i < n → tp i < 256) (hM : ∀ i : Nat, i < n → M 1 (i : Int) = (tp i : Int)) (hQ : ∀ M', rdF M M' → ldR n (rdL tp n (0, 0, 0, D) 0) M' → Q 0 M') : am_s am_P am_gg (d + 6) 105 [.inr (.inr 10), .inr (.inr 2), .inl (n : Int)] M Q := by
  refine (v_105_10_2 _ _ _ _).mpr ((v_57_11 _ _ _).mpr ?_)
  refine x_readL hn ht hM n 0 (0, 0, 0, D) _ (by omega) ?_ (rdW_0 hD) ?_ ?_ hQ
  · refine ⟨?_, fun z => absurd rfl z, ?_, ?_, ?_, fun z => absurd rfl z, fun r hr => ?_⟩
    · rw [up_ni _ _ _ _ (by decide), up_ni _ _ _ _ (by decide), up_eq]; rfl
    · rw [up_nc _ _ _ _ (by decide), up_nc _ _ _ _ (by decide), up_nc _ _ _ _ (by decide), up_ni _ _ _ _ (by decide), up_ni _ _ _ _ (by decide), up_ni _ _ _ _ (by decide), up_eq]
      show (0 : Int) = ((D 0 : Nat) : Int); rw [hD]; rfl
    · rw [up_nc _ _ _ _ (by decide), up_nc _ _ _ _ (by decide), up_nc _ _ _ _ (by decide), up_ni _ _ _ _ (by decide), up_ni _ _ _ _ (by decide), up_eq]
      show (0 : Int) = ((2 ^ D 0 - 1 : Nat) : Int); rw [hD]; rfl
    · rw [up_nc _ _ _ _ (by decide), up_nc _ _ _ _ (by decide), up_nc _ _ _ _ (by decide), up_ni _ _ _ _ (by decide), up_eq]; rfl
    · have hr : r < D 0 := hr
      omega
  · rw [up_ni _ _ _ _ (by decide), up_eq]
  · exact rdF_up (rdF_up (rdF_up (rdF_up (rdF_up (rdF_up (rdF_up (rdF_up rdF_rf (by omega)) (by omega)) (by omega)) (by omega)) (by omega)) (by omega)) (by omega)) (by omega)
/-- the grammar that was read -/
theorem ldB_W (h : ldG x) : gW (ldB x.2.2.2) := by
  obtain ⟨w, o, t, D⟩ := x
  obtain ⟨hW, h1, h2, pos, h3⟩ := h
  obtain ⟨c1, hU, c3, -, -, -, c7, c8, c9, c10⟩ := hW
  dsimp only at h1 h2 h3 hU c10 ⊢
  have hn := hU.1
  unfold ldB
  refine ⟨by rw [gU_ne (by decide)]; exact hn, by rw [gU_eq, gU_ne (by decide)]; have := Nat.pow_pos (n := D 0) (show 0 < 2 by decide); omega, by rw [gU_ne (by decide)]; exact c10 h2, (rdU_gU hU (Or.inl rfl)).2, pos, h3.1, fun r hr hz hg => ?_⟩
  rw [gU_ne (by decide)] at hr
  have hz : gsz D r = 1 := by unfold gsz at hz ⊢; rwa [gU_ne (by omega)] at hz
  have hg : gsg D r 0 < 8 := by unfold gsg at hg ⊢; rwa [gU_ne (by omega)] at hg
  have q := h3.2 r hr hz hg
  unfold gsg gsy at q ⊢
  rw [gU_ne (by omega), gU_ne (by omega)]
  exact q
theorem ldB_g (h : rdX x M) (hG : ldG x) (ho : xo x.2.2.2 (M 15)) : xgb (ldB x.2.2.2) M 10 := by
  obtain ⟨w, o, t, D⟩ := x
  obtain ⟨hW, h1, h2, -⟩ := hG
  obtain ⟨a1, a2, a3, a4, a5, a6, a7⟩ := h
  obtain ⟨c1, hU, c3, -, -, -, c7, c8, c9, c10⟩ := hW
  dsimp only at h1 h2 a3 a4 a5 a6 a7 c9 ho hU ⊢
  have hn := hU.1
  rw [if_neg (by omega), Nat.or_zero] at c9
  refine ⟨?_, ?_, ?_, ?_, fun r hr => ?_, xo_gU (Or.inl rfl) hn ho⟩
  · unfold ldB; rw [gU_ne (by decide)]; exact a3
  · unfold ldB; rw [gU_eq]; exact a4
  · unfold ldB; rw [gtold_gU (Or.inl rfl) hn, ← c9]; exact a5
  · unfold ldB; rw [gU_ne (by decide)]; exact a6 h2
  · unfold ldB at hr
    rw [gU_ne (by decide)] at hr
    obtain ⟨b1, b2, b3, b4⟩ := a7 r hr
    unfold ldB gsy gsz gwt gsg
    rw [gU_ne (by omega), gU_ne (by omega), gU_ne (by omega)]
    exact ⟨b1, b2, b3, fun i hi => by rw [gU_ne (by omega)]; exact b4 i hi⟩
/-- behind remember: another grammar, and what stands elsewhere stands still -/
theorem x_keep3 (h : xS k s M) (hk : k < 2147483647) (hQ : ∀ M1, (∀ c, c ≠ 0 → c < 125 ∨ 172 < c → M1 c = M c) → (∀ (B' : Nat → Nat) (M2 : (Nat → Int → Int)) (x : Int) (d : Nat), gW B' → xgb B' M2 2 → M2 2 0 = w32 (M1 2 0 + 1) → (∀ c, c < 2 ∨ 7 < c → M2 c = M1 c) → am_s am_P am_gg (d + 1) 205 [.inr (.inr 1), .inl x] M2 (xC (k + 1) s (sp_keep s B') x M)) → Q 0 M1) : am_s am_P am_gg (d + 2) 208 [.inr (.inr 1)] M Q := by
  obtain ⟨⟨w1, w2, w3, w4, w5, w6, w7, w8⟩, a2, a3, a4, a5, a6, a7, ⟨a8, a8'⟩, a9, top, t1, t2, t3⟩ := h
  refine x_remember t1 t2 a9 w7 w6 a7 (fun M1 b1 b2 b3 b4 b5 => hQ M1 (fun c h0 h1 => b5 c h0 (by omega)) (fun B' M2 x d hB' c1 c2 c3 => ?_))
  have e0 : M2 0 = M1 0 := c3 0 (by omega)
  have hver : M2 2 0 = M 2 0 + 1 := by rw [c2, b5 2 (by omega) (by omega), w32_i (by omega) (by omega)]
  have hs : xS (k + 1) (s.st, s.fk, s.fa, s.tn, s.tp, B', (s.B :: s.H).take 8) M2 := by
    refine ⟨⟨w1, w2, w3, w4, w5, hB', ?_, ?_⟩, ?_, ?_, ?_, ?_, ?_, c1, ?_, ?_, (top + 1) % 8, by omega, by rw [e0]; exact b2, ?_⟩
    · show ((s.B :: s.H).take 8).length ≤ 8
      rw [List.length_take]; omega
    · intro B hb
      have hb : B ∈ (s.B :: s.H).take 8 := hb
      rcases List.mem_cons.mp (List.mem_of_mem_take hb) with rfl | q
      · exact w6
      · exact w8 B q
    · rw [e0, b4 1 (by decide) (by decide)]; exact a2
    · rw [e0, b4 2 (by decide) (by decide)]; exact a3
    · rw [e0, b4 3 (by decide) (by decide)]; exact a4
    · rw [e0, b4 4 (by decide) (by decide)]; exact a5
    · intro i hi; rw [c3 1 (by omega), b5 1 (by omega) (by omega)]; exact a6 i hi
    · rw [hver]; constructor <;> omega
    · rw [e0, b3]; show _ = (((s.B :: s.H).take 8).length : Int); rw [rb_len]
    · intro j hj
      have hj : j < ((s.B :: s.H).take 8).length := hj
      rw [rb_len] at hj
      match j, hj with
      | 0, _ =>
        rw [show ((top + 1) % 8 + 7 - 0) % 8 = top by omega]
        exact xgb_eq b1 (fun c _ _ => c3 c (by omega))
      | j + 1, hj =>
        have hj8 : j + 1 < 8 := by split at hj <;> omega
        have hjl : j < s.H.length := by split at hj <;> omega
        rw [show ((top + 1) % 8 + 7 - (j + 1)) % 8 = (top + 7 - j) % 8 by omega]
        show xgb (((s.B :: s.H).take 8).getD (j + 1) (fun _ => 0)) _ _
        rw [rb_get hj8]
        exact xgb_eq (t3 j hjl) (fun c _ _ => by rw [c3 c (by omega), b5 c (by omega) (by omega)])
  refine am_s_mono (Nat.le_refl _) (x_answer hs x) (fun r M' q => ⟨q.1, q.2.1, fun c a b => ?_, Or.inl ?_⟩)
  · rw [q.2.2.1 c a b, c3 c (by omega), b5 c (by omega) (by omega)]
  · rcases q.2.2.2 with g | ⟨_, g⟩
    · omega
    · rw [g 2 (by omega) (by omega)]; omega
/-- the class, a text read: what it holds -/
theorem xS_ld (h : xS k s M) {M1 : (Nat → Int → Int)} (hF : rdF M M1) {fk fa : Int} (h1 : am_i32 fk) (h2 : am_i32 fa) : xS k (s.st, fk, fa, 0, s.tp, s.B, s.H) (am_up (am_up (am_up M1 0 1 0) 0 3 fk) 0 4 fa) := by
  obtain ⟨⟨w1, w2, w3, w4, w5, w6, w7, w8⟩, a2, a3, a4, a5, a6, a7, a8, a9, top, t1, t2, t3⟩ := h
  have e : ∀ c, c ≠ 0 → c < 9 ∨ 15 < c → am_up (am_up (am_up M1 0 1 0) 0 3 fk) 0 4 fa c = M c := fun c k1 k2 => by rw [up_nc _ _ _ _ k1, up_nc _ _ _ _ k1, up_nc _ _ _ _ k1]; exact hF c k2
  refine ⟨⟨w1, h1, h2, Nat.zero_le _, fun i hi => absurd hi (Nat.not_lt_zero i), w6, w7, w8⟩, ?_, ?_, ?_, up_eq _ _ _ _, fun i hi => absurd hi (Nat.not_lt_zero i), xgb_eq a7 (fun c b1 b2 => e c (by omega) (by omega)), ?_, ?_, top, t1, ?_, fun j hj => xgb_eq (t3 j hj) (fun c b1 b2 => e c (by omega) (by omega))⟩
  · rw [up_ni _ _ _ _ (by decide), up_ni _ _ _ _ (by decide), up_eq]; rfl
  · rw [up_ni _ _ _ _ (by decide), up_ni _ _ _ _ (by decide), up_ni _ _ _ _ (by decide), hF 0 (by omega)]; exact a3
  · rw [up_ni _ _ _ _ (by decide), up_eq]; rfl
  · rw [e 2 (by decide) (by omega)]; exact a8
  · rw [up_ni _ _ _ _ (by decide), up_ni _ _ _ _ (by decide), up_ni _ _ _ _ (by decide), hF 0 (by omega)]; exact a9
  · rw [up_ni _ _ _ _ (by decide), up_ni _ _ _ _ (by decide), up_ni _ _ _ _ (by decide), hF 0 (by omega)]; exact t2
end Se5
