/-! the reference finds the own tree, and its number -/
def oI (M : (Nat → Int → Int)) (ro : List Nat) : Prop := M 173 44 = (ro.length : Int) ∧ ∀ j : Nat, j < ro.length → M 197 (j : Int) = (ro.getD j 0 : Int)
def oF (M M' : (Nat → Int → Int)) : Prop := (∀ c, c ≠ 173 → c ≠ 196 → c ≠ 197 → M' c = M c) ∧ ∀ i : Int, i ≠ 44 → M' 173 i = M 173 i
def nds (l : List nd) : List Nat := l.map (fun t => t.1)
section S9x
variable {B : Nat → Nat} {x : Nat → Nat} {N r i a n s k d : Nat} {M : (Nat → Int → Int)} {Q : Int → (Nat → Int → Int) → Prop}
theorem oF_rf : oF M M := ⟨fun _ _ _ _ => rfl, fun _ _ => rfl⟩
theorem oF_tr {M' M'' : (Nat → Int → Int)} (h : oF M M') (h' : oF M' M'') : oF M M'' := ⟨fun c h1 h2 h3 => (h'.1 c h1 h2 h3).trans (h.1 c h1 h2 h3), fun i h1 => (h'.2 i h1).trans (h.2 i h1)⟩
theorem f196_oF {M' : (Nat → Int → Int)} (h : f196 M M') : oF M M' := ⟨fun c _ h2 _ => h c h2, fun i _ => by rw [h 173 (by decide)]⟩
theorem oI_f {M' : (Nat → Int → Int)} {ro : List Nat} (h : oI M ro) (hF : f196 M M') : oI M' ro := by
  unfold oI at h ⊢
  rw [hF 173 (by decide), hF 197 (by decide)]; exact h
theorem m_endOf (hW : gW B) (hN : N ≤ 16) (hr : r < B 0) (hi : i < gsz B r) (hn : a + n ≤ N) (hd : 720 ≤ d) (h : 0 < wR B x r i a n) (hI : wI B x N M) (hQ : ∀ M', wI B x N M' → f196 M M' → Q ((a + (cu B x r i a n + 1) : Nat) : Int) M') : am_s am_P am_gg (d + 1) 341 [.inr (.inr 174), .inl (r : Int), .inl (i : Int), .inl (a : Int), .inl ((a + n : Nat) : Int)] M Q := by
  obtain ⟨d, rfl⟩ : ∃ e, d = e + 1 := ⟨d - 1, by omega⟩
  obtain ⟨c1, c2, c3, c4, c5, c6⟩ := cu_ok hi h
  have hz := hW.2.2.2.1 r hr
  have hn16 := hW.1
  refine (v_341_174 _ _ _ _ _ _ _).mpr (m_size hI.1 (by omega) ?_)
  rw [show w32 ((gsz B r : Int) - 1) = ((gsz B r - 1 : Nat) : Int) by rw [w32_i (by omega) (by omega)]; omega, w32_s (by omega)]
  have main : ∀ g : Int, (g = 0 ∧ i + 1 < gsz B r ∨ g = 1 ∧ i + 1 = gsz B r) → am_x am_P am_gg (d + 1) am_k341 1 Q 23 [some (.inr (.inr 174)), some (.inl ((r : Int))), some (.inl ((i : Int))), some (.inl ((a : Int))), some (.inl (((a + n : Nat) : Int))), some (.inl (((a + 1 : Nat) : Int))), some (.inl (g))] [] M 0 0 := by
    intro g hg
    refine p_for (S := (Nat → Int → Int)) (X := fun f M => am_x am_P am_gg (d + 1) am_k341 1 Q 23 [some (.inr (.inr 174)), some (.inl ((r : Int))), some (.inl ((i : Int))), some (.inl ((a : Int))), some (.inl (((a + n : Nat) : Int))), some (.inl (f)), some (.inl (g))] [] M 0 0) (a + (cu B x r i a n + 1)) (fun f M' => a + 1 ≤ f ∧ wI B x N M' ∧ f196 M M') ?_ ?_ (a + 1) M (by omega) ⟨Nat.le_refl _, hI, f196_rf⟩
    · rintro M1 ⟨_, hI1, hF1⟩
      refine (h_341_23_174 _ _ _ _ _ _ _ _ _).mpr (m_sign hI1.1 (by omega) (by omega) ?_)
      refine rWO_mono (m_ways hW hN (hz.2.2.2.2 i hi) (by omega) (by omega)) (by omega) _ _ hI1 (fun M2 hI2 hF2 => ?_)
      rw [if_neg (by omega)]
      refine @p_if _ _ _ _ ?_ ?_
      · intro e
        have hX := rXO_mono (d' := d + 1) (m_wRows (x := x) (N := N) (r := r) (i := i + 1) (a := a + (cu B x r i a n + 1)) (n := n - (cu B x r i a n + 1)) hW hN hr (by omega) (by omega) (by omega)) (by omega) M2
        rw [show a + (cu B x r i a n + 1) + (n - (cu B x r i a n + 1)) = a + n by omega] at hX
        rw [w32_s (by omega)]
        refine hX _ hI2 (fun M3 hI3 hF3 => ?_)
        rw [if_neg (by omega)]
        rw [if_pos e]
        exact hQ _ hI3 (f196_tr hF1 (f196_tr hF2 hF3))
      · intro e
        rw [if_neg e, if_neg (by omega)]
        exact hQ _ hI2 (f196_tr hF1 hF2)
    · rintro f M1 hf ⟨hf1, hI1, hF1⟩ go
      obtain ⟨k, rfl⟩ : ∃ k, f = a + (k + 1) := ⟨f - a - 1, by omega⟩
      have hk0 := c6 k (by omega)
      refine (h_341_23_174 _ _ _ _ _ _ _ _ _).mpr (m_sign hI1.1 (by omega) (by omega) ?_)
      refine rWO_mono (m_ways hW hN (hz.2.2.2.2 i hi) (by omega) (by omega)) (by omega) _ _ hI1 (fun M2 hI2 hF2 => ?_)
      rw [w32_s (by omega)]
      refine @p_if _ _ _ _ ?_ ?_
      · intro e; exact go M2 ⟨by omega, hI2, f196_tr hF1 hF2⟩
      · intro e
        refine @p_if _ _ _ _ ?_ ?_
        · intro eg
          have hX := rXO_mono (d' := d + 1) (m_wRows (x := x) (N := N) (r := r) (i := i + 1) (a := a + (k + 1)) (n := n - (k + 1)) hW hN hr (by omega) (by omega) (by omega)) (by omega) M2
          rw [show a + (k + 1) + (n - (k + 1)) = a + n by omega] at hX
          rw [w32_s (by omega)]
          refine hX _ hI2 (fun M3 hI3 hF3 => ?_)
          have e3 : wR B x r (i + 1) (a + (k + 1)) (n - (k + 1)) = 0 := by
            rcases Nat.eq_zero_or_pos (wR B x r (i + 1) (a + (k + 1)) (n - (k + 1))) with q | q
            · exact q
            · have : 0 < wk B x r i a n k := wk_pos.mpr ⟨by omega, q⟩
              omega
          rw [e3]
          rw [if_pos (by omega)]
          exact go M3 ⟨by omega, hI3, f196_tr hF1 (f196_tr hF2 hF3)⟩
        · intro eg
          rw [if_neg eg, if_pos (by omega)]
          exact go M2 ⟨by omega, hI2, f196_tr hF1 hF2⟩
  refine @p_if _ _ _ _ ?_ ?_
  · intro e; exact main 1 (Or.inr ⟨rfl, by omega⟩)
  · intro e; exact main 0 (Or.inl ⟨rfl, by omega⟩)
theorem oI_rule {ro : List Nat} (h : oI M ro) {v : Nat} (hl : ro.length < 2147483647) : oI (am_up (am_up M 197 (M 173 44) (v : Int)) 173 44 (w32 ((M 173 44) + 1))) (ro ++ [v]) := by
  obtain ⟨h1, h2⟩ := h
  refine ⟨?_, fun j hj => ?_⟩
  · rw [up_eq, h1, w32_s hl, List.length_append]; rfl
  · rw [up_nc _ _ _ _ (by decide), up_ci, getD_snoc _ _ _ hj, h1]
    by_cases e : j = ro.length
    · subst e; rw [if_pos rfl, if_pos rfl]
    · rw [if_neg (by omega), if_neg e]
      rw [List.length_append] at hj
      have hj : j < ro.length + 1 := hj
      exact h2 j (by omega)
theorem wI_o {c j v : Int} (h : wI B x N M) : wI B x N (am_up (am_up M 197 j v) 173 44 c) := by
  obtain ⟨h1, h2, h3, h4, h5⟩ := h
  refine ⟨?_, ?_, h3, fun q hq => ?_, fun s' a' n' g1 g2 => ?_⟩
  · rw [up_nc _ _ _ _ (by decide), up_nc _ _ _ _ (by decide)]; exact h1
  · rw [up_ni _ _ _ _ (by decide), up_nc _ _ _ _ (by decide)]; exact h2
  · rw [up_nc _ _ _ _ (by decide), up_nc _ _ _ _ (by decide)]; exact h4 q hq
  · rw [up_nc _ _ _ _ (by decide), up_nc _ _ _ _ (by decide)]; exact h5 s' a' n' g1 g2
theorem oF_o {c j v : Int} : oF M (am_up (am_up M 197 j v) 173 44 c) := by
  refine ⟨fun k h1 h2 h3 => ?_, fun i h => ?_⟩
  · rw [up_nc _ _ _ _ h1, up_nc _ _ _ _ h3]
  · rw [up_ni _ _ _ _ h, up_nc _ _ _ _ (by decide)]
def pTO (B x : Nat → Nat) (N d s a n : Nat) : Prop := ∀ (M : (Nat → Int → Int)) (Q : Int → (Nat → Int → Int) → Prop) (ro : List Nat), wI B x N M → oI M ro → ro.length + (yT B x s a n).1.length ≤ 512 → (∀ M', wI B x N M' → oI M' (ro ++ nds (yT B x s a n).1) → oF M M' → Q 0 M') → am_s am_P am_gg d 342 [.inr (.inr 174), .inl (s : Int), .inl (a : Int), .inl ((a + n : Nat) : Int)] M Q
theorem pTO_mono {d' : Nat} (h : pTO B x N d s a n) (hd : d ≤ d') : pTO B x N d' s a n := fun M Q ro a b c e => am_s_mono hd (h M Q ro a b c e) (fun _ _ q => q)
theorem m_prow (hW : gW B) (hN : N ≤ 16) (hr : r < B 0) (hd : 730 ≤ d) {M0 : (Nat → Int → Int)} {e : Nat} : ∀ j i a n (M : (Nat → Int → Int)) (ro : List Nat), i + j = gsz B r → (j = 0 ∨ 0 < wR B x r i a n ∧ e = a + n) → e ≤ N → (∀ i' a' k, i ≤ i' → i' < gsz B r → (k + 1 < n ∨ k + 1 = n ∧ j = 1) → a' + (k + 1) ≤ N → 0 < wT B x (gsg B r i') a' (k + 1) → gsg B r i' < 8 → pTO B x N d (gsg B r i') a' (k + 1)) → wI B x N M → oI M ro → ro.length + (yR' B x r i a n).1.length ≤ 512 → oF M0 M → (∀ M', wI B x N M' → oI M' (ro ++ nds (yR' B x r i a n).1) → oF M0 M' → Q 0 M') → am_x am_P am_gg d am_k342 0 Q 67 [some (.inr (.inr 174)), none, none, some (.inl ((e : Int))), some (.inl ((r : Int))), some (.inl ((a : Int))), some (.inl ((i : Int))), none] [] M 0 0 := by
  obtain ⟨d, rfl⟩ : ∃ e, d = e + 1 := ⟨d - 1, by omega⟩
  have hz := hW.2.2.2.1 r hr
  have hn16 := hW.1
  intro j
  induction j with
  | zero =>
    intro i a n M ro hi hx he h hI hO hl hF hQ
    have ei : i = gsz B r := by omega
    subst ei
    refine (h_342_67_174 _ _ _ _ _ _ _).mpr (m_size hI.1 (by omega) ?_)
    rw [if_neg (by omega)]
    rw [yR_end] at hQ
    have q := hQ M hI (by show oI M (ro ++ []); rw [List.append_nil]; exact hO) hF
    exact q
  | succ j ih =>
    intro i a n M ro hi hx he h hI hO hl hF hQ
    have hx' : 0 < wR B x r i a n ∧ e = a + n := by omega
    clear hx
    obtain ⟨hx, rfl⟩ := hx'
    obtain ⟨c1, c2, c3, c4, c5, c6⟩ := cu_ok (by omega) hx
    refine (h_342_67_174 _ _ _ _ _ _ _).mpr (m_size hI.1 (by omega) ?_)
    rw [if_pos (by omega)]
    refine m_endOf hW hN hr (by omega) he (by omega) hx hI (fun M1 hI1 hF1 => ?_)
    refine m_sign hI1.1 (by omega) (by omega) ?_
    have hO1 := oI_f hO hF1
    have hst := yR_step (B := B) (x := x) (r := r) (i := i) (a := a) (n := n) (by omega)
    rw [hst] at hl hQ
    dsimp only at hl hQ
    rw [List.length_append] at hl
    have next : ∀ (M2 : (Nat → Int → Int)), wI B x N M2 → oI M2 (ro ++ nds (yT B x (gsg B r i) a (cu B x r i a n + 1)).1) → oF M0 M2 → am_x am_P am_gg (d + 1) am_k342 0 Q 67 [some (.inr (.inr 174)), none, none, some (.inl (((a + n : Nat) : Int))), some (.inl ((r : Int))), some (.inl (((a + (cu B x r i a n + 1) : Nat) : Int))), some (.inl (w32 ((i : Int) + 1))), some (.inl (((a + (cu B x r i a n + 1) : Nat) : Int)))] [] M2 0 0 := by
      intro M2 hI2 hO2 hF2
      refine am_x_le [some (.inr (.inr 174)), none, none, some (.inl (((a + n : Nat) : Int))), some (.inl ((r : Int))), some (.inl (((a + (cu B x r i a n + 1) : Nat) : Int))), some (.inl (w32 ((i : Int) + 1))), none] (am_lb_le _ _ ⟨rfl, rfl, rfl, rfl, rfl, trivial⟩) ?_
      rw [w32_s (by omega)]
      refine ih (i + 1) (a + (cu B x r i a n + 1)) (n - (cu B x r i a n + 1)) M2 _ (by omega) (Or.inr ⟨c3, by omega⟩) he (fun i' a' k a1 a2 a3 a4 a5 a6 => h i' a' k (by omega) a2 (by omega) a4 a5 a6) hI2 hO2 ?_ hF2 (fun M3 hI3 hO3 hF3 => hQ M3 hI3 ?_ hF3)
      · rw [List.length_append]; unfold nds; rw [List.length_map]; omega
      · unfold nds at hO3 ⊢; rw [List.map_append, ← List.append_assoc]; exact hO3
    refine @p_if _ _ _ _ ?_ ?_
    · intro g8
      refine m_sign hI1.1 (by omega) (by omega) ?_
      exact h i a (cu B x r i a n) (Nat.le_refl _) (by omega) (by omega) (by omega) c2 (by omega) M1 _ ro hI1 hO1 (by omega) (fun M2 hI2 hO2 hF2 => next M2 hI2 hO2 (oF_tr hF (oF_tr (f196_oF hF1) hF2)))
    · intro g8
      refine next M1 hI1 ?_ (oF_tr hF (f196_oF hF1))
      rw [yT_let (by omega)]
      show oI M1 (ro ++ [])
      rw [List.append_nil]; exact hO1
theorem m_pSym (hW : gW B) (hN : N ≤ 16) (hs : s < 8) (hn : a + n ≤ N) (hd : 730 ≤ d) (h0 : 0 < wT B x s a n) (h : ∀ r i' a' k, r < B 0 → gsy B r = s → i' < gsz B r → (k + 1 < n ∨ k + 1 = n ∧ gsz B r = 1) → a' + (k + 1) ≤ N → 0 < wT B x (gsg B r i') a' (k + 1) → gsg B r i' < 8 → pTO B x N d (gsg B r i') a' (k + 1)) : pTO B x N (d + 1) s a n := by
  intro M Q ro hI hO hl hQ
  obtain ⟨c1, c2, c3, c4, c5⟩ := ru_ok hW hs (by omega) h0
  have hn16 := hW.1
  have hy := yT_sym hW hs (by omega) h0
  rw [hy] at hl hQ
  dsimp only at hl hQ
  rw [List.length_cons] at hl
  have hn1 : 1 ≤ n := by
    rcases Nat.eq_zero_or_pos n with q | q
    · subst q; rw [wT_nil hW] at h0; omega
    · exact q
  obtain ⟨d, rfl⟩ : ∃ e, d = e + 2 := ⟨d - 2, by omega⟩
  refine (v_342_174 _ _ _ _ _ _).mpr ?_
  refine p_for (S := (Nat → Int → Int)) (X := fun f M => am_x am_P am_gg (d + 2) am_k342 0 Q 3 [some (.inr (.inr 174)), some (.inl ((s : Int))), some (.inl ((a : Int))), some (.inl (((a + n : Nat) : Int))), some (.inl (f)), none, none, none] [] M 0 0) (ru B x s a n) (fun f M' => wI B x N M' ∧ f196 M M') ?_ ?_ 0 M (by omega) ⟨hI, f196_rf⟩
  · rintro M1 ⟨hI1, hF1⟩
    refine (h_342_3_174 _ _ _ _ _ _ _).mpr (m_isOn hI1.1 hW.on (by omega) ?_ (fun q => by rw [c2] at q; cases q))
    intro _
    rw [if_neg (by omega)]
    refine m_sym hI1.1 (by omega) ?_
    rw [c3, if_pos rfl]
    refine rXO_mono (m_wRows (i := 0) hW hN c1 (by have := (hW.2.2.2.1 _ c1).2.1; omega) hn1 hn) (by omega) _ _ hI1 (fun M2 hI2 hF2 => ?_)
    rw [if_neg (by omega)]
    have hO2 := oI_f (oI_f hO hF1) hF2
    rw [if_pos (by rw [hO2.1]; omega)]
    refine am_x_le [some (.inr (.inr 174)), none, none, some (.inl (((a + n : Nat) : Int))), some (.inl ((ru B x s a n : Int))), some (.inl ((a : Int))), some (.inl (((0 : Nat) : Int))), none] (am_lb_le _ _ ⟨rfl, rfl, rfl, rfl, rfl, trivial⟩) ?_
    refine m_prow (M0 := M) hW hN c1 hd _ 0 a n _ (ro ++ [ru B x s a n]) (Nat.zero_add _) (Or.inr ⟨c4, rfl⟩) hn (fun i' a' k a1 a2 a3 a4 a5 a6 => h _ i' a' k c1 c3 a2 a3 a4 a5 a6) (wI_o hI2) (oI_rule hO2 (by omega)) ?_ (oF_tr (f196_oF (f196_tr hF1 hF2)) oF_o) (fun M3 hI3 hO3 hF3 => hQ M3 hI3 ?_ hF3)
    · rw [List.length_append, List.length_cons, List.length_nil]; omega
    · rw [List.append_assoc] at hO3; exact hO3
  · rintro f M1 hf ⟨hI1, hF1⟩ go
    have hf0 := c5 f hf
    refine (h_342_3_174 _ _ _ _ _ _ _).mpr (m_isOn hI1.1 hW.on (by omega) ?_ ?_)
    · intro ho
      rw [if_neg (by omega)]
      refine m_sym hI1.1 (by omega) ?_
      refine @p_if _ _ _ _ ?_ ?_
      · intro e
        refine rXO_mono (m_wRows (i := 0) hW hN (by omega) (by have := (hW.2.2.2.1 f (by omega)).2.1; omega) hn1 hn) (by omega) _ _ hI1 (fun M2 hI2 hF2 => ?_)
        unfold wm at hf0
        rw [if_pos ⟨ho, by omega⟩] at hf0
        rw [hf0, w32_s (by omega)]
        rw [if_pos (by omega)]
        exact go M2 ⟨hI2, f196_tr hF1 hF2⟩
      · intro e
        rw [w32_s (by omega)]
        exact go M1 ⟨hI1, hF1⟩
    · intro ho
      rw [if_pos (by omega)]
      rw [w32_s (by omega)]
      exact go M1 ⟨hI1, hF1⟩
theorem m_parse0 (hW : gW B) (hN : N ≤ 16) {pos : Nat → Nat} (hp : ∀ s, pos s < 8) (hu : ∀ r, r < B 0 → gsz B r = 1 → gsg B r 0 < 8 → pos (gsg B r 0) < pos (gsy B r)) (K : Nat) : ∀ s a n, 8 * n + pos s + 1 ≤ K → s < 8 → a + n ≤ N → 0 < wT B x s a n → pTO B x N (730 + K) s a n := by
  induction K with
  | zero => intro s a n h; omega
  | succ K ih =>
    intro s a n hK hs hn h0
    rw [show 730 + (K + 1) = 730 + K + 1 by omega]
    refine m_pSym hW hN hs hn (by omega) h0 (fun r i' a' k b1 b2 b3 b4 b5 b6 b7 => ih _ _ _ ?_ b7 b5 b6)
    have := hp (gsg B r i')
    rcases b4 with b4 | ⟨b4, b8⟩
    · omega
    · have e : i' = 0 := by omega
      subst e
      have := hu r b1 b8 b7
      rw [b2] at this
      omega
theorem m_parse (hW : gW B) (hN : N ≤ 16) (hs : s < 8) (hn : a + n ≤ N) (h0 : 0 < wT B x s a n) : pTO B x N 1000 s a n := by
  obtain ⟨pos, hp, hu⟩ := hW.2.2.2.2
  have := hp s
  exact pTO_mono (m_parse0 hW hN hp hu 150 s a n (by omega) hs hn h0) (by omega)
end S9x
