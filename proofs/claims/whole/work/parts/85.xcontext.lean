/-! the class finds CONTEXTS -/
def bX (B X : Nat → Nat) : Prop := xbd (gpos B) X ∧ X (B 2) = 0 ∧ ∀ s, s < 8 → gX B s ≤ X s
section S85
variable {B X : Nat → Nat} {M M0 : (Nat → Int → Int)} {d : Nat} {Q : Int → (Nat → Int → Int) → Prop} {r i : Nat}
theorem bX_up (hW : gW B) (hX : bX B X) (hN : ∀ s, s < 8 → X s ≤ NK) (ok : xOK B (gK B) X r i) : gX B (gsg B r i) ≤ xky B (gK B) X r i := by
  have hp := gpos_ok hW
  obtain ⟨gs, gn⟩ := gX_ok hW
  obtain ⟨b16, b4, bm⟩ := xOK_b hW hp (gK_ok hW).1.1 hX.1 ok
  obtain ⟨o1, o2, o3, o4, o5, o6, o7, o8⟩ := ok
  have hsy := (hW.2.2.2.1 r o1).1
  have le := hX.2.2 _ hsy
  have hN2 := hN _ hsy
  have q := xq_eq (B := B) (K := gK B) (X := X) (r := r) (i := i)
  have q' := xq_eq (B := B) (K := gK B) (X := gX B) (r := r) (i := i)
  have ok' : xOK B (gK B) (gX B) r i := ⟨o1, o2, o3, o4, o5, by omega, o7, by omega⟩
  have h1 := gs.2.2.2 r i ok'
  have key : ∀ a c x y : Nat, c ≤ a → x ≤ c * 64 + y → x ≤ a * 64 + y := fun a c x y p q => by omega
  exact key _ _ _ _ (by omega) h1
theorem bX_closed (hW : gW B) (hX : bX B X) (hN : ∀ s, s < 8 → X s ≤ NK) (hc : ∀ r i, xOK B (gK B) X r i → X (gsg B r i) ≤ xky B (gK B) X r i) : ∀ v s, s < 8 → gX B s < v → v ≤ NK → X s ≤ gX B s := by
  have hp := gpos_ok hW
  obtain ⟨gs, gn⟩ := gX_ok hW
  intro v
  induction v using Nat.strongRecOn with
  | ind v ih =>
    intro s hs hv hN'
    by_cases e : s = B 2
    · rw [e, hX.2.1]; exact Nat.zero_le _
    · obtain ⟨r, i, ok, hg, hk⟩ := gs.2.2.1 s hs e (by omega)
      obtain ⟨b16, b4, bm⟩ := xOK_b hW hp (gK_ok hW).1.1 gs.1 ok
      obtain ⟨o1, o2, o3, o4, o5, o6, o7, o8⟩ := ok
      have hsy := (hW.2.2.2.1 r o1).1
      have up := xky_up (B := B) (K := gK B) (X := gX B) (r := r) (i := i)
      have le := ih (gX B (gsy B r) + 1) (by omega) _ hsy (by omega) (by omega)
      have q := xq_eq (B := B) (K := gK B) (X := X) (r := r) (i := i)
      have q' := xq_eq (B := B) (K := gK B) (X := gX B) (r := r) (i := i)
      have ok' : xOK B (gK B) X r i := ⟨o1, o2, o3, o4, o5, by omega, o7, by omega⟩
      have h1 := hc r i ok'
      rw [hg] at h1
      rw [hk]
      have key : ∀ a c x y : Nat, c ≤ a → x ≤ c * 64 + y → x ≤ a * 64 + y := fun a c x y p q => by omega
      exact key _ _ _ _ (by omega) h1
theorem bX_take (hW : gW B) (hX : bX B X) (hN : ∀ s, s < 8 → X s ≤ NK) (ok : xOK B (gK B) X r i) : bX B (gU X (gsg B r i) (xky B (gK B) X r i)) := by
  have hp := gpos_ok hW
  have hb := (gK_ok hW).1.1
  obtain ⟨b16, b4, bm⟩ := xOK_b hW hp hb hX.1 ok
  obtain ⟨d1, d2, d3, d4⟩ := xky_dec b16 b4 bm
  have row := xb_row hW hp hb hX.1 ok.1 ok.2.2.1 ok.2.2.2.1 ok.2.2.2.2.2.1 ok.2.2.2.2.2.2.1
  refine ⟨fun s hs q => ?_, ?_, fun s hs => ?_⟩
  · by_cases e : s = gsg B r i
    · subst e; rw [gU_eq, d1, d2]; exact ⟨ok.2.2.2.2.2.2.2, row⟩
    · rw [gU_ne e] at q ⊢; exact hX.1 s hs q
  · rw [gU_ne (fun z => ok.2.2.2.2.1 z.symm)]; exact hX.2.1
  · by_cases e : s = gsg B r i
    · subst e; rw [gU_eq]; exact bX_up hW hX hN ok
    · rw [gU_ne e]; exact hX.2.2 s hs
theorem x_hasContext (h : kA 24 X M) {s : Nat} (hs : s < 8) (h1 : X s ≠ NK → Q 1 M) (h0 : X s = NK → Q 0 M) : am_s am_P am_gg (d + 1) 23 [.inr (.inr 23), .inl (s : Int)] M Q := by
  have hN := NK_eq
  obtain ⟨e, le⟩ := h s hs
  refine (v_23_23 _ _ _ _).mpr ?_
  rw [e]
  rw [if_pos (by omega)]
  refine @p_if _ _ _ _ ?_ ?_
  · intro q; exact h0 (by omega)
  · intro q; exact h1 (by omega)
theorem x_contextCost (h : kA 24 X M) {s : Nat} (hs : s < 8) (hQ : Q ((X s / 262144 : Nat) : Int) M) : am_s am_P am_gg (d + 1) 24 [.inr (.inr 23), .inl (s : Int)] M Q := by
  have hN := NK_eq
  obtain ⟨e, le⟩ := h s hs
  refine (v_24_23 _ _ _ _).mpr ?_
  rw [e]
  rw [if_pos (by omega)]
  rw [show (18 : Int) = ((18 : Nat) : Int) from rfl, shr_div (by omega) (by omega)]; exact hQ
theorem x_contextRules (h : kA 24 X M) {s : Nat} (hs : s < 8) (hQ : Q ((X s / 64 % 4096 : Nat) : Int) M) : am_s am_P am_gg (d + 1) 25 [.inr (.inr 23), .inl (s : Int)] M Q := by
  have hN := NK_eq
  obtain ⟨e, le⟩ := h s hs
  refine (v_25_23 _ _ _ _).mpr ?_
  rw [e]
  rw [if_pos (by omega)]
  rw [show (6 : Int) = ((6 : Nat) : Int) from rfl, shr_div (by omega) (by omega), show (4095 : Int) = ((2 ^ 12 - 1 : Nat) : Int) from rfl, and_mod (by omega) (by omega)]; exact hQ
theorem x_contextRule (hg : xgb B M 2) (h : kA 24 X M) {s : Nat} (hs : s < 8) (h2 : s ≠ B 2) (hQ : Q ((X s / 4 % 16 : Nat) : Int) M) : am_s am_P am_gg (d + 1) 26 [.inr (.inr 23), .inl (s : Int)] M Q := by
  have hN := NK_eq
  obtain ⟨e, le⟩ := h s hs
  refine (v_26_23 _ _ _ _).mpr ?_
  rw [xg_rt hg, e]
  rw [if_neg (by omega)]
  rw [if_pos (by omega)]
  rw [show (2 : Int) = ((2 : Nat) : Int) from rfl, shr_div (by omega) (by omega), show (15 : Int) = ((2 ^ 4 - 1 : Nat) : Int) from rfl, and_mod (by omega) (by omega)]; exact hQ
theorem x_contextPlace (hg : xgb B M 2) (h : kA 24 X M) {s : Nat} (hs : s < 8) (h2 : s ≠ B 2) (hQ : Q ((X s % 4 : Nat) : Int) M) : am_s am_P am_gg (d + 1) 27 [.inr (.inr 23), .inl (s : Int)] M Q := by
  have hN := NK_eq
  obtain ⟨e, le⟩ := h s hs
  refine (v_27_23 _ _ _ _).mpr ?_
  rw [xg_rt hg, e]
  rw [if_neg (by omega)]
  rw [if_pos (by omega)]
  rw [show (3 : Int) = ((2 ^ 2 - 1 : Nat) : Int) from rfl, and_mod (by omega) (by omega)]; exact hQ
theorem mis_le (hW : gW B) {K : Nat → Nat} (hr : r < B 0) : mis B K r ≤ 4 := by
  have z := (hW.2.2.2.1 r hr).2.2.1
  have a3 := sm_le (f := fun i => ms K (gsg B r i)) (a := 1) (n := gsz B r) (fun j hj => by
    unfold ms; split
    · split <;> omega
    · omega)
  unfold mis; omega
theorem x_isFrame (hW : gW B) (hg : xgb B M 2) (hK : kA 23 (gK B) M) (hX : kA 24 X M) (hrow : kRow B (gK B) M r) (hr : r < B 0) (hi : i < gsz B r) (h8 : gsg B r i < 8) (h1 : avb B (gK B) r (i : Int) → X (gsy B r) ≠ NK → Q 1 M) (h0 : ¬ (avb B (gK B) r (i : Int) ∧ X (gsy B r) ≠ NK) → Q 0 M) : am_s am_P am_gg (d + 2) 30 [.inr (.inr 23), .inl (r : Int), .inl (i : Int)] M Q := by
  have hn := hW.1
  have hsy := (hW.2.2.2.1 r hr).1
  have ml := mis_le (K := gK B) hW hr
  have mb := mis_but (K := gK B) hi h8
  refine (v_30_23 _ _ _ _ _).mpr (x_signAt hg hW hr hi ?_)
  rw [if_pos (by omega)]
  have tail : avb B (gK B) r (i : Int) → am_s am_P am_gg (d + 1) 23 [.inr (.inr 23), .inl (M 3 (r : Int))] M (fun r3 M3 => if r3 = 0 then Q 0 M3 else Q 1 M3) := by
    intro hav
    rw [xg_sy hg hr]
    refine x_hasContext hX hsy ?_ ?_
    · intro q; rw [if_neg (by omega)]; exact h1 hav q
    · intro q; rw [if_pos (by omega)]; exact h0 (fun z => z.2 q)
  refine x_hasYield hK h8 ?_ ?_
  · intro hne
    rw [if_neg (by omega)]
    have m0 : ms (gK B) (gsg B r i) = 0 := by unfold ms; rw [if_pos h8, if_neg hne]
    rw [hrow.2.2, show w32 ((mis B (gK B) r : Int) - 0) = (mis B (gK B) r : Int) by rw [w32_i (by omega) (by omega)]; omega]
    refine @p_if _ _ _ _ ?_ ?_
    · intro q
      rw [if_pos (by omega)]
      exact tail (mb.mp (by omega))
    · intro q
      exact h0 (fun z => q (by have := mb.mpr z.1; omega))
  · intro heq
    rw [if_pos (by omega)]
    have m1 : ms (gK B) (gsg B r i) = 1 := by unfold ms; rw [if_pos h8, if_pos heq]
    rw [hrow.2.2, w32_i (by omega) (by omega)]
    refine @p_if _ _ _ _ ?_ ?_
    · intro q
      rw [if_pos (by omega)]
      exact tail (mb.mp (by omega))
    · intro q
      exact h0 (fun z => q (by have := mb.mpr z.1; omega))
theorem cx_small {K : Nat → Nat} {g : Nat} (h : g < 8 → K g ≤ NK) : cx K g ≤ 32768 ∧ mx K g ≤ 4096 := by
  have := NK_eq
  unfold cx mx
  by_cases h8 : g < 8
  · have := h h8
    rw [if_pos h8, if_pos h8]; split <;> omega
  · rw [if_neg h8, if_neg h8]; omega
theorem rcx_small (hW : gW B) {K : Nat → Nat} (h : ∀ s, s < 8 → K s ≤ NK) (hr : r < B 0) : rcx B K r ≤ 200000 ∧ rmx B K r ≤ 20000 := by
  obtain ⟨-, -, z, w, -⟩ := hW.2.2.2.1 r hr
  have a1 := sm_le (f := fun i => cx K (gsg B r i)) (a := 32768) (n := gsz B r) (fun j hj => (cx_small (fun h8 => h _ h8)).1)
  have a2 := sm_le (f := fun i => mx K (gsg B r i)) (a := 4096) (n := gsz B r) (fun j hj => (cx_small (fun h8 => h _ h8)).2)
  unfold rcx rmx; omega
theorem x_frameCost (hW : gW B) (hg : xgb B M 2) (hK : kA 23 (gK B) M) (hX : kA 24 X M) (hrow : kRow B (gK B) M r) (hr : r < B 0) (hi : i < gsz B r) (h8 : gsg B r i < 8) (hav : avb B (gK B) r (i : Int)) (hQ : Q (xcc B (gK B) X r i : Int) M) : am_s am_P am_gg (d + 2) 31 [.inr (.inr 23), .inl (r : Int), .inl (i : Int)] M Q := by
  have hn := hW.1
  have hN := NK_eq
  have hsy := (hW.2.2.2.1 r hr).1
  obtain ⟨e1, e2⟩ := rcx_but hi hav
  obtain ⟨s1, s2⟩ := rcx_small hW (K := gK B) (fun s hs => (hK s hs).2) hr
  have xn := (hX _ hsy).2
  refine (v_31_23 _ _ _ _ _).mpr ?_
  rw [xg_sy hg hr]
  rw [if_pos (by omega)]
  refine x_contextCost hX hsy ?_
  rw [if_pos (by omega)]
  refine x_signAt hg hW hr hi (x_yieldCost hK h8 ?_)
  rw [hrow.1, w32_a (by omega)]
  rw [show w32 (((X (gsy B r) / 262144 + rcx B (gK B) r : Nat) : Int) - (cx (gK B) (gsg B r i) : Int)) = (xcc B (gK B) X r i : Int) by rw [w32_i (by omega) (by omega)]; unfold xcc; omega]
  exact hQ
theorem x_frameRules (hW : gW B) (hg : xgb B M 2) (hK : kA 23 (gK B) M) (hX : kA 24 X M) (hrow : kRow B (gK B) M r) (hr : r < B 0) (hi : i < gsz B r) (h8 : gsg B r i < 8) (hav : avb B (gK B) r (i : Int)) (hQ : Q (xmm B (gK B) X r i : Int) M) : am_s am_P am_gg (d + 2) 32 [.inr (.inr 23), .inl (r : Int), .inl (i : Int)] M Q := by
  have hn := hW.1
  have hN := NK_eq
  have hsy := (hW.2.2.2.1 r hr).1
  obtain ⟨e1, e2⟩ := rcx_but hi hav
  obtain ⟨s1, s2⟩ := rcx_small hW (K := gK B) (fun s hs => (hK s hs).2) hr
  have xn := (hX _ hsy).2
  refine (v_32_23 _ _ _ _ _).mpr ?_
  rw [xg_sy hg hr]
  rw [if_pos (by omega)]
  refine x_contextRules hX hsy ?_
  rw [if_pos (by omega)]
  refine x_signAt hg hW hr hi (x_yieldRules hK h8 ?_)
  rw [hrow.2.1, w32_a (by omega)]
  rw [show w32 (((X (gsy B r) / 64 % 4096 + rmx B (gK B) r : Nat) : Int) - (mx (gK B) (gsg B r i) : Int)) = (xmm B (gK B) X r i : Int) by rw [w32_i (by omega) (by omega)]; unfold xmm; omega]
  exact hQ
/-- of the class's cells the contexts' keys alone change -/
def xKF (M M' : (Nat → Int → Int)) : Prop := ∀ c, c ≠ 24 → M' c = M c
/-- the state of a pass: n rounds are through, the places ahead of t are looked at -/
def xI (B : Nat → Nat) (M0 M : (Nat → Int → Int)) (n t : Nat) (fl : Int) (X : Nat → Nat) : Prop := xKF M0 M ∧ kA 24 X M ∧ bX B X ∧ (∀ s, s < 8 → rk (gX B) s < n → X s = gX B s) ∧ (∀ s, s < 8 → rk (gX B) s < n + 1 → gX B s ≠ NK → gX B s % 64 < t → X s = gX B s) ∧ (8 ≤ n → fl = 0) ∧ (fl = 0 → ∀ r i, r * 4 + i < t → xOK B (gK B) X r i → X (gsg B r i) ≤ xky B (gK B) X r i)
/-- of a symbol that is not START: the place that gives its key, what is above it being final -/
theorem x_own2 (hW : gW B) {n : Nat} (hb : bX B X) (fi : ∀ s, s < 8 → rk (gX B) s < n → X s = gX B s) {s : Nat} (hs : s < 8) (hrk : rk (gX B) s < n + 1) (hne : gX B s ≠ NK) (h2 : s ≠ B 2) : xOK B (gK B) X (gX B s / 4 % 16) (gX B s % 4) ∧ xky B (gK B) X (gX B s / 4 % 16) (gX B s % 4) = gX B s ∧ gsg B (gX B s / 4 % 16) (gX B s % 4) = s := by
  have hp := gpos_ok hW
  obtain ⟨gs, gn⟩ := gX_ok hW
  obtain ⟨r, i, ok, hg, hk⟩ := gs.2.2.1 s hs h2 hne
  obtain ⟨b16, b4, bm⟩ := xOK_b hW hp (gK_ok hW).1.1 gs.1 ok
  obtain ⟨d1, d2, d3, d4⟩ := xky_dec b16 b4 bm
  have up := xky_up (B := B) (K := gK B) (X := gX B) (r := r) (i := i)
  rw [hk, d3, d4]
  have hsy := (hW.2.2.2.1 r ok.1).1
  have same : X (gsy B r) = gX B (gsy B r) := fi _ hsy (by have := rk_lt (K := gX B) (a := gsy B r) (b := s) (by omega) hsy; omega)
  have c1 : xcc B (gK B) X r i = xcc B (gK B) (gX B) r i := by unfold xcc; rw [same]
  have c2 : xmm B (gK B) X r i = xmm B (gK B) (gX B) r i := by unfold xmm; rw [same]
  obtain ⟨o1, o2, o3, o4, o5, o6, o7, o8⟩ := ok
  exact ⟨⟨o1, o2, o3, o4, o5, by rw [same]; exact o6, o7, by rw [c1]; exact o8⟩, by unfold xky; rw [c1, c2], hg⟩
theorem xI_skip (hW : gW B) {n t t' : Nat} {fl : Int} (h : xI B M0 M n t fl X) (ht : t ≤ t') (hs : ∀ r i, t ≤ r * 4 + i → r * 4 + i < t' → i < 4 → xOK B (gK B) X r i → X (gsg B r i) ≤ xky B (gK B) X r i) : xI B M0 M n t' fl X := by
  obtain ⟨f, a, b, fi, fi2, f8, cl⟩ := h
  have ok4 : ∀ r i, xOK B (gK B) X r i → i < 4 := fun r i o => by
    have z1 := (hW.2.2.2.1 r o.1).2.2.1
    have z2 := o.2.2.1
    omega
  refine ⟨f, a, b, fi, fun s hs8 hrk hne hlt => ?_, f8, fun z r i hr o => ?_⟩
  · by_cases q : gX B s % 64 < t
    · exact fi2 s hs8 hrk hne q
    · have le := b.2.2 s hs8
      by_cases h2 : s = B 2
      · rw [h2, b.2.1, (gX_ok hW).1.2.1]
      · obtain ⟨o, hk, hg⟩ := x_own2 hW b fi hs8 hrk hne h2
        have h1 := hs _ _ (by omega) (by omega) (by omega) o
        rw [hg, hk] at h1
        omega
  · by_cases q : r * 4 + i < t
    · exact cl z r i q o
    · exact hs r i (by omega) hr (ok4 r i o) o
end S85
