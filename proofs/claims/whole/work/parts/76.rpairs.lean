/-! the reference numbers PAIRS -/
def isP (B K X : Nat → Nat) (c : Nat) : Prop := c / 64 < B 0 ∧ gon B (c / 64) = true ∧ X (gsy B (c / 64)) ≠ NK ∧ c / 16 % 4 < gsz B (c / 64) ∧ gsg B (c / 64) (c / 16 % 4) < 8 ∧ c % 16 < B 0 ∧ gsy B (c % 16) = gsg B (c / 64) (c / 16 % 4) ∧ gon B (c % 16) = true ∧ avb B K (c % 16) (-1) ∧ avb B K (c / 64) ((c / 16 % 4 : Nat) : Int) ∧ rc B K (c % 16) + xcc B K X (c / 64) (c / 16 % 4) ≤ 200
noncomputable def pB (B K X : Nat → Nat) (c : Nat) : Bool := @decide (isP B K X c) (Classical.propDecidable _)
def pco (B K X : Nat → Nat) (c : Nat) : Nat := rc B K (c % 16) + xcc B K X (c / 64) (c / 16 % 4)
/-- the pairs below a code are numbered -/
def pI (B K X : Nat → Nat) (t : Nat) (M : (Nat → Int → Int)) : Prop := M 173 34 = (cnt (pB B K X) t : Int) ∧ (∀ c : Nat, c < 1024 → M 190 (c : Int) = if c < t ∧ pB B K X c = true then (cnt (pB B K X) c : Int) else -1) ∧ ∀ c : Nat, c < t → pB B K X c = true → M 187 ((cnt (pB B K X) c : Nat) : Int) = (c : Int) ∧ M 188 ((cnt (pB B K X) c : Nat) : Int) = (pco B K X c : Int) ∧ bR M (cnt (pB B K X) c) (hP B K X c)
def pF (M M' : (Nat → Int → Int)) : Prop := (∀ c, c ≠ 173 → c < 187 ∨ 190 < c → M' c = M c) ∧ ∀ i : Int, i ≠ 26 → i ≠ 27 → i ≠ 34 → M' 173 i = M 173 i
section S76
variable {B K X pos : Nat → Nat} {M M' : (Nat → Int → Int)} {d : Nat} {Q : Int → (Nat → Int → Int) → Prop} {t : Nat}
theorem pB_iff {c : Nat} : pB B K X c = true ↔ isP B K X c := by unfold pB; simp
theorem cnt_s {p : Nat → Bool} {n : Nat} : cnt p (n + 1) = cnt p n + (if p n = true then 1 else 0) := rfl
theorem cnt_skip {p : Nat → Bool} {t : Nat} : ∀ {t' : Nat}, t ≤ t' → (∀ c, t ≤ c → c < t' → p c = false) → cnt p t' = cnt p t
  | 0, h, _ => by have : t = 0 := by omega
                  subst this; rfl
  | t' + 1, h, hs => by
    by_cases e : t = t' + 1
    · subst e; rfl
    · rw [cnt_s, hs t' (by omega) (by omega), cnt_skip (t' := t') (by omega) (fun c a b => hs c a (by omega))]; rfl
theorem cnt_lt_of {p : Nat → Bool} {c : Nat} (hc : p c = true) : ∀ {n : Nat}, c < n → cnt p c < cnt p n
  | n + 1, h => by
    rw [cnt_s]
    by_cases e : c = n
    · subst e; rw [hc]; simp
    · have := cnt_lt_of hc (n := n) (by omega); omega
theorem cnt_le_of {p : Nat → Bool} {c : Nat} : ∀ {n : Nat}, c ≤ n → cnt p c ≤ cnt p n
  | 0, h => by have : c = 0 := by omega
               subst this; exact Nat.le_refl _
  | n + 1, h => by
    by_cases e : c = n + 1
    · subst e; exact Nat.le_refl _
    · have := cnt_le_of (p := p) (c := c) (n := n) (by omega); rw [cnt_s]; omega
theorem pI_cong (h : pI B K X t M) (e34 : M' 173 34 = M 173 34) (e7 : M' 187 = M 187) (e8 : M' 188 = M 188) (e9 : M' 189 = M 189) (e0 : M' 190 = M 190) : pI B K X t M' := by
  obtain ⟨h1, h2, h3⟩ := h
  refine ⟨by rw [e34]; exact h1, fun c hc => by rw [e0]; exact h2 c hc, fun c hc hp => ?_⟩
  obtain ⟨a, b, c3⟩ := h3 c hc hp
  exact ⟨by rw [e7]; exact a, by rw [e8]; exact b, fun w hw => by rw [e9]; exact c3 w hw⟩
theorem pI_skip {t' : Nat} (h : pI B K X t M) (ht : t ≤ t') (hs : ∀ c, t ≤ c → c < t' → ¬ isP B K X c) : pI B K X t' M := by
  have hf : ∀ c, t ≤ c → c < t' → pB B K X c = false := fun c a b => by
    cases e : pB B K X c with
    | false => rfl
    | true => exact absurd (pB_iff.mp e) (hs c a b)
  obtain ⟨h1, h2, h3⟩ := h
  refine ⟨by rw [cnt_skip ht hf]; exact h1, fun c hc => ?_, fun c hc hp => ?_⟩
  · rw [h2 c hc]
    by_cases q : c < t
    · by_cases z : pB B K X c = true
      · rw [if_pos ⟨q, z⟩, if_pos ⟨by omega, z⟩]
      · rw [if_neg (fun y => z y.2), if_neg (fun y => z y.2)]
    · rw [if_neg (fun y => q y.1), if_neg (fun y => by rw [hf c (by omega) y.1] at y; cases y.2)]
  · by_cases q : c < t
    · exact h3 c q hp
    · rw [hf c (by omega) hc] at hp; cases hp
theorem pI_take (h : pI B K X t M) (ht : t < 1024) (hP1 : isP B K X t) (e34 : M' 173 34 = ((cnt (pB B K X) t + 1 : Nat) : Int)) (e0 : ∀ j : Int, M' 190 j = if j = (t : Int) then (cnt (pB B K X) t : Int) else M 190 j) (e7 : ∀ j : Int, M' 187 j = if j = (cnt (pB B K X) t : Int) then (t : Int) else M 187 j) (e8 : ∀ j : Int, M' 188 j = if j = (cnt (pB B K X) t : Int) then (pco B K X t : Int) else M 188 j) (e9 : ∀ j : Int, j < ((32 * cnt (pB B K X) t : Nat) : Int) ∨ ((32 * cnt (pB B K X) t + 32 : Nat) : Int) ≤ j → M' 189 j = M 189 j) (hb : bR M' (cnt (pB B K X) t) (hP B K X t)) : pI B K X (t + 1) M' := by
  have hp := pB_iff.mpr hP1
  obtain ⟨h1, h2, h3⟩ := h
  refine ⟨?_, fun c hc => ?_, fun c hc hpc => ?_⟩
  · rw [e34, cnt_s, hp]; simp
  · rw [e0]
    by_cases q : c = t
    · subst q; rw [if_pos rfl, if_pos ⟨by omega, hp⟩]
    · rw [if_neg (by omega), h2 c hc]
      by_cases z : c < t ∧ pB B K X c = true
      · rw [if_pos z, if_pos ⟨by omega, z.2⟩]
      · rw [if_neg z, if_neg (fun y => z ⟨by omega, y.2⟩)]
  · by_cases q : c = t
    · subst q
      exact ⟨by rw [e7, if_pos rfl], by rw [e8, if_pos rfl], hb⟩
    · obtain ⟨a, b, c3⟩ := h3 c (by omega) hpc
      have := cnt_lt_of hpc (n := t) (by omega)
      refine ⟨by rw [e7, if_neg (by omega)]; exact a, by rw [e8, if_neg (by omega)]; exact b, fun w hw => ?_⟩
      rw [e9 _ (by omega)]
      exact c3 w hw
theorem xR_c (hx : xR B X M) {s : Nat} (hs : s < 8) (hN : X s ≠ NK) : M 182 (s : Int) = ((X s / 262144 : Nat) : Int) ∧ M 183 (s : Int) = ((X s / 64 % 4096 : Nat) : Int) ∧ X s < NK := by
  obtain ⟨q0, q1, q2, -⟩ := (hx s hs).resolve_left (fun z => hN z.1); exact ⟨q1, q2, q0⟩
theorem rcb_small (hW : gW B) (hy : yR K M) {r : Nat} (hr : r < B 0) (b : Int) : rcb B K r b ≤ 200000 := by
  have hNK := NK_eq
  unfold rcb
  have z4 := (hW.2.2.2.1 r hr).2.2.1
  have a1 := sm_le (f := fun j => if (j : Int) = b then 0 else cq K (gsg B r j)) (a := 32768) (n := gsz B r) (fun j hj => by
    split
    · omega
    · unfold cq; split
      · rename_i g8
        rcases hy _ g8 with q | q <;> omega
      · omega)
  have := (hW.2.2.2.1 r hr).2.2.2.1
  omega
theorem m_laysPair (hW : gW B) (hp : ypos B pos) (hy : ySol B pos K) (hx : xSol B pos K X) {r i o : Nat} (hr : r < B 0) (hon : gon B r = true) (hi : i < gsz B r) (h8 : gsg B r i < 8) (hN : X (gsy B r) ≠ NK) (ho : o < B 0) (hso : gsy B o = gsg B r i) (hB : rb (M 174) 0 B) (hR : yR K M) (hxR : xR B X M) (hI : pI B K X (cde r i o) M) (hQ : ∀ M', pF M M' → pI B K X (cde r i o + 1) M' → Q 0 M') : am_s am_P am_gg (d + 24) 276 [.inr (.inr 174), .inl (r : Int), .inl (i : Int), .inl (o : Int)] M Q := by
  have hNK := NK_eq
  have hn16 := hW.1
  obtain ⟨hsy, hz, hz4, -, hs⟩ := hW.2.2.2.1 r hr
  have c1 : cde r i o / 64 = r := by unfold cde; omega
  have c2 : cde r i o / 16 % 4 = i := by unfold cde; omega
  have c3 : cde r i o % 16 = o := by unfold cde; omega
  have c4 := cde_lt (r := r) (i := i) (o := o) (by omega) (by omega) (by omega)
  have isPe : isP B K X (cde r i o) ↔ gon B o = true ∧ avb B K o (-1) ∧ avb B K r (i : Int) ∧ rc B K o + xcc B K X r i ≤ 200 := by
    unfold isP; rw [c1, c2, c3]
    exact ⟨fun ⟨_, _, _, _, _, _, _, a, b, c, e⟩ => ⟨a, b, c, e⟩, fun ⟨a, b, c, e⟩ => ⟨hr, hon, hN, hi, h8, ho, hso, a, b, c, e⟩⟩
  have out : ∀ M', fr3 26 27 M M' → ¬ isP B K X (cde r i o) → Q 0 M' := by
    intro M' f no
    refine hQ M' ⟨fun c a _ => f.1 c a, fun j a b _ => f.2 j (by omega)⟩ ?_
    refine pI_cong (pI_skip hI (by omega) (fun c a b => ?_)) (f.2 34 (by omega)) (f.1 _ (by decide)) (f.1 _ (by decide)) (f.1 _ (by decide)) (f.1 _ (by decide))
    rw [show c = cde r i o by omega]; exact no
  refine (v_276_174 _ _ _ _ _ _).mpr ?_
  refine m_isOn hB hW.on (by omega) ?_ ?_
  · intro hoo
    rw [if_neg (by omega)]
    refine m_sums hW hB hR ho ?_ ?_
    · intro M1 f1 hav
      rw [if_pos (by omega)]
      exact out M1 f1 (fun z => hav (isPe.mp z).2.1)
    · intro M1 f1 hav e26 e27
      rw [if_neg (by omega)]
      have hB1 : rb (M1 174) 0 B := by rw [f1.1 174 (by decide)]; exact hB
      have hR1 := yR_eq hR (f1.1 179 (by decide)) (f1.1 180 (by decide)) (f1.1 181 (by decide))
      refine m_sums hW hB1 hR1 hr ?_ ?_
      · intro M2 f2 hav2
        rw [if_pos (by omega)]
        exact out M2 (fr3_tr f1 f2) (fun z => hav2 (isPe.mp z).2.2.1)
      · intro M2 f2 hav2 g26 g27
        have f12 := fr3_tr f1 f2
        rw [if_neg (by omega)]
        have hB2 : rb (M2 174) 0 B := by rw [f12.1 174 (by decide)]; exact hB
        have hR2 := yR_eq hR (f12.1 179 (by decide)) (f12.1 180 (by decide)) (f12.1 181 (by decide))
        have hX2 := xR_eq hxR (f12.1 182 (by decide)) (f12.1 183 (by decide)) (f12.1 184 (by decide)) (f12.1 185 (by decide))
        refine m_sym hB2 (by omega) ?_
        rw [if_pos (by omega)]
        have b1 := rcb_small hW hR ho (-1)
        have b2 := rcb_small hW hR hr (i : Int)
        obtain ⟨q1, -, q3⟩ := xR_c hX2 hsy hN
        have hxc : xcc B K X r i = X (gsy B r) / 262144 + rcb B K r (i : Int) := rfl
        have hrc : rc B K o = rcb B K o (-1) := rfl
        rw [e26, g26, q1, show w32 ((rcb B K r (i : Int) : Int) + ((X (gsy B r) / 262144 : Nat) : Int)) = (xcc B K X r i : Int) by rw [w32_i (by omega) (by omega)]; omega, show w32 ((rcb B K o (-1) : Int) + (xcc B K X r i : Int)) = ((rc B K o + xcc B K X r i : Nat) : Int) by rw [w32_i (by omega) (by omega)]; omega]
        refine @p_if _ _ _ _ ?_ ?_
        · intro q
          exact out M2 f12 (fun z => by have := (isPe.mp z).2.2.2; omega)
        · intro q
          have yes : isP B K X (cde r i o) := isPe.mpr ⟨hoo, hav, hav2, by omega⟩
          have e34 : M2 173 34 = (cnt (pB B K X) (cde r i o) : Int) := by rw [f12.2 34 (by omega)]; exact hI.1
          have ck := cnt_le (p := pB B K X) (cde r i o)
          refine m_code (by omega) (by omega) (by omega) ?_
          rw [e34]
          rw [if_pos (by omega)]
          rw [if_pos (by omega)]
          refine m_code (by omega) (by omega) (by omega) ?_
          rw [if_pos (by omega)]
          rw [show am_up (am_up M2 187 ((cnt (pB B K X) (cde r i o) : Nat) : Int) (cde r i o : Int)) 188 ((cnt (pB B K X) (cde r i o) : Nat) : Int) ((rc B K o + xcc B K X r i : Nat) : Int) 173 34 = (cnt (pB B K X) (cde r i o) : Int) by rw [up_nc _ _ _ _ (by decide), up_nc _ _ _ _ (by decide)]; exact e34]
          generalize hM3 : am_up (am_up (am_up M2 187 ((cnt (pB B K X) (cde r i o) : Nat) : Int) (cde r i o : Int)) 188 ((cnt (pB B K X) (cde r i o) : Nat) : Int) ((rc B K o + xcc B K X r i : Nat) : Int)) 190 (cde r i o : Int) (cnt (pB B K X) (cde r i o) : Int) = M3
          have o3 : ∀ c, c ≠ 187 → c ≠ 188 → c ≠ 190 → M3 c = M2 c := fun c x y z => by rw [← hM3, up_nc _ _ _ _ z, up_nc _ _ _ _ y, up_nc _ _ _ _ x]
          refine m_laysBits hW hp hy hx (by omega) hr hi ho hN hav2 hav (by rw [o3 174 (by decide) (by decide) (by decide)]; exact hB2) (yR_eq hR2 (o3 179 (by decide) (by decide) (by decide)) (o3 180 (by decide) (by decide) (by decide)) (o3 181 (by decide) (by decide) (by decide))) (xR_eq hX2 (o3 182 (by decide) (by decide) (by decide)) (o3 183 (by decide) (by decide) (by decide)) (o3 184 (by decide) (by decide) (by decide)) (o3 185 (by decide) (by decide) (by decide))) (fun M4 f4 b4 => ?_)
          have m34 : M4 173 34 = (cnt (pB B K X) (cde r i o) : Int) := by rw [f4.1 173 (by decide), o3 173 (by decide) (by decide) (by decide)]; exact e34
          rw [m34, w32_s (by omega)]
          have cell : ∀ c, c ≠ 173 → c < 187 ∨ 190 < c → M4 c = M c := fun c a b => by rw [f4.1 c (by omega), o3 c (by omega) (by omega) (by omega)]; exact f12.1 c a
          refine hQ _ ⟨fun c a b => by rw [up_nc _ _ _ _ a]; exact cell c a b, fun j a b e => by rw [up_ni _ _ _ _ e, f4.1 173 (by decide), o3 173 (by decide) (by decide) (by decide)]; exact f12.2 j (by omega)⟩ ?_
          refine pI_take hI c4 yes (up_eq _ _ _ _) (fun j => ?_) (fun j => ?_) (fun j => ?_) (fun j hj => ?_) (fun w hw => ?_)
          · rw [up_nc _ _ _ _ (by decide), f4.1 190 (by decide), ← hM3, up_ci, up_nc _ _ _ _ (by decide), up_nc _ _ _ _ (by decide), f12.1 190 (by decide)]
          · rw [up_nc _ _ _ _ (by decide), f4.1 187 (by decide), ← hM3, up_nc _ _ _ _ (by decide), up_nc _ _ _ _ (by decide), up_ci, f12.1 187 (by decide)]
          · rw [up_nc _ _ _ _ (by decide), f4.1 188 (by decide), ← hM3, up_nc _ _ _ _ (by decide), up_ci, up_nc _ _ _ _ (by decide), f12.1 188 (by decide)]
            unfold pco; rw [c1, c2, c3]
          · rw [up_nc _ _ _ _ (by decide), f4.2 j hj, o3 189 (by decide) (by decide) (by decide), f12.1 189 (by decide)]
          · rw [up_nc _ _ _ _ (by decide)]; exact b4 w hw
  · intro hoo
    rw [if_pos (by omega)]
    exact out M fr3_rf (fun z => by rw [(isPe.mp z).1] at hoo; cases hoo)
theorem pF_rf : pF M M := ⟨fun _ _ _ => rfl, fun _ _ _ _ => rfl⟩
theorem pF_tr {M1 M2 M3 : (Nat → Int → Int)} (h : pF M1 M2) (g : pF M2 M3) : pF M1 M3 := ⟨fun c a b => (g.1 c a b).trans (h.1 c a b), fun j a b e => (g.2 j a b e).trans (h.2 j a b e)⟩
theorem pF_R {M1 : (Nat → Int → Int)} (f : pF M M1) (hB : rb (M 174) 0 B) (hR : yR K M) (hxR : xR B X M) : rb (M1 174) 0 B ∧ yR K M1 ∧ xR B X M1 :=
  ⟨by rw [f.1 174 (by decide) (by decide)]; exact hB, yR_eq hR (f.1 179 (by decide) (by decide)) (f.1 180 (by decide) (by decide)) (f.1 181 (by decide) (by decide)), xR_eq hxR (f.1 182 (by decide) (by decide)) (f.1 183 (by decide) (by decide)) (f.1 184 (by decide) (by decide)) (f.1 185 (by decide) (by decide))⟩
theorem m_laysPairs (hW : gW B) (hp : ypos B pos) (hy : ySol B pos K) (hx : xSol B pos K X) {M0 : (Nat → Int → Int)} (hB0 : rb (M0 174) 0 B) (hR0 : yR K M0) (hxR0 : xR B X M0) (hQ : ∀ M', pF M0 M' → pI B K X 1024 M' → Q 0 M') : am_s am_P am_gg (d + 25) 277 [.inr (.inr 174)] M0 Q := by
  have hn16 := hW.1
  refine (v_277_174 _ _ _).mpr ?_
  refine p_for (S := (Nat → Int → Int)) (X := fun j M => am_x am_P am_gg (d + 24) am_k277 0 Q 7 [some (.inr (.inr 174)), some (.inl (j)), none, none, none] [] M 0 0) 1024 (fun a M1 => pF M0 M1 ∧ M1 173 34 = 0 ∧ ∀ c : Nat, c < a → M1 190 (c : Int) = -1) ?_ ?_ 0 _ (by omega) ⟨⟨fun c a b => up_nc _ _ _ _ a, fun i a b e => up_ni _ _ _ _ e _⟩, up_eq _ _ _ _, fun c hc => absurd hc (Nat.not_lt_zero c)⟩
  · intro M1 ⟨f1, z1, z2⟩
    refine (h_277_7_174 _ _ _ _).mpr ?_
    rw [if_neg (by omega)]
    have start : pI B K X 0 M1 := ⟨by rw [z1]; rfl, fun c hc => by rw [z2 c hc, if_neg (fun y => absurd y.1 (Nat.not_lt_zero c))], fun c hc => absurd hc (Nat.not_lt_zero c)⟩
    refine p_for (S := (Nat → Int → Int)) (X := fun j M => am_x am_P am_gg (d + 24) am_k277 0 Q 29 [some (.inr (.inr 174)), some (.inl (j)), none, none, none] [] M 0 0) (B 0) (fun r M2 => pF M0 M2 ∧ pI B K X (64 * r) M2) ?_ ?_ 0 M1 (by omega) ⟨f1, start⟩
    · intro M2 ⟨f2, i2⟩
      obtain ⟨hB, hR, hxR⟩ := pF_R f2 hB0 hR0 hxR0
      refine (h_277_29_174 _ _ _ _).mpr (m_rules hB ?_)
      rw [if_neg (by omega)]
      refine hQ M2 f2 (pI_skip i2 (by omega) (fun c a b z => ?_))
      have := z.1; omega
    · intro r M2 hr ⟨f2, i2⟩ k
      obtain ⟨hB, hR, hxR⟩ := pF_R f2 hB0 hR0 hxR0
      obtain ⟨hsy, hz, hz4, -, hs⟩ := hW.2.2.2.1 r hr
      -- the rest of the rule has none
      have out : ∀ (M3 : (Nat → Int → Int)) (b : Int) (z : Option am_v) (i : Nat), pF M0 M3 → pI B K X (64 * r + 16 * i) M3 → i ≤ 4 → (∀ j, i ≤ j → j < 4 → ∀ o, o < 16 → ¬ isP B K X (cde r j o)) → am_x am_P am_gg (d + 24) am_k277 0 Q 29 [some (.inr (.inr 174)), some (.inl (((r + 1 : Nat) : Int))), some (.inl (b)), z, none] [] M3 0 0 := by
        intro M3 b z i f3 i3 hi4 no
        refine am_x_le [some (.inr (.inr 174)), some (.inl (((r + 1 : Nat) : Int))), none, none, none] (am_lb_le _ _ ⟨rfl, rfl, trivial⟩) ?_
        refine k M3 ⟨f3, pI_skip i3 (by omega) (fun c a b => ?_)⟩
        have e : c = cde r (c / 16 % 4) (c % 16) := by unfold cde; omega
        rw [e]
        exact no _ (by omega) (by omega) _ (by omega)
      have nop : ∀ j o, j < 4 → o < 16 → (isP B K X (cde r j o) → gon B r = true ∧ X (gsy B r) ≠ NK ∧ j < gsz B r ∧ gsg B r j < 8 ∧ o < B 0 ∧ gsy B o = gsg B r j) := by
        intro j o hj ho z
        have c1 : cde r j o / 64 = r := by unfold cde; omega
        have c2 : cde r j o / 16 % 4 = j := by unfold cde; omega
        have c3 : cde r j o % 16 = o := by unfold cde; omega
        unfold isP at z; rw [c1, c2, c3] at z
        exact ⟨z.2.1, z.2.2.1, z.2.2.2.1, z.2.2.2.2.1, z.2.2.2.2.2.1, z.2.2.2.2.2.2.1⟩
      refine (h_277_29_174 _ _ _ _).mpr (m_rules hB ?_)
      rw [if_pos (by omega)]
      refine p_for (S := (Nat → Int → Int)) (X := fun j M => am_x am_P am_gg (d + 24) am_k277 0 Q 39 [some (.inr (.inr 174)), some (.inl ((r : Int))), some (.inl (j)), none, none] [] M 0 0) (gsz B r) (fun i M3 => pF M0 M3 ∧ pI B K X (64 * r + 16 * i) M3) ?_ ?_ 0 M2 (by omega) ⟨f2, i2⟩
      · intro M3 ⟨f3, i3⟩
        obtain ⟨hB, hR, hxR⟩ := pF_R f3 hB0 hR0 hxR0
        refine (h_277_39_174 _ _ _ _ _).mpr (m_size hB (by omega) ?_)
        rw [w32_s (i := r) (by omega)]
        rw [if_neg (by omega)]
        exact out M3 _ _ _ f3 i3 (by omega) (fun j a b o ho z => by have := (nop j o b ho z).2.2.1; omega)
      · intro i M3 hi ⟨f3, i3⟩ k3
        obtain ⟨hB, hR, hxR⟩ := pF_R f3 hB0 hR0 hxR0
        have hsi := hs i hi
        refine (h_277_39_174 _ _ _ _ _).mpr (m_size hB (by omega) ?_)
        rw [w32_s (i := r) (by omega), w32_s (i := i) (by omega)]
        rw [if_pos (by omega)]
        refine m_isOn hB hW.on (by omega) ?_ ?_
        · intro hon
          rw [if_neg (by omega)]
          refine m_sym hB (by omega) ?_
          rw [if_pos (by omega)]
          refine @p_if _ _ _ _ ?_ ?_
          · intro hneg
            have hN := (xR_neg hxR hsy).mp hneg
            exact out M3 _ _ _ f3 i3 (by omega) (fun j a b o ho z => (nop j o b ho z).2.1 hN)
          · intro hneg
            have hN : X (gsy B r) ≠ NK := fun z => hneg ((xR_neg hxR hsy).mpr z)
            refine m_sign hB (by omega) (by omega) ?_
            refine @p_if _ _ _ _ ?_ ?_
            · intro h8
              have h8 : gsg B r i < 8 := by omega
              refine p_for (S := (Nat → Int → Int)) (X := fun j M => am_x am_P am_gg (d + 24) am_k277 0 Q 88 [some (.inr (.inr 174)), some (.inl ((r : Int))), some (.inl ((i : Int))), some (.inl ((gsg B r i : Int))), some (.inl (j))] [] M 0 0) (B 0) (fun o M4 => pF M0 M4 ∧ pI B K X (cde r i o) M4) ?_ ?_ 0 M3 (by omega) ⟨f3, by rw [show cde r i 0 = 64 * r + 16 * i by unfold cde; omega]; exact i3⟩
              · intro M4 ⟨f4, i4⟩
                obtain ⟨hB, hR, hxR⟩ := pF_R f4 hB0 hR0 hxR0
                refine (h_277_88_174 _ _ _ _ _ _ _).mpr (m_rules hB ?_)
                rw [w32_s (i := i) (by omega)]
                rw [if_neg (by omega)]
                refine am_x_le [some (.inr (.inr 174)), some (.inl ((r : Int))), some (.inl (((i + 1 : Nat) : Int))), none, none] (am_lb_le _ _ ⟨rfl, rfl, rfl, trivial⟩) ?_
                refine k3 M4 ⟨f4, pI_skip i4 (by unfold cde; omega) (fun c a b z => ?_)⟩
                have e : c = cde r i (c % 16) := by unfold cde at a ⊢; omega
                rw [e] at z
                have h1 := (nop i (c % 16) (by omega) (by omega) z).2.2.2.2.1
                unfold cde at a; omega
              · intro o M4 ho ⟨f4, i4⟩ k4
                obtain ⟨hB, hR, hxR⟩ := pF_R f4 hB0 hR0 hxR0
                refine (h_277_88_174 _ _ _ _ _ _ _).mpr (m_rules hB ?_)
                rw [w32_s (i := o) (by omega)]
                rw [if_pos (by omega)]
                refine m_sym hB (by omega) ?_
                refine @p_if _ _ _ _ ?_ ?_
                · intro e
                  refine m_laysPair hW hp hy hx hr hon hi h8 hN ho (by omega) hB hR hxR i4 (fun M5 f5 i5 => ?_)
                  exact k4 M5 ⟨pF_tr f4 f5, i5⟩
                · intro e
                  refine k4 M4 ⟨f4, pI_skip i4 (by unfold cde; omega) (fun c a b z => ?_)⟩
                  have e2 : c = cde r i o := by unfold cde at a b ⊢; omega
                  rw [e2] at z
                  have h1 := (nop i o (by omega) (by omega) z).2.2.2.2.2
                  exact e (by omega)
            · intro h8
              refine am_x_le [some (.inr (.inr 174)), some (.inl ((r : Int))), some (.inl (((i + 1 : Nat) : Int))), none, none] (am_lb_le _ _ ⟨rfl, rfl, rfl, trivial⟩) ?_
              refine k3 M3 ⟨f3, pI_skip i3 (by omega) (fun c a b z => ?_)⟩
              have e : c = cde r i (c % 16) := by unfold cde; omega
              rw [e] at z
              have h1 := (nop i (c % 16) (by omega) (by omega) z).2.2.2.1
              omega
        · intro hon
          rw [if_pos (by omega)]
          exact out M3 _ _ _ f3 i3 (by omega) (fun j a b o ho z => by rw [(nop j o b ho z).1] at hon; cases hon)
  · intro a M1 ha ⟨f1, z1, z2⟩ k
    refine (h_277_7_174 _ _ _ _).mpr ?_
    rw [if_pos (by omega)]
    rw [if_pos (by omega)]
    rw [w32_s (by omega)]
    refine k _ ⟨⟨fun c x y => by rw [up_nc _ _ _ _ (by omega)]; exact f1.1 c x y, fun i x y z => by rw [up_nc _ _ _ _ (by decide)]; exact f1.2 i x y z⟩, by rw [up_nc _ _ _ _ (by decide)]; exact z1, fun c hc => ?_⟩
    rw [up_ci]
    by_cases q : c = a
    · rw [if_pos (by omega)]
    · rw [if_neg (by omega)]; exact z2 c (by omega)
end S76
