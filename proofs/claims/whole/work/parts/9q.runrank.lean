/-! the reference tells a tree by its number -/
/-- trees as told so far: rules, letters -/
def uI (B : Nat → Nat) (M : (Nat → Int → Int)) (ro lt : List Nat) : Prop := tI B M ∧ M 173 29 = (lt.length : Int) ∧ M 173 44 = (ro.length : Int) ∧ (∀ j : Nat, j < lt.length → M 186 (j : Int) = (lt.getD j 0 : Int)) ∧ (∀ j : Nat, j < ro.length → M 197 (j : Int) = (ro.getD j 0 : Int))
def uF (M M' : (Nat → Int → Int)) : Prop := (∀ c, c ≠ 173 → c ≠ 186 → c ≠ 193 → c ≠ 194 → c ≠ 197 → M' c = M c) ∧ ∀ i : Int, i ≠ 29 → i ≠ 44 → M' 173 i = M 173 i
section S9q
variable {B : Nat → Nat} {M : (Nat → Int → Int)} {d : Nat} {Q : Int → (Nat → Int → Int) → Prop} {r i n s k x : Nat} {ro lt : List Nat}
theorem uF_rf : uF M M := ⟨fun _ _ _ _ _ _ => rfl, fun _ _ _ => rfl⟩
theorem uF_tr {M' M'' : (Nat → Int → Int)} (h : uF M M') (h' : uF M' M'') : uF M M'' := ⟨fun c h1 h2 h3 h4 h5 => (h'.1 c h1 h2 h3 h4 h5).trans (h.1 c h1 h2 h3 h4 h5), fun i h1 h2 => (h'.2 i h1 h2).trans (h.2 i h1 h2)⟩
theorem tF_uF {M' : (Nat → Int → Int)} (h : tF M M') : uF M M' := ⟨fun c h1 h2 h3 h4 h5 => h c h3 h4, fun i _ _ => by rw [h 173 (by decide) (by decide)]⟩
theorem uI_tF {M' : (Nat → Int → Int)} (h : uI B M ro lt) (hI : tI B M') (hF : tF M M') : uI B M' ro lt := by
  obtain ⟨-, h2, h3, h4, h5⟩ := h
  refine ⟨hI, ?_, ?_, ?_, ?_⟩
  · rw [hF 173 (by decide) (by decide)]; exact h2
  · rw [hF 173 (by decide) (by decide)]; exact h3
  · rw [hF 186 (by decide) (by decide)]; exact h4
  · rw [hF 197 (by decide) (by decide)]; exact h5
theorem getD_snoc (l : List Nat) (v j : Nat) (hj : j < (l ++ [v]).length) : (l ++ [v]).getD j 0 = if j = l.length then v else l.getD j 0 := by
  rw [List.length_append] at hj
  have hj : j < l.length + 1 := hj
  by_cases e : j = l.length
  · subst e; rw [if_pos rfl]; simp
  · rw [if_neg e]; simp [List.getD, List.getElem?_append_left (show j < l.length by omega)]
theorem uI_let (h : uI B M ro lt) {v : Nat} {w : Int} (hw : w = (v : Int)) (hl : lt.length < 2147483647) : uI B (am_up (am_up M 186 (M 173 29) w) 173 29 (w32 ((M 173 29) + 1))) ro (lt ++ [v]) := by
  subst hw
  obtain ⟨h1, h2, h3, h4, h5⟩ := h
  refine ⟨⟨?_, fun s n a b => ?_, fun r i n a b c => ?_⟩, ?_, ?_, fun j hj => ?_, fun j hj => ?_⟩
  · rw [up_nc _ _ _ _ (by decide), up_nc _ _ _ _ (by decide)]; exact h1.1
  · rw [up_nc _ _ _ _ (by decide), up_nc _ _ _ _ (by decide)]; exact h1.2.1 s n a b
  · rw [up_nc _ _ _ _ (by decide), up_nc _ _ _ _ (by decide)]; exact h1.2.2 r i n a b c
  · rw [up_eq, h2, w32_s hl, List.length_append]; rfl
  · rw [up_ni _ _ _ _ (by decide), up_nc _ _ _ _ (by decide)]; exact h3
  · rw [up_nc _ _ _ _ (by decide), h2, up_ci, getD_snoc _ _ _ hj]
    by_cases e : j = lt.length
    · rw [if_pos (by omega), if_pos e]
    · rw [if_neg (by omega), if_neg e]; rw [List.length_append] at hj; exact h4 j (by have hj : j < lt.length + 1 := hj; omega)
  · rw [up_nc _ _ _ _ (by decide), up_nc _ _ _ _ (by decide)]; exact h5 j hj
theorem uI_rule (h : uI B M ro lt) {v : Nat} (hl : ro.length < 2147483647) : uI B (am_up (am_up M 197 (M 173 44) (v : Int)) 173 44 (w32 ((M 173 44) + 1))) (ro ++ [v]) lt := by
  obtain ⟨h1, h2, h3, h4, h5⟩ := h
  refine ⟨⟨?_, fun s n a b => ?_, fun r i n a b c => ?_⟩, ?_, ?_, fun j hj => ?_, fun j hj => ?_⟩
  · rw [up_nc _ _ _ _ (by decide), up_nc _ _ _ _ (by decide)]; exact h1.1
  · rw [up_nc _ _ _ _ (by decide), up_nc _ _ _ _ (by decide)]; exact h1.2.1 s n a b
  · rw [up_nc _ _ _ _ (by decide), up_nc _ _ _ _ (by decide)]; exact h1.2.2 r i n a b c
  · rw [up_ni _ _ _ _ (by decide), up_nc _ _ _ _ (by decide)]; exact h2
  · rw [up_eq, h3, w32_s hl, List.length_append]; rfl
  · rw [up_nc _ _ _ _ (by decide), up_nc _ _ _ _ (by decide)]; exact h4 j hj
  · rw [up_nc _ _ _ _ (by decide), h3, up_ci, getD_snoc _ _ _ hj]
    by_cases e : j = ro.length
    · rw [if_pos (by omega), if_pos e]
    · rw [if_neg (by omega), if_neg e]; rw [List.length_append] at hj; exact h5 j (by have hj : j < ro.length + 1 := hj; omega)
theorem uF_up {c : Nat} {j v w : Int} (hc : c = 186 ∧ w = 29 ∨ c = 197 ∧ w = 44) {z : Int} : uF M (am_up (am_up M c j v) 173 w z) := by
  refine ⟨fun a h1 h2 h3 h4 h5 => ?_, fun i h1 h2 => ?_⟩
  · rw [up_nc _ _ _ _ h1, up_nc _ _ _ _ (by omega)]
  · rw [up_ni _ _ _ _ (by omega), up_nc _ _ _ _ (by omega)]
theorem w64_n {n : Nat} (h : n < 9223372036854775808) : w64 (n : Int) = (n : Int) := w64_i (by omega) (by omega)
theorem tmod_n {a b : Nat} : Int.tmod (a : Int) (b : Int) = ((a % b : Nat) : Int) := Int.ofNat_tmod a b |>.symm
/-- where a number's cut is -/
theorem m_ucut (hW : gW B) (hr : r < B 0) (hi : i < gsz B r) (hn : n ≤ 24) (hd : 1040 ≤ d) : ∀ m k x (M : (Nat → Int → Int)), uI B M ro lt → k + m = n → x < 4294967296 → q_sm (ctm B r i n) k + x < q_sm (ctm B r i n) (k + m) →
    (∀ M1, uI B M1 ro lt → uF M M1 → am_s am_P am_gg d 325 [.inr (.inr 174), .inl (r : Int), .inl (w32 ((i : Int) + 1)), .inl (w32 ((n : Int) - (((q_find (ctm B r i n) m k x).1 + 1 : Nat) : Int)))] M1 (fun r2 M2 => am_s am_P am_gg d 233 [.inr (.inr 174), .inl (r : Int), .inl (i : Int)] M2 (fun r3 M3 => (if r2 = 0 then False else am_s am_P am_gg d 327 [.inr (.inr 174), .inl r3, .inl (((q_find (ctm B r i n) m k x).1 + 1 : Nat) : Int), .inr (.inl (w64 (Int.tdiv ((q_find (ctm B r i n) m k x).2 : Int) r2)))] M3 (fun r4 M4 => (if r2 = 0 then False else am_x am_P am_gg d am_k327 0 Q 138 [some (.inr (.inr 174)), none, none, none, none, some (.inr (.inl (w64 (Int.tmod ((q_find (ctm B r i n) m k x).2 : Int) r2)))), none, some (.inl ((r : Int))), some (.inl (w32 ((n : Int) - (((q_find (ctm B r i n) m k x).1 + 1 : Nat) : Int)))), some (.inl (w32 ((i : Int) + 1))), some (.inl ((((q_find (ctm B r i n) m k x).1 + 1 : Nat) : Int))), some (.inr (.inl r2)), none] [] M4 0 0)))))) →
    am_x am_P am_gg d am_k327 0 Q 152 [some (.inr (.inr 174)), none, none, none, none, some (.inr (.inl (x : Int))), none, some (.inl ((r : Int))), some (.inl ((n : Int))), some (.inl ((i : Int))), some (.inl (((k + 1 : Nat) : Int))), none, none] [] M 0 0 := by
  intro m
  induction m with
  | zero => intro k x M _ _ _ h; rw [Nat.add_zero] at h; omega
  | succ m ih =>
    intro k x M hI hk hx hs hX
    refine (h_327_152_174 _ _ _ _ _ _ _ _).mpr ?_
    refine m_bothAll hW hr hi (by omega) hn (by omega) hI.1 (fun M1 hI1 hF1 => ?_)
    have hU1 := uI_tF hI hI1 hF1
    have e1 : q_find (ctm B r i n) (m + 1) k x = if x < ctm B r i n k then (k, x) else q_find (ctm B r i n) m (k + 1) (x - ctm B r i n k) := rfl
    have e2 : ctm B r i n k = tb B r i (k + 1) n := rfl
    refine @p_if _ _ _ _ ?_ ?_
    · intro hc; have hc := lc_lt.mp hc
      rw [e1, if_pos (by omega)] at hX
      exact hX M1 hU1 (tF_uF hF1)
    · intro hc; have hc := mt lc_lt.mpr hc
      rw [e1, if_neg (by omega)] at hX
      refine m_bothAll hW hr hi (by omega) hn (by omega) hI1 (fun M2 hI2 hF2 => ?_)
      have hU2 := uI_tF hU1 hI2 hF2
      have hn16 := hW.1
      rw [w32_s (by omega), show w64 ((x : Int) - (tb B r i (k + 1) n : Int)) = ((x - ctm B r i n k : Nat) : Int) by rw [w64_i (by omega) (by omega)]; omega]
      refine ih (k + 1) (x - ctm B r i n k) M2 hU2 (by omega) (by omega) ?_ (fun M3 hU3 hF3 => hX M3 hU3 (uF_tr (uF_tr (tF_uF hF1) (tF_uF hF2)) hF3))
      have e3 : q_sm (ctm B r i n) (k + 1) = q_sm (ctm B r i n) k + ctm B r i n k := rfl
      rw [e3, show k + 1 + m = k + (m + 1) by omega]; omega
def uTO (B : Nat → Nat) (d s n x : Nat) : Prop := ∀ (M : (Nat → Int → Int)) (Q : Int → (Nat → Int → Int) → Prop) (ro lt : List Nat), uI B M ro lt → lt.length + (uT B s n x).2.length ≤ 256 → ro.length + (uT B s n x).1.length ≤ 512 → (∀ M', uI B M' (ro ++ (uT B s n x).1) (lt ++ (uT B s n x).2) → uF M M' → Q 0 M') → am_s am_P am_gg d 327 [.inr (.inr 174), .inl (s : Int), .inl (n : Int), .inr (.inl (x : Int))] M Q
theorem uTO_mono {d' : Nat} (h : uTO B d s n x) (hd : d ≤ d') : uTO B d' s n x := fun M Q ro lt a b c e => am_s_mono hd (h M Q ro lt a b c e) (fun _ _ q => q)
/-- the signs of a rule one by one -/
theorem m_urow (hW : gW B) (hr : r < B 0) (hd : 1040 ≤ d) : ∀ j i n x (M : (Nat → Int → Int)) (ro lt : List Nat), i + j = gsz B r → n ≤ 24 → (j = 0 ∧ n = 0 ∨ x < tR B r i n) → x < 4294967296 → (∀ i' k y, i ≤ i' → i' < gsz B r → 1 ≤ k → (k < n ∨ k = n ∧ j = 1) → y < 4294967296 → y < tT B (gsg B r i') k → uTO B d (gsg B r i') k y) →
    uI B M ro lt → lt.length + (uR B r i n x).2.length ≤ 256 → ro.length + (uR B r i n x).1.length ≤ 512 → (∀ M', uI B M' (ro ++ (uR B r i n x).1) (lt ++ (uR B r i n x).2) → uF M M' → Q 0 M') →
    am_x am_P am_gg d am_k327 0 Q 138 [some (.inr (.inr 174)), none, none, none, none, some (.inr (.inl (x : Int))), none, some (.inl ((r : Int))), some (.inl ((n : Int))), some (.inl ((i : Int))), none, none, none] [] M 0 0 := by
  have hz := hW.2.2.2.1 r hr
  have hn16 := hW.1
  intro j
  induction j with
  | zero =>
    intro i n x M ro lt hi hn hx _ _ hI _ _ hQ
    have e : i = gsz B r := by omega
    subst e
    obtain ⟨d, rfl⟩ : ∃ e, d = e + 1 := ⟨d - 1, by omega⟩
    refine (h_327_138_174 _ _ _ _ _ _ _).mpr (m_size hI.1.1 (by omega) ?_)
    rw [if_neg (by omega)]
    rw [uR_end] at hQ
    have hQ := hQ M
    rw [List.append_nil, List.append_nil] at hQ
    exact hQ hI uF_rf
  | succ j ih =>
    intro i n x M ro lt hi hn hx hx3 h hI hl hro hQ
    have hx : x < tR B r i n := by omega
    obtain ⟨d, rfl⟩ : ∃ e, d = e + 1 := ⟨d - 1, by omega⟩
    refine (h_327_138_174 _ _ _ _ _ _ _).mpr (m_size hI.1.1 (by omega) ?_)
    rw [if_pos (by omega)]
    obtain ⟨c1, c2, c3, c4, c5, c6, c7⟩ := u_cut (by omega) hx
    rw [uR_step (by omega)] at hQ hl hro
    rw [List.length_append] at hl hro
    refine m_ucut hW hr (by omega) hn hd n 0 x M hI (by omega) hx3 ?_ (fun M1 hI1 hF1 => ?_)
    · have e0 : q_sm (ctm B r i n) 0 = 0 := rfl
      rw [Nat.zero_add, e0, Nat.zero_add]
      have := q_sm_le (f := ctm B r i n) (show (q_find (ctm B r i n) n 0 x).1 + 1 ≤ n by omega)
      have e1 : q_sm (ctm B r i n) ((q_find (ctm B r i n) n 0 x).1 + 1) = q_sm (ctm B r i n) (q_find (ctm B r i n) n 0 x).1 + ctm B r i n (q_find (ctm B r i n) n 0 x).1 := rfl
      omega
    · have hp2 : (q_find (ctm B r i n) n 0 x).2 < 4294967296 := by omega
      obtain ⟨p, hp⟩ : ∃ p, q_find (ctm B r i n) n 0 x = p := ⟨_, rfl⟩
      rw [hp] at c1 c2 c3 c4 c5 c6 c7 hQ hp2 hl hro ⊢
      rw [w32_s (by omega), show w32 ((n : Int) - ((p.1 + 1 : Nat) : Int)) = ((n - (p.1 + 1) : Nat) : Int) by rw [w32_i (by omega) (by omega)]; omega]
      refine rRO_mono (m_rows hW hr (show i + 1 ≤ gsz B r by omega) (show n - (p.1 + 1) ≤ 24 by omega)) (by omega) _ _ hI1.1 (fun M2 hI2 hF2 => ?_)
      have hU2 := uI_tF hI1 hI2 hF2
      refine m_sign hI2.1 (by omega) (by omega) ?_
      have hdl : p.2 / tR B r (i + 1) (n - (p.1 + 1)) ≤ p.2 := Nat.div_le_self _ _
      have hml : p.2 % tR B r (i + 1) (n - (p.1 + 1)) ≤ p.2 := Nat.mod_le _ _
      rw [if_neg (by omega)]
      rw [tdiv_n, tmod_n, w64_n (by omega), w64_n (by omega)]
      refine h i (p.1 + 1) _ (Nat.le_refl _) (by omega) (by omega) (by omega) (by omega) c5 _ _ ro lt hU2 (by omega) (by omega) (fun M3 hU3 hF3 => ?_)
      rw [if_neg (by omega)]
      refine am_x_le [some (.inr (.inr 174)), none, none, none, none, some (.inr (.inl ((p.2 % tR B r (i + 1) (n - (p.1 + 1)) : Nat) : Int))), none, some (.inl ((r : Int))), some (.inl (((n - (p.1 + 1) : Nat) : Int))), some (.inl (((i + 1 : Nat) : Int))), none, none, none] (am_lb_le _ _ ⟨rfl, rfl, rfl, rfl, rfl, trivial⟩) ?_
      refine ih (i + 1) (n - (p.1 + 1)) _ M3 _ _ (by omega) (by omega) (Or.inr (Nat.mod_lt _ c4)) (by omega) (fun i' k y a1 a2 a3 a4 a5 a6 => h i' k y (by omega) a2 a3 (by omega) a5 a6) hU3 (by rw [List.length_append]; omega) (by rw [List.length_append]; omega) (fun M4 hU4 hF4 => ?_)
      rw [List.append_assoc, List.append_assoc] at hU4
      exact hQ M4 hU4 (uF_tr (uF_tr hF1 (tF_uF hF2)) (uF_tr hF3 hF4))
theorem m_uLet (hs : 16 ≤ s ∧ s < 32) : uTO B (d + 1) s n x := by
  intro M Q ro lt hI hl hro hQ
  refine (v_327_174 _ _ _ _ _ _).mpr ?_
  rw [if_neg (by omega)]
  have h2 := hI.2.1
  rw [uT_let (by omega)] at hl
  have hl : lt.length + 1 ≤ 256 := hl
  rw [if_pos (by omega)]
  rw [uT_let (by omega), List.append_nil] at hQ
  exact hQ _ (uI_let hI (v := s - 16) (by rw [w32_i (by omega) (by omega)]; omega) (by omega)) (uF_up (Or.inl ⟨rfl, rfl⟩))
/-- which rule a number chooses -/
theorem m_urule (hW : gW B) (hs : s < 8) (hn : n ≤ 24) (hd : 1040 ≤ d) : ∀ m k x (M : (Nat → Int → Int)), uI B M ro lt → k + m = B 0 → x < 4294967296 → q_sm (tm B s n) k + x < q_sm (tm B s n) (k + m) →
    (∀ M1, uI B M1 ro lt → uF M M1 → (q_find (tm B s n) m k x).1 < B 0 → (if 0 ≤ M1 173 44 ∧ M1 173 44 < 512 then am_x am_P am_gg d am_k327 0 Q 138 [some (.inr (.inr 174)), some (.inl ((s : Int))), some (.inl ((n : Int))), none, none, some (.inr (.inl ((q_find (tm B s n) m k x).2 : Int))), none, some (.inl (((q_find (tm B s n) m k x).1 : Int))), some (.inl ((n : Int))), some (.inl (0)), none, none, none] [] (am_up (am_up M1 197 (M1 173 44) ((q_find (tm B s n) m k x).1 : Int)) 173 44 (w32 ((M1 173 44) + 1))) 0 0 else False)) →
    am_x am_P am_gg d am_k327 0 Q 36 [some (.inr (.inr 174)), some (.inl ((s : Int))), some (.inl ((n : Int))), none, none, some (.inr (.inl (x : Int))), none, some (.inl ((k : Int))), none, none, none, none, none] [] M 0 0 := by
  have hn16 := hW.1
  obtain ⟨d, rfl⟩ : ∃ e, d = e + 2 := ⟨d - 2, by omega⟩
  intro m
  induction m with
  | zero => intro k x M _ _ _ h; rw [Nat.add_zero] at h; omega
  | succ m ih =>
    intro k x M hI hk hx hs2 hX
    have e1 : q_find (tm B s n) (m + 1) k x = if x < tm B s n k then (k, x) else q_find (tm B s n) m (k + 1) (x - tm B s n k) := rfl
    have e3 : q_sm (tm B s n) (k + 1) = q_sm (tm B s n) k + tm B s n k := rfl
    have skip : tm B s n k = 0 → am_x am_P am_gg (d + 2) am_k327 0 Q 36 [some (.inr (.inr 174)), some (.inl ((s : Int))), some (.inl ((n : Int))), none, none, some (.inr (.inl (w64 ((x : Int) - 0)))), none, some (.inl (w32 ((k : Int) + 1))), none, none, none, none, none] [] M 0 0 := by
      intro h0
      rw [e1, if_neg (by omega), h0, Nat.sub_zero] at hX
      rw [w32_s (by omega), Int.sub_zero, w64_i (by omega) (by omega)]
      exact ih (k + 1) x M hI (by omega) hx (by rw [e3, show k + 1 + m = k + (m + 1) by omega]; omega) hX
    refine (h_327_36_174 _ _ _ _ _ _ _).mpr ?_
    refine m_isOn hI.1.1 hW.on (by omega) ?_ ?_
    · intro ho
      rw [if_neg (by omega)]
      refine m_sym hI.1.1 (by omega) ?_
      refine @p_if _ _ _ _ ?_ ?_
      · intro hy
        have hy : gsy B k = s := by omega
        have et : tm B s n k = tR B k 0 n := by unfold tm; rw [if_pos ⟨ho, hy⟩]
        refine rRO_mono (m_rows hW (show k < B 0 by omega) (Nat.zero_le _) hn) (by omega) _ _ hI.1 (fun M1 hI1 hF1 => ?_)
        have hU1 := uI_tF hI hI1 hF1
        refine @p_if _ _ _ _ ?_ ?_
        · intro hc; have hc := lc_lt.mp hc
          rw [e1, if_pos (by omega)] at hX
          exact hX M1 hU1 (tF_uF hF1) (by dsimp only; omega)
        · intro hc; have hc := mt lc_lt.mpr hc
          rw [e1, if_neg (by omega)] at hX
          refine m_isOn hI1.1 hW.on (by omega) ?_ (fun h0 => by rw [ho] at h0; cases h0)
          intro _
          rw [if_neg (by omega)]
          refine m_sym hI1.1 (by omega) ?_
          rw [if_pos (by omega)]
          refine rRO_mono (m_rows hW (show k < B 0 by omega) (Nat.zero_le _) hn) (by omega) _ _ hI1 (fun M2 hI2 hF2 => ?_)
          have hU2 := uI_tF hU1 hI2 hF2
          rw [w32_s (by omega), show w64 ((x : Int) - (tR B k 0 n : Int)) = ((x - tm B s n k : Nat) : Int) by rw [w64_i (by omega) (by omega)]; omega]
          exact ih (k + 1) _ M2 hU2 (by omega) (by omega) (by rw [e3, show k + 1 + m = k + (m + 1) by omega]; omega) (fun M3 hU3 hF3 => hX M3 hU3 (uF_tr (uF_tr (tF_uF hF1) (tF_uF hF2)) hF3))
      · intro hy
        have et : tm B s n k = 0 := by unfold tm; rw [if_neg (fun q => hy (by omega))]
        refine m_isOn hI.1.1 hW.on (by omega) ?_ (fun h0 => by rw [ho] at h0; cases h0)
        intro _
        rw [if_neg (by omega)]
        refine m_sym hI.1.1 (by omega) ?_
        rw [if_neg (by omega)]
        exact skip et
    · intro ho
      have et : tm B s n k = 0 := by unfold tm; rw [if_neg (fun q => by rw [ho] at q; cases q.1)]
      rw [if_pos (by omega)]
      refine m_isOn hI.1.1 hW.on (by omega) (fun h1 => by rw [ho] at h1; cases h1) ?_
      intro _
      rw [if_pos (by omega)]
      exact skip et
theorem m_uSym (hW : gW B) (hs : s < 8) (hn : n ≤ 24) (hd : 1040 ≤ d) (hx : x < tT B s n) (hx3 : x < 4294967296) (h : ∀ r i' k y, r < B 0 → gsy B r = s → i' < gsz B r → 1 ≤ k → (k < n ∨ k = n ∧ gsz B r = 1) → y < 4294967296 → y < tT B (gsg B r i') k → uTO B d (gsg B r i') k y) : uTO B (d + 1) s n x := by
  intro M Q ro lt hI hl hro hQ
  have hn1 : 1 ≤ n := by
    rcases Nat.eq_zero_or_pos n with q | q
    · subst q; rw [tT_nil hW] at hx; omega
    · exact q
  obtain ⟨c1, c2, c3, c4, c5⟩ := u_rule hW hs hn hx
  rw [uT_sym hW hs hn hx] at hQ hl hro
  rw [List.length_cons] at hro
  dsimp only at hl hro
  refine (v_327_174 _ _ _ _ _ _).mpr ?_
  rw [if_pos (by omega)]
  refine am_x_le [some (.inr (.inr 174)), some (.inl ((s : Int))), some (.inl ((n : Int))), none, none, some (.inr (.inl (x : Int))), none, some (.inl (((0 : Nat) : Int))), none, none, none, none, none] (am_lb_le _ _ ⟨rfl, rfl, rfl, rfl, rfl, trivial⟩) ?_
  refine m_urule hW hs hn hd (B 0) 0 x M hI (by omega) hx3 ?_ (fun M1 hI1 hF1 hlt => ?_)
  · have e0 : q_sm (tm B s n) 0 = 0 := rfl
    rw [Nat.zero_add, e0, Nat.zero_add]
    have h1 : q_sm (tm B s n) ((q_find (tm B s n) (B 0) 0 x).1 + 1) = q_sm (tm B s n) (q_find (tm B s n) (B 0) 0 x).1 + tm B s n (q_find (tm B s n) (B 0) 0 x).1 := rfl
    have h2 := q_sm_le (f := tm B s n) (show (q_find (tm B s n) (B 0) 0 x).1 + 1 ≤ B 0 by omega)
    have h3 : tm B s n (q_find (tm B s n) (B 0) 0 x).1 = tR B (q_find (tm B s n) (B 0) 0 x).1 0 n := by unfold tm; rw [if_pos ⟨c2, c3⟩]
    omega
  · obtain ⟨p, hp⟩ : ∃ p, q_find (tm B s n) (B 0) 0 x = p := ⟨_, rfl⟩
    rw [hp] at c1 c2 c3 c4 c5 hQ hl hro ⊢
    have h44 := hI1.2.2.1
    rw [if_pos (by omega)]
    have hz := hW.2.2.2.1 p.1 c1
    refine am_x_le [some (.inr (.inr 174)), none, none, none, none, some (.inr (.inl (p.2 : Int))), none, some (.inl ((p.1 : Int))), some (.inl ((n : Int))), some (.inl (((0 : Nat) : Int))), none, none, none] (am_lb_le _ _ ⟨rfl, rfl, rfl, rfl, rfl, trivial⟩) ?_
    have hU := uI_rule hI1 (v := p.1) (by omega)
    refine m_urow hW c1 hd (gsz B p.1) 0 n p.2 _ _ _ (by omega) hn (Or.inr c4) (by omega) (fun i' k y a1 a2 a3 a4 a5 a6 => h p.1 i' k y c1 c3 a2 a3 a4 a5 a6) hU hl ?_ (fun M2 hU2 hF2 => ?_)
    · rw [List.length_append]; show _ + 1 + _ ≤ _; omega
    · rw [List.append_assoc] at hU2
      exact hQ M2 hU2 (uF_tr hF1 (uF_tr (uF_up (Or.inr ⟨rfl, rfl⟩)) hF2))
end S9q
section S9q2
variable {B : Nat → Nat} {M : (Nat → Int → Int)} {d : Nat} {Q : Int → (Nat → Int → Int) → Prop} {r i n s k x : Nat} {ro lt : List Nat}
theorem m_unr0 (hW : gW B) {pos : Nat → Nat} (hp : ∀ s, pos s < 8) (hu : ∀ r, r < B 0 → gsz B r = 1 → gsg B r 0 < 8 → pos (gsg B r 0) < pos (gsy B r)) (N : Nat) : ∀ s n x, n ≤ 24 → 8 * n + pos s + 1 ≤ N → s < 8 → x < 4294967296 → x < tT B s n → uTO B (1040 + N) s n x := by
  induction N with
  | zero => intro s n x _ h; omega
  | succ N ih =>
    intro s n x hn h hs hx3 hx
    show uTO B ((1040 + N) + 1) s n x
    refine m_uSym hW hs hn (by omega) hx hx3 (fun r i' k y hr hy hi' hk hkn hy3 hyt => ?_)
    rcases (hW.2.2.2.1 r hr).2.2.2.2 i' hi' with g | g
    · have := hp (gsg B r i')
      refine ih _ k y (by omega) ?_ g hy3 hyt
      rcases hkn with hkn | ⟨hkn, h1⟩
      · omega
      · have e : i' = 0 := by omega
        subst e
        have := hu r hr h1 g
        rw [hy] at this
        omega
    · exact uTO_mono (m_uLet (d := 0) g) (by omega)
theorem m_unr (hW : gW B) (hs : s < 8) (hn : n ≤ 24) (hx3 : x < 4294967296) (hx : x < tT B s n) (hd : 1340 ≤ d) : uTO B d s n x := by
  obtain ⟨pos, hp, hu⟩ := hW.2.2.2.2
  have := hp s
  exact uTO_mono (m_unr0 hW hp hu 300 s n x hn (by omega) hs hx3 hx) hd
end S9q2
