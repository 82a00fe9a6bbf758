/-! the class tells a tree by its number: a pile of codes -/
def uc (B : Nat → Nat) (c n x : Nat) : uo := if c < 32 then uT B c n x else uR B ((c - 32) / 4) ((c - 32) % 4) n x
abbrev pit := Nat × Nat × Nat
/-- a code that may lie on the pile -/
def pcd (B : Nat → Nat) (c : Nat) : Prop := c < 8 ∨ (16 ≤ c ∧ c < 32) ∨ ∃ r i, c = 32 + 4 * r + i ∧ r < B 0 ∧ gon B r = true ∧ i + 1 < gsz B r
def pv (B : Nat → Nat) (t : pit) : Prop := pcd B t.1 ∧ 1 ≤ t.2.1 ∧ t.2.1 ≤ 24 ∧ t.2.2 < cv B t.1 t.2.1 ∧ t.2.2 < 4294967296
def p_out (B : Nat → Nat) : List pit → uo
  | [] => ([], [])
  | t :: l => ((uc B t.1 t.2.1 t.2.2).1 ++ (p_out B l).1, (uc B t.1 t.2.1 t.2.2).2 ++ (p_out B l).2)
def p_all (B : Nat → Nat) : List pit → Prop
  | [] => True
  | t :: l => pv B t ∧ p_all B l
def p_wt (pos : Nat → Nat) (c n : Nat) : Nat := if c < 8 then 18 * n - 17 + pos c + 1 else if c < 32 then 1 else 18 * n - 17
def p_wk (pos : Nat → Nat) : List pit → Nat
  | [] => 0
  | t :: l => p_wt pos t.1 t.2.1 + p_wk pos l
def stk (M : (Nat → Int → Int)) : List pit → Prop
  | [] => True
  | t :: l => M 102 (l.length : Int) = (t.1 : Int) ∧ M 103 (l.length : Int) = (t.2.1 : Int) ∧ M 104 (l.length : Int) = (t.2.2 : Int) ∧ stk M l
def pkF (M M' : (Nat → Int → Int)) : Prop := (∀ c, c < 100 ∨ c = 101 ∨ 106 < c → M' c = M c) ∧ ∀ i : Int, i ≠ 7 → i ≠ 9 → i ≠ 11 → M' 100 i = M 100 i
/-- rules and letters told so far -/
def lsI (M : (Nat → Int → Int)) (ro lt : List Nat) : Prop := M 100 9 = (ro.length : Int) ∧ M 100 11 = (lt.length : Int) ∧ (∀ j : Nat, j < ro.length → M 105 (j : Int) = (ro.getD j 0 : Int)) ∧ (∀ j : Nat, j < lt.length → M 106 (j : Int) = (lt.getD j 0 : Int))
def pkI (B : Nat → Nat) (M0 M : (Nat → Int → Int)) (st : List pit) (ro lt : List Nat) : Prop := pkF M0 M ∧ M 100 7 = (st.length : Int) ∧ stk M st ∧ lsI M ro lt ∧ p_all B st
section S9t
variable {B : Nat → Nat} {M M0 : (Nat → Int → Int)} {d : Nat} {Q : Int → (Nat → Int → Int) → Prop} {r i n s k c f x : Nat} {ro lt : List Nat} {st : List pit}
theorem uc_len (hW : gW B) (h : pv B (c, n, x)) : (uc B c n x).2.length = n ∧ (uc B c n x).1.length + 8 ≤ 16 * n := by
  obtain ⟨h1, h2, h3, h4, h5⟩ := h
  dsimp only at h1 h2 h3 h4 h5
  rcases h1 with h1 | h1 | ⟨r, i, rfl, hr, ho, hi⟩
  · unfold uc; rw [if_pos (by omega)]; rw [cv_sg (by omega)] at h4; exact uT_len hW (Or.inl h1) h3 h4
  · unfold uc; rw [if_pos (by omega)]; rw [cv_sg (by omega)] at h4; exact uT_len hW (Or.inr h1) h3 h4
  · have hz := hW.2.2.2.1 r hr
    rw [cv_rest (by omega)] at h4
    unfold uc
    rw [if_neg (by omega), show (32 + 4 * r + i - 32) / 4 = r by omega, show (32 + 4 * r + i - 32) % 4 = i by omega]
    have := uR_len (r := r) (gsz B r - i) h3 i n x (by omega) h3 (Or.inr h4) (fun i' k y a1 a2 a3 a4 a5 => uT_len hW (hz.2.2.2.2 i' a2) (by omega) a5)
    omega
theorem p_len (hW : gW B) : ∀ st : List pit, p_all B st → st.length ≤ (p_out B st).2.length
  | [], _ => Nat.le_refl _
  | (c, n, x) :: l, h => by
    have h1 := (uc_len hW h.1).1
    have h2 := h.1.2.1
    have h3 := p_len hW l h.2
    show l.length + 1 ≤ ((uc B c n x).2 ++ _).length
    rw [List.length_append]
    dsimp only at h2
    omega
theorem stk_eq {M' : (Nat → Int → Int)} : ∀ {st : List pit}, (∀ j : Nat, j < st.length → M' 102 (j : Int) = M 102 (j : Int) ∧ M' 103 (j : Int) = M 103 (j : Int) ∧ M' 104 (j : Int) = M 104 (j : Int)) → stk M st → stk M' st
  | [], _, _ => trivial
  | t :: l, h, hs => by
    have hl := h l.length (Nat.lt_succ_self _)
    exact ⟨hl.1.trans hs.1, hl.2.1.trans hs.2.1, hl.2.2.trans hs.2.2.1, stk_eq (fun j hj => h j (Nat.lt_succ_of_lt hj)) hs.2.2.2⟩
theorem pkF_rf : pkF M M := ⟨fun _ _ => rfl, fun _ _ _ _ => rfl⟩
/-- one more on the pile -/
theorem x_push (hI : pkI B M0 M st ro lt) (hv : pv B (c, n, x)) (hl : st.length < 64) (hQ : ∀ M', pkI B M0 M' ((c, n, x) :: st) ro lt → Q 0 M') : am_s am_P am_gg (d + 1) 153 [.inr (.inr 101), .inl (c : Int), .inl (n : Int), .inr (.inl (x : Int))] M Q := by
  obtain ⟨hF, h7, hst, ⟨l1, l2, l3, l4⟩, ha⟩ := hI
  refine (v_153_101 _ _ _ _ _ _).mpr ?_
  rw [h7]
  rw [if_pos (by omega)]
  rw [if_pos (by omega)]
  rw [if_pos (by omega)]
  rw [if_pos (by omega)]
  rw [w32_s (by omega)]
  refine hQ _ ⟨⟨fun a h => ?_, fun j h1 h2 h3 => ?_⟩, ?_, ⟨?_, ?_, ?_, ?_⟩, ⟨?_, ?_, fun j hj => ?_, fun j hj => ?_⟩, hv, ha⟩
  · rw [up_nc _ _ _ _ (by omega), up_nc _ _ _ _ (by omega), up_nc _ _ _ _ (by omega), up_nc _ _ _ _ (by omega)]; exact hF.1 a h
  · rw [up_ni _ _ _ _ h1, up_nc _ _ _ _ (by decide), up_nc _ _ _ _ (by decide), up_nc _ _ _ _ (by decide)]; exact hF.2 j h1 h2 h3
  · rw [up_eq]; rfl
  · rw [up_nc _ _ _ _ (by decide), up_nc _ _ _ _ (by decide), up_nc _ _ _ _ (by decide), up_eq]
  · rw [up_nc _ _ _ _ (by decide), up_nc _ _ _ _ (by decide), up_eq]
  · rw [up_nc _ _ _ _ (by decide), up_eq]
  · refine stk_eq (fun j hj => ⟨?_, ?_, ?_⟩) hst
    · rw [up_nc _ _ _ _ (by decide), up_nc _ _ _ _ (by decide), up_nc _ _ _ _ (by decide), up_ni _ _ _ _ (by omega)]
    · rw [up_nc _ _ _ _ (by decide), up_nc _ _ _ _ (by decide), up_ni _ _ _ _ (by omega), up_nc _ _ _ _ (by decide)]
    · rw [up_nc _ _ _ _ (by decide), up_ni _ _ _ _ (by omega), up_nc _ _ _ _ (by decide), up_nc _ _ _ _ (by decide)]
  · rw [up_ni _ _ _ _ (by decide), up_nc _ _ _ _ (by decide), up_nc _ _ _ _ (by decide), up_nc _ _ _ _ (by decide)]; exact l1
  · rw [up_ni _ _ _ _ (by decide), up_nc _ _ _ _ (by decide), up_nc _ _ _ _ (by decide), up_nc _ _ _ _ (by decide)]; exact l2
  · rw [up_nc _ _ _ _ (by decide), up_nc _ _ _ _ (by decide), up_nc _ _ _ _ (by decide), up_nc _ _ _ _ (by decide)]; exact l3 j hj
  · rw [up_nc _ _ _ _ (by decide), up_nc _ _ _ _ (by decide), up_nc _ _ _ _ (by decide), up_nc _ _ _ _ (by decide)]; exact l4 j hj
theorem tbl_pk (hF : pkF M0 M) (h : tbl B M0 c n) : tbl B M c n := by unfold tbl at h ⊢; rw [hF.1 101 (by omega)]; exact h
theorem xgb_pk (hF : pkF M0 M) (h : xgb B M0 2) : xgb B M 2 := xgb_eq h (fun c h1 h2 => hF.1 c (by omega))
theorem tbl_rwc (hW : gW B) (h : cT B f M) (hr : r < B 0) (ho : gon B r = true) (h1 : 1 ≤ n) (hf : n ≤ f) (hn : n ≤ 24) : tbl B M (rwc B r) n := by
  have hz := hW.2.2.2.1 r hr
  unfold rwc
  split
  · exact tbl_sg hW h hr (by omega) h1 hf hn
  · exact (h.2 n h1 hf).2 r 0 hr ho (by omega)
theorem pcd_sg (hW : gW B) (hr : r < B 0) (hi : i < gsz B r) : pcd B (gsg B r i) := by
  rcases (hW.2.2.2.1 r hr).2.2.2.2 i hi with g | g
  · exact Or.inl g
  · exact Or.inr (Or.inl g)
theorem pcd_rwc (hW : gW B) (hr : r < B 0) (ho : gon B r = true) : pcd B (rwc B r) := by
  have hz := hW.2.2.2.1 r hr
  unfold rwc
  split
  · exact pcd_sg hW hr (by omega)
  · exact Or.inr (Or.inr ⟨r, 0, rfl, hr, ho, by omega⟩)
theorem pcd_rsc (hW : gW B) (hr : r < B 0) (ho : gon B r = true) (hi : i + 1 < gsz B r) : pcd B (rsc B r i) := by
  unfold rsc
  split
  · exact pcd_sg hW hr (by omega)
  · exact Or.inr (Or.inr ⟨r, i + 1, by omega, hr, ho, by omega⟩)
theorem uc_rwc (hW : gW B) (hr : r < B 0) (hx : x < tR B r 0 n) : uc B (rwc B r) n x = uR B r 0 n x := by
  have hz := hW.2.2.2.1 r hr
  unfold rwc
  by_cases h : gsz B r = 1
  · rw [if_pos h, uR_last (by omega) hx]
    have := sg_32 hW hr (show 0 < gsz B r by omega)
    unfold uc; rw [if_pos (by omega)]
  · rw [if_neg h]; unfold uc; rw [if_neg (by omega), show (32 + 4 * r - 32) / 4 = r by omega, show (32 + 4 * r - 32) % 4 = 0 by omega]
theorem uc_rsc (hW : gW B) (hr : r < B 0) (hi : i + 1 < gsz B r) (hx : x < tR B r (i + 1) n) : uc B (rsc B r i) n x = uR B r (i + 1) n x := by
  have hz := hW.2.2.2.1 r hr
  unfold rsc
  by_cases h : i + 2 = gsz B r
  · rw [if_pos h, uR_last (by omega) hx]
    have := sg_32 hW hr (show i + 1 < gsz B r by omega)
    unfold uc; rw [if_pos (by omega)]
  · rw [if_neg h]; unfold uc; rw [if_neg (by omega), show (32 + 4 * r + i + 1 - 32) / 4 = r by omega, show (32 + 4 * r + i + 1 - 32) % 4 = i + 1 by omega]
theorem lsI_rule (hI : pkI B M0 M st ro lt) {v : Nat} (hl : ro.length < 2147483647) : pkI B M0 (am_up (am_up M 105 (ro.length : Int) (v : Int)) 100 9 ((ro.length + 1 : Nat) : Int)) st (ro ++ [v]) lt := by
  obtain ⟨hF, h7, hst, ⟨l1, l2, l3, l4⟩, ha⟩ := hI
  refine ⟨⟨fun a h => ?_, fun j h1 h2 h3 => ?_⟩, ?_, ?_, ⟨?_, ?_, fun j hj => ?_, fun j hj => ?_⟩, ha⟩
  · rw [up_nc _ _ _ _ (by omega), up_nc _ _ _ _ (by omega)]; exact hF.1 a h
  · rw [up_ni _ _ _ _ h2, up_nc _ _ _ _ (by decide)]; exact hF.2 j h1 h2 h3
  · rw [up_ni _ _ _ _ (by decide), up_nc _ _ _ _ (by decide)]; exact h7
  · refine stk_eq (fun j hj => ⟨?_, ?_, ?_⟩) hst <;> rw [up_nc _ _ _ _ (by decide), up_nc _ _ _ _ (by decide)]
  · rw [up_eq, List.length_append]; rfl
  · rw [up_ni _ _ _ _ (by decide), up_nc _ _ _ _ (by decide)]; exact l2
  · rw [up_nc _ _ _ _ (by decide), up_ci, getD_snoc _ _ _ hj]
    by_cases e : j = ro.length
    · rw [if_pos (by omega), if_pos e]
    · rw [if_neg (by omega), if_neg e]; rw [List.length_append] at hj; exact l3 j (by have hj : j < ro.length + 1 := hj; omega)
  · rw [up_nc _ _ _ _ (by decide), up_nc _ _ _ _ (by decide)]; exact l4 j hj
theorem lsI_let (hI : pkI B M0 M st ro lt) {v : Nat} (hl : lt.length < 2147483647) : pkI B M0 (am_up (am_up M 106 (lt.length : Int) (v : Int)) 100 11 ((lt.length + 1 : Nat) : Int)) st ro (lt ++ [v]) := by
  obtain ⟨hF, h7, hst, ⟨l1, l2, l3, l4⟩, ha⟩ := hI
  refine ⟨⟨fun a h => ?_, fun j h1 h2 h3 => ?_⟩, ?_, ?_, ⟨?_, ?_, fun j hj => ?_, fun j hj => ?_⟩, ha⟩
  · rw [up_nc _ _ _ _ (by omega), up_nc _ _ _ _ (by omega)]; exact hF.1 a h
  · rw [up_ni _ _ _ _ h3, up_nc _ _ _ _ (by decide)]; exact hF.2 j h1 h2 h3
  · rw [up_ni _ _ _ _ (by decide), up_nc _ _ _ _ (by decide)]; exact h7
  · refine stk_eq (fun j hj => ⟨?_, ?_, ?_⟩) hst <;> rw [up_nc _ _ _ _ (by decide), up_nc _ _ _ _ (by decide)]
  · rw [up_ni _ _ _ _ (by decide), up_nc _ _ _ _ (by decide)]; exact l1
  · rw [up_eq, List.length_append]; rfl
  · rw [up_nc _ _ _ _ (by decide), up_nc _ _ _ _ (by decide)]; exact l3 j hj
  · rw [up_nc _ _ _ _ (by decide), up_ci, getD_snoc _ _ _ hj]
    by_cases e : j = lt.length
    · rw [if_pos (by omega), if_pos e]
    · rw [if_neg (by omega), if_neg e]; rw [List.length_append] at hj; exact l4 j (by have hj : j < lt.length + 1 := hj; omega)
/-- a symbol opened up -/
theorem x_pickRule (hg : xgb B M0 2) (hW : gW B) (hT : cT B f M0) (hf : n ≤ f) (h1 : 1 ≤ n) (hn : n ≤ 24) (hs : s < 8) (hx3 : x < 4294967296) (hx : x < tT B s n) (hI : pkI B M0 M st ro lt) (hl : st.length < 64) (hro : ro.length < 400)
    (hQ : ∀ M', pkI B M0 M' ((rwc B (q_find (tm B s n) (B 0) 0 x).1, n, (q_find (tm B s n) (B 0) 0 x).2) :: st) (ro ++ [(q_find (tm B s n) (B 0) 0 x).1]) lt → Q 0 M') : am_s am_P am_gg (d + 3) 155 [.inr (.inr 101), .inl (s : Int), .inl (n : Int), .inr (.inl (x : Int))] M Q := by
  have hn16 := hW.1
  refine (v_155_101 _ _ _ _ _ _).mpr ?_
  refine am_x_le [some (.inr (.inr 101)), some (.inl ((s : Int))), some (.inl ((n : Int))), none, none, some (.inr (.inl (x : Int))), none, some (.inl (((0 : Nat) : Int))), none, none] (am_lb_le _ _ ⟨rfl, rfl, rfl, rfl, rfl, trivial⟩) ?_
  have hg' := xgb_pk hI.1 hg
  obtain ⟨c1, c2, c3, c4, c5⟩ := u_rule hW hs hn hx
  have main : ∀ m k y, k + m = B 0 → y < 4294967296 → q_find (tm B s n) m k y = q_find (tm B s n) (B 0) 0 x → am_x am_P am_gg (d + 2) am_k155 0 Q 6 [some (.inr (.inr 101)), some (.inl ((s : Int))), some (.inl ((n : Int))), none, none, some (.inr (.inl (y : Int))), none, some (.inl ((k : Int))), none, none] [] M 0 0 := by
    intro m
    induction m with
    | zero =>
      intro k y hk hy he
      have : (q_find (tm B s n) (B 0) 0 x).1 = k := by rw [← he]; rfl
      omega
    | succ m ih =>
      intro k y hk hy he
      have e1 : q_find (tm B s n) (m + 1) k y = if y < tm B s n k then (k, y) else q_find (tm B s n) m (k + 1) (y - tm B s n k) := rfl
      refine (h_155_6_101 _ _ _ _ _ _ _).mpr ?_
      have hB0 : M 2 1 = (B 0 : Int) := hg'.1
      obtain ⟨b1, b2, b3, b4⟩ := hg'.2.2.2.2.1 k (by omega)
      have b1 : M 3 (k : Int) = (gsy B k : Int) := b1
      rw [hB0]
      rw [if_pos (by omega)]
      rw [if_pos (by omega)]
      rw [b1]
      have skip : ¬ (gon B k = true ∧ gsy B k = s) → am_x am_P am_gg (d + 2) am_k155 0 Q 6 [some (.inr (.inr 101)), some (.inl ((s : Int))), some (.inl ((n : Int))), none, none, some (.inr (.inl (y : Int))), none, some (.inl (w32 ((k : Int) + 1))), none, none] [] M 0 0 := by
        intro hno
        have e0 : tm B s n k = 0 := by unfold tm; rw [if_neg hno]
        rw [w32_s (by omega)]
        refine ih (k + 1) y (by omega) hy ?_
        rw [← he, e1, if_neg (by omega), e0, Nat.sub_zero]
      refine @p_if _ _ _ _ ?_ ?_
      · intro hy'
        have hy' : gsy B k = s := by omega
        refine x_isOn hg' hW.on (by omega) ?_ ?_
        · intro ho
          rw [if_neg (by omega)]
          have e0 : tm B s n k = tR B k 0 n := by unfold tm; rw [if_pos ⟨ho, hy'⟩]
          refine x_rowCode hg' hW (by omega) (x_of (rwc_lt hW (by omega)) hn (tbl_pk hI.1 (tbl_rwc hW hT (by omega) ho h1 hf hn)) ?_)
          rw [cv_rwc hW (by omega) h1]
          refine @p_if _ _ _ _ ?_ ?_
          · intro hc; have hc := lc_lt.mp hc
            rw [e1, if_pos (by omega)] at he
            rw [← he] at hQ c4
            have hl9 := hI.2.2.2.1.1
            rw [hl9]
            rw [if_pos (by omega)]
            rw [if_pos (by omega)]
            have hI2 := lsI_rule hI (v := k) (by omega)
            rw [w32_s (by omega)]
            refine x_rowCode (xgb_pk hI2.1 hg) hW (by omega) ?_
            exact x_push hI2 ⟨pcd_rwc hW (by omega) ho, h1, hn, by dsimp only; rw [cv_rwc hW (by omega) h1]; omega, hy⟩ hl hQ
          · intro hc; have hc := mt lc_lt.mpr hc
            rw [w32_s (by omega), show w64 ((y : Int) - (tR B k 0 n : Int)) = ((y - tm B s n k : Nat) : Int) by rw [w64_i (by omega) (by omega)]; omega]
            refine am_x_le [some (.inr (.inr 101)), some (.inl ((s : Int))), some (.inl ((n : Int))), none, none, some (.inr (.inl ((y - tm B s n k : Nat) : Int))), none, some (.inl (((k + 1 : Nat) : Int))), none, none] (am_lb_le _ _ ⟨rfl, rfl, rfl, rfl, rfl, trivial⟩) ?_
            refine ih (k + 1) _ (by omega) (by omega) ?_
            rw [← he, e1, if_neg (by omega)]
        · intro ho
          rw [if_pos (by omega)]
          exact skip (fun q => by rw [ho] at q; cases q.1)
      · intro hy'; exact skip (fun q => hy' (by omega))
  exact main (B 0) 0 x (by omega) hx3 rfl
/-- a row's end opened up -/
theorem x_pickCut (hg : xgb B M0 2) (hW : gW B) (hT : cT B f M0) (hf : n ≤ f) (hn : n ≤ 24) (hr : r < B 0) (ho : gon B r = true) (hi : i + 1 < gsz B r) (hx3 : x < 4294967296) (hx : x < tR B r i n) (hI : pkI B M0 M st ro lt) (hl : st.length < 62)
    (hQ : ∀ M', pkI B M0 M' ((gsg B r i, (q_find (ctm B r i n) n 0 x).1 + 1, (q_find (ctm B r i n) n 0 x).2 / tR B r (i + 1) (n - ((q_find (ctm B r i n) n 0 x).1 + 1))) :: (rsc B r i, n - ((q_find (ctm B r i n) n 0 x).1 + 1), (q_find (ctm B r i n) n 0 x).2 % tR B r (i + 1) (n - ((q_find (ctm B r i n) n 0 x).1 + 1))) :: st) ro lt → Q 0 M') : am_s am_P am_gg (d + 3) 156 [.inr (.inr 101), .inl (r : Int), .inl (i : Int), .inl (n : Int), .inr (.inl (x : Int))] M Q := by
  have hn16 := hW.1
  have hz := hW.2.2.2.1 r hr
  refine (v_156_101 _ _ _ _ _ _ _).mpr ?_
  have hg' := xgb_pk hI.1 hg
  refine x_signAt hg' hW hr (by omega) (x_restCode hg' hW hr hi ?_)
  refine am_x_le [some (.inr (.inr 101)), none, none, some (.inl ((n : Int))), none, none, some (.inl ((gsg B r i : Int))), some (.inl ((rsc B r i : Int))), some (.inr (.inl (x : Int))), none, some (.inl (((0 + 1 : Nat) : Int))), none, none, none, none] (am_lb_le _ _ ⟨rfl, rfl, rfl, rfl, rfl, rfl, trivial⟩) ?_
  obtain ⟨c1, c2, c3, c4, c5, c6, c7⟩ := u_cut (by omega) hx
  have hsg := sg_32 hW hr (show i < gsz B r by omega)
  have main : ∀ m k y, k + m = n → y < 4294967296 → q_find (ctm B r i n) m k y = q_find (ctm B r i n) n 0 x → am_x am_P am_gg (d + 2) am_k156 0 Q 29 [some (.inr (.inr 101)), none, none, some (.inl ((n : Int))), none, none, some (.inl ((gsg B r i : Int))), some (.inl ((rsc B r i : Int))), some (.inr (.inl (y : Int))), none, some (.inl (((k + 1 : Nat) : Int))), none, none, none, none] [] M 0 0 := by
    intro m
    induction m with
    | zero =>
      intro k y hk hy he
      have : (q_find (ctm B r i n) n 0 x).1 = k := by rw [← he]; rfl
      omega
    | succ m ih =>
      intro k y hk hy he
      have e1 : q_find (ctm B r i n) (m + 1) k y = if y < ctm B r i n k then (k, y) else q_find (ctm B r i n) m (k + 1) (y - ctm B r i n k) := rfl
      have hle : k ≤ (q_find (ctm B r i n) n 0 x).1 := by
        rw [← he]
        have : ∀ m k y, k ≤ (q_find (ctm B r i n) m k y).1 := by
          intro m
          induction m with
          | zero => intro k y; exact Nat.le_refl _
          | succ m ih =>
            intro k y
            show k ≤ (if _ then _ else _ : Nat × Nat).1
            split
            · exact Nat.le_refl _
            · exact Nat.le_trans (Nat.le_succ k) (ih _ _)
        exact this _ _ _
      refine (h_156_29_101 _ _ _ _ _ _ _ _).mpr ?_
      rw [if_pos (by omega)]
      rw [show w32 ((n : Int) - ((k + 1 : Nat) : Int)) = ((n - (k + 1) : Nat) : Int) by rw [w32_i (by omega) (by omega)]; omega]
      refine x_of (rsc_lt hW hr hi) (by omega) (tbl_pk hI.1 (tbl_rsc hW hT hr ho hi (by omega) (by omega) (by omega))) (x_of (by omega) (by omega) (tbl_pk hI.1 (tbl_sg hW hT hr (by omega) (by omega) (by omega) (by omega))) ?_)
      refine x_times cv_le cv_le ?_
      rw [cv_sg (by omega), cv_rsc hW hr hi (by omega)]
      have e2 : ctm B r i n k = min (tT B (gsg B r i) (k + 1) * tR B r (i + 1) (n - (k + 1))) tG := rfl
      rw [← e2]
      refine @p_if _ _ _ _ ?_ ?_
      · intro hc; have hc := lc_lt.mp hc
        rw [e1, if_pos (by omega)] at he
        rw [← he] at hQ c4 c5 c7
        dsimp only at hQ c4 c5 c7
        rw [if_pos (by rw [lc_gt]; omega)]
        rw [if_neg (by omega)]
        have hdl : y / tR B r (i + 1) (n - (k + 1)) ≤ y := Nat.div_le_self _ _
        have hml : y % tR B r (i + 1) (n - (k + 1)) ≤ y := Nat.mod_le _ _
        rw [tdiv_n, tmod_n, w64_n (by omega), w64_n (by omega)]
        refine x_push hI ⟨pcd_rsc hW hr ho hi, by dsimp only; omega, by dsimp only; omega, by dsimp only; rw [cv_rsc hW hr hi (by omega)]; exact Nat.mod_lt _ c4, by dsimp only; omega⟩ (by omega) (fun M2 hI2 => ?_)
        rw [if_neg (by omega)]
        exact x_push hI2 ⟨pcd_sg hW hr (by omega), by dsimp only; omega, by dsimp only; omega, by dsimp only; rw [cv_sg (by omega)]; exact c5, by dsimp only; omega⟩ (by show st.length + 1 < 64; omega) hQ
      · intro hc; have hc := mt lc_lt.mpr hc
        rw [w32_s (by omega), show w64 ((y : Int) - (ctm B r i n k : Int)) = ((y - ctm B r i n k : Nat) : Int) by rw [w64_i (by omega) (by omega)]; omega]
        refine am_x_le [some (.inr (.inr 101)), none, none, some (.inl ((n : Int))), none, none, some (.inl ((gsg B r i : Int))), some (.inl ((rsc B r i : Int))), some (.inr (.inl ((y - ctm B r i n k : Nat) : Int))), none, some (.inl (((k + 1 + 1 : Nat) : Int))), none, none, none, none] (am_lb_le _ _ ⟨rfl, rfl, rfl, rfl, rfl, rfl, trivial⟩) ?_
        refine ih (k + 1) _ (by omega) (by omega) ?_
        rw [← he, e1, if_neg (by omega)]
  exact main n 0 x (by omega) hx3 rfl
end S9t
