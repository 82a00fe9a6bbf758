/-! what the acts come to; the reference's acts -/
def by8 (a : Int) : Nat → Nat
  | 0 => (a / 16777216 % 256).toNat
  | 1 => (a / 65536 % 256).toNat
  | 2 => (a / 256 % 256).toNat
  | _ => (a % 256).toNat
theorem by8_0 (a : Int) : by8 a 0 = (a / 16777216 % 256).toNat := rfl
theorem by8_1 (a : Int) : by8 a 1 = (a / 65536 % 256).toNat := rfl
theorem by8_2 (a : Int) : by8 a 2 = (a / 256 % 256).toNat := rfl
theorem by8_3 (a : Int) (k : Nat) : by8 a (k + 3) = (a % 256).toNat := rfl
theorem by8_lt (a : Int) : ∀ k, by8 a k < 256
  | 0 => by rw [by8_0]; omega
  | 1 => by rw [by8_1]; omega
  | 2 => by rw [by8_2]; omega
  | k + 3 => by rw [by8_3]; omega
def sp_lay (p : Nat × (Nat → Nat)) (a : Int) : Nat × (Nat → Nat) := (p.1 + 4, fun i => if p.1 ≤ i ∧ i < p.1 + 4 then by8 a (i - p.1) else p.2 i)
def sp_lays (p : Nat × (Nat → Nat)) (a b c d e : Int) : Nat × (Nat → Nat) := sp_lay (sp_lay (sp_lay (sp_lay (sp_lay p a) b) c) d) e
def sp_status (s : sS) : Int × sS := (s.st, s)
def sp_fault (s : sS) (w : Int) : Int × sS := (if w = 0 then s.fk else if w = 1 then s.fa else -1, s)
def sp_feed (s : sS) (a b c d e : Int) : Int × sS := if 380 < s.tn then (-1, s) else (((s.tn + 20 : Nat) : Int), (s.st, s.fk, s.fa, (sp_lays (s.tn, s.tp) a b c d e).1, (sp_lays (s.tn, s.tp) a b c d e).2, s.B, s.H))
def sp_drop (s : sS) (n : Int) : Int × sS := if 0 ≤ n ∧ n ≤ s.tn then (s.tn - n, (0, s.fk, s.fa, s.tn - n.toNat, s.tp, s.B, s.H)) else (-1, s.S 1)
def sp_keep (s : sS) (B' : Nat → Nat) : sS := (0, s.fk, s.fa, s.tn, s.tp, B', (s.B :: s.H).take 8)
def sp_turn (s : sS) (a b : Int) : Int × sS := if 0 ≤ a ∧ a < s.B 0 then (if (if gon s.B a.toNat then (1 : Int) else 0) = b then (-1, s.S 3) else ((cnt (s.B 1 ^^^ 2 ^ a.toNat).testBit 32 : Nat), sp_keep s (gU s.B 1 (s.B 1 ^^^ 2 ^ a.toNat)))) else (-1, s.S 2)
def sp_weigh (s : sS) (a w : Int) : Int × sS := if 0 ≤ w ∧ w ≤ 9 then (if 0 ≤ a ∧ a < s.B 0 then (if (gwt s.B a.toNat : Int) = w then (-1, s.S 3) else ((gwt s.B a.toNat : Int), sp_keep s (gU s.B (35 + a.toNat) w.toNat))) else (-1, s.S 2)) else (-1, s.S 1)
noncomputable def sp_start (s : sS) (a : Int) : Int × sS := if 0 ≤ a ∧ a < 8 then (@ite _ (gT s.B a) (Classical.propDecidable _) (if (s.B 2 : Int) = a then (-1, s.S 3) else ((s.B 2 : Int), sp_keep s (gU s.B 2 a.toNat))) (-1, s.S 2)) else (-1, s.S 1)
def sp_undo (s : sS) : Int × sS := match s.H with
  | [] => (-1, s.S 6)
  | B :: T => ((T.length : Int), (0, s.fk, s.fa, s.tn, s.tp, B, T))
theorem gW_on {B : Nat → Nat} (h : gW B) {v : Nat} (hv : v < 2 ^ B 0) : gW (gU B 1 v) := by
  obtain ⟨h1, h2, h3, h4, h5⟩ := h
  exact ⟨h1, hv, h3, fun r hr => by
    have := h4 r hr
    have e1 : gsy (gU B 1 v) r = gsy B r := by unfold gsy gU; rw [if_neg (by omega)]
    have e2 : gsz (gU B 1 v) r = gsz B r := by unfold gsz gU; rw [if_neg (by omega)]
    have e3 : gwt (gU B 1 v) r = gwt B r := by unfold gwt gU; rw [if_neg (by omega)]
    have e4 : ∀ i, gsg (gU B 1 v) r i = gsg B r i := fun i => by unfold gsg gU; rw [if_neg (by omega)]
    rw [e1, e2, e3]
    exact ⟨this.1, this.2.1, this.2.2.1, this.2.2.2.1, fun i hi => by rw [e4]; exact this.2.2.2.2 i hi⟩, by
    obtain ⟨pos, p1, p2⟩ := h5
    refine ⟨pos, p1, fun r hr g1 g2 => ?_⟩
    have e1 : gsy (gU B 1 v) r = gsy B r := by unfold gsy gU; rw [if_neg (by omega)]
    have e2 : gsz (gU B 1 v) r = gsz B r := by unfold gsz gU; rw [if_neg (by omega)]
    have e4 : ∀ i, gsg (gU B 1 v) r i = gsg B r i := fun i => by unfold gsg gU; rw [if_neg (by omega)]
    rw [e2] at g1; rw [e4] at g2; rw [e4, e1]
    exact p2 r hr g1 g2⟩
theorem gW_st {B : Nat → Nat} (h : gW B) {v : Nat} (hv : v < 8) : gW (gU B 2 v) := by
  obtain ⟨h1, h2, h3, h4, h5⟩ := h
  exact ⟨h1, h2, hv, fun r hr => by
    have := h4 r hr
    have e1 : gsy (gU B 2 v) r = gsy B r := by unfold gsy gU; rw [if_neg (by omega)]
    have e2 : gsz (gU B 2 v) r = gsz B r := by unfold gsz gU; rw [if_neg (by omega)]
    have e3 : gwt (gU B 2 v) r = gwt B r := by unfold gwt gU; rw [if_neg (by omega)]
    have e4 : ∀ i, gsg (gU B 2 v) r i = gsg B r i := fun i => by unfold gsg gU; rw [if_neg (by omega)]
    rw [e1, e2, e3]
    exact ⟨this.1, this.2.1, this.2.2.1, this.2.2.2.1, fun i hi => by rw [e4]; exact this.2.2.2.2 i hi⟩, by
    obtain ⟨pos, p1, p2⟩ := h5
    refine ⟨pos, p1, fun r hr g1 g2 => ?_⟩
    have e1 : gsy (gU B 2 v) r = gsy B r := by unfold gsy gU; rw [if_neg (by omega)]
    have e2 : gsz (gU B 2 v) r = gsz B r := by unfold gsz gU; rw [if_neg (by omega)]
    have e4 : ∀ i, gsg (gU B 2 v) r i = gsg B r i := fun i => by unfold gsg gU; rw [if_neg (by omega)]
    rw [e2] at g1; rw [e4] at g2; rw [e4, e1]
    exact p2 r hr g1 g2⟩
theorem gW_wt {B : Nat → Nat} (h : gW B) {q v : Nat} (hq : q < 16) (hv : v ≤ 9) : gW (gU B (35 + q) v) := by
  obtain ⟨h1, h2, h3, h4, h5⟩ := h
  have z0 : gU B (35 + q) v 0 = B 0 := by unfold gU; rw [if_neg (by omega)]
  have z1 : gU B (35 + q) v 1 = B 1 := by unfold gU; rw [if_neg (by omega)]
  have z2 : gU B (35 + q) v 2 = B 2 := by unfold gU; rw [if_neg (by omega)]
  unfold gW
  rw [z0, z1, z2]
  exact ⟨h1, h2, h3, fun r hr => by
    have := h4 r hr
    have e1 : gsy (gU B (35 + q) v) r = gsy B r := by unfold gsy gU; rw [if_neg (by omega)]
    have e2 : gsz (gU B (35 + q) v) r = gsz B r := by unfold gsz gU; rw [if_neg (by omega)]
    have e3 : gwt (gU B (35 + q) v) r ≤ 9 := by unfold gwt gU; split; exact hv; exact this.2.2.2.1
    have e4 : ∀ i, gsg (gU B (35 + q) v) r i = gsg B r i := fun i => by unfold gsg gU; rw [if_neg (by omega)]
    rw [e1, e2]
    exact ⟨this.1, this.2.1, this.2.2.1, e3, fun i hi => by rw [e4]; exact this.2.2.2.2 i hi⟩, by
    obtain ⟨pos, p1, p2⟩ := h5
    refine ⟨pos, p1, fun r hr g1 g2 => ?_⟩
    have e1 : gsy (gU B (35 + q) v) r = gsy B r := by unfold gsy gU; rw [if_neg (by omega)]
    have e2 : gsz (gU B (35 + q) v) r = gsz B r := by unfold gsz gU; rw [if_neg (by omega)]
    have e4 : ∀ i, gsg (gU B (35 + q) v) r i = gsg B r i := fun i => by unfold gsg gU; rw [if_neg (by omega)]
    rw [e2] at g1; rw [e4] at g2; rw [e4, e1]
    exact p2 r hr g1 g2⟩
theorem rb_gU {f : Int → Int} {B : Nat → Nat} (h : rb f 0 B) {k v : Nat} (hk : k < 115) {f' : Int → Int} (he : ∀ j : Int, f' j = if j = (k : Int) then (v : Int) else f j) : rb f' 0 (gU B k v) := by
  intro j hj
  rw [he, Nat.zero_add]
  unfold gU
  by_cases q : j = k
  · subst q; rw [if_pos rfl, if_pos rfl]
  · rw [if_neg (by omega), if_neg q, h.at hj]
/-- what a call of the reference leaves as it was -/
def rA (s s' : sS) (M M' : Nat → Int → Int) : Prop := (∀ c, c ≠ 173 → c ≠ 174 → c ≠ 175 → M' c = M c) ∧ (∀ i : Int, 12 ≤ i → M' 173 i = M 173 i) ∧ (M' 173 11 = 0 ∨ M' 173 11 = M 173 11 ∧ s'.B = s.B)
section S54
variable {s : sS} {B : Nat → Nat} {M : Nat → Int → Int} {d : Nat} {Q : Int → (Nat → Int → Int) → Prop}
theorem m_lays {n : Nat} {a : Int} (hn : M 173 5 = (n : Int)) (hn4 : n + 4 ≤ 400) (ha : am_i32 a) (hQ : ∀ M', M' 173 5 = ((n + 4 : Nat) : Int) → (∀ i : Int, i ≠ 5 → M' 173 i = M 173 i) → (∀ c, c ≠ 173 → c ≠ 175 → M' c = M c) → (∀ j : Nat, M' 175 (j : Int) = if n ≤ j ∧ j < n + 4 then w8 (by8 a (j - n) : Int) else M 175 (j : Int)) → Q 0 M') : am_s am_P am_gg (d + 1) 238 [.inr (.inr 174), .inl a] M Q := by
  have k1 : ∀ x : Int, w8 (w8 x) = w8 x := fun x => by unfold w8; omega
  have d0 : w8 (i_shr a 24) = w8 (by8 a 0 : Int) := by
    rw [show (24 : Int) = ((24 : Nat) : Int) from rfl, i_shr_div ha (by decide), show (2 : Int) ^ 24 = 16777216 from rfl, by8_0]; unfold w8; omega
  have d1 : w8 (i_shr a 16) = w8 (by8 a 1 : Int) := by
    rw [show (16 : Int) = ((16 : Nat) : Int) from rfl, i_shr_div ha (by decide), show (2 : Int) ^ 16 = 65536 from rfl, by8_1]; unfold w8; omega
  have d2 : w8 (i_shr a 8) = w8 (by8 a 2 : Int) := by
    rw [show (8 : Int) = ((8 : Nat) : Int) from rfl, i_shr_div ha (by decide), show (2 : Int) ^ 8 = 256 from rfl, by8_2]; unfold w8; omega
  have d3 : w8 (i_shr a 0) = w8 (by8 a 3 : Int) := by
    rw [show (0 : Int) = ((0 : Nat) : Int) from rfl, i_shr_div ha (by decide), show (2 : Int) ^ 0 = 1 from rfl, show by8 a 3 = _ from by8_3 a 0]; unfold w8; omega
  refine (v_238_174 _ _ _ _).mpr ?_
  refine (h_238_3_174 _ _ _ _ _).mpr ?_
  rw [if_neg (by omega)]
  rw [hn]; rw [if_pos (by omega)]
  rw [show w32 (24 + (-8)) = 16 from by decide, w32_s (by omega), k1, d0]
  refine (h_238_3_174 _ _ _ _ _).mpr ?_
  rw [if_neg (by omega)]
  rw [up_eq]; rw [if_pos (by omega)]
  rw [show w32 (16 + (-8)) = 8 from by decide, w32_s (by omega), k1, d1]
  refine (h_238_3_174 _ _ _ _ _).mpr ?_
  rw [if_neg (by omega)]
  rw [up_eq]; rw [if_pos (by omega)]
  rw [show w32 (8 + (-8)) = 0 from by decide, w32_s (by omega), k1, d2]
  refine (h_238_3_174 _ _ _ _ _).mpr ?_
  rw [if_neg (by omega)]
  rw [up_eq]; rw [if_pos (by omega)]
  rw [show w32 (0 + (-8)) = -8 from by decide, w32_s (by omega), k1, d3]
  refine (h_238_3_174 _ _ _ _ _).mpr ?_
  rw [if_pos (by omega)]
  refine hQ _ (up_eq _ _ _ _) ?_ ?_ ?_
  · intro i hi
    simp only [up_if]
    simp [hi]
  · intro c h1 h2
    simp only [up_nc _ _ _ _ h1, up_nc _ _ _ _ h2]
  · intro j
    simp only [up_if]
    simp
    by_cases g3 : j = n + 3
    · subst g3; simp; omega
    by_cases g2 : j = n + 2
    · subst g2; simp; omega
    by_cases g1 : j = n + 1
    · subst g1; simp; omega
    by_cases g0 : j = n
    · subst g0; simp; omega
    rw [if_neg (by omega), if_neg (by omega), if_neg (by omega), if_neg (by omega), if_neg (by omega)]
theorem rb_len : ∀ {H : List (Nat → Nat)} {B : Nat → Nat}, ((B :: H).take 8).length = if H.length < 8 then H.length + 1 else 8 := by
  intro H B
  rw [List.length_take, List.length_cons]
  split <;> omega
theorem rb_get {H : List (Nat → Nat)} {B : Nat → Nat} {j : Nat} (hj : j + 1 < 8) : ((B :: H).take 8).getD (j + 1) (fun _ => 0) = H.getD j (fun _ => 0) := by
  rw [List.getD_eq_getElem?_getD, List.getD_eq_getElem?_getD, List.getElem?_take, if_pos hj]; rfl
theorem rb_cpy {f : Int → Int} {B : Nat → Nat} {o o1 o2 : Nat} (hd : o + 115 ≤ o2 ∨ o2 + 115 ≤ o) {f' : Int → Int} (hf : ∀ j : Int, f' j = if (o2 : Int) ≤ j ∧ j < (o2 : Int) + 115 then f ((o1 : Int) + (j - (o2 : Int))) else f j) (h : rb f o B) : rb f' o B := by
  intro k hk
  rw [hf, if_neg (by omega)]; exact h k hk
theorem rb_cpy_to {f : Int → Int} {B : Nat → Nat} {o1 o2 : Nat} {f' : Int → Int} (hf : ∀ j : Int, f' j = if (o2 : Int) ≤ j ∧ j < (o2 : Int) + 115 then f ((o1 : Int) + (j - (o2 : Int))) else f j) (h : rb f o1 B) : rb f' o2 B := by
  intro k hk
  rw [hf, if_pos (by omega), ← h k hk]; congr 1; omega
theorem cpy_174 (M : Nat → Int → Int) (o1 o2 : Nat) (j : Int) : am_cpy M 174 174 o1 o2 115 174 j = if (o2 : Int) ≤ j ∧ j < (o2 : Int) + 115 then M 174 ((o1 : Int) + (j - (o2 : Int))) else M 174 j := by
  rw [cpy_if]; simp
/-- the grammar is kept -/
theorem m_keeps (h : rS s M) (hQ : ∀ M', rb (M' 174) 0 s.B → rH (M' 174) ((s.B :: s.H).take 8) → M' 173 1 = (((s.B :: s.H).take 8).length : Int) → (∀ i : Int, i ≠ 1 → i ≠ 11 → M' 173 i = M 173 i) → M' 173 11 = 0 → (∀ c, c ≠ 173 → c ≠ 174 → M' c = M c) → (∀ j : Int, 1035 ≤ j → j < 1150 → M' 174 j = M 174 j) → Q 0 M') : am_s am_P am_gg (d + 2) 237 [.inr (.inr 174)] M Q := by
  obtain ⟨hw, h2, h6, h7, h5, h75, hB, h1, hH, hD⟩ := h
  have hL : s.H.length ≤ 8 := hw.2.2.2.2.2.2.1
  refine (v_237_174 _ _ _).mpr ?_
  refine @p_if _ _ _ _ ?_ ?_
  · intro h8
    rw [h1] at h8
    refine p_for (S := (Nat → Int → Int)) (X := fun i M => am_x am_P am_gg (d + 1) am_k237 0 Q 11 [some (.inr (.inr 174)), some (.inl i)] [] M 0 0) 9 (fun i M' => 2 ≤ i ∧ (∀ c, c ≠ 174 → M' c = M c) ∧ (∀ (j k : Nat), j ≤ 9 → k < 115 → M' 174 ((115 * j + k : Nat) : Int) = if 1 ≤ j ∧ j + 1 < i then M 174 ((115 * (j + 1) + k : Nat) : Int) else M 174 ((115 * j + k : Nat) : Int))) ?_ ?_ 2 M (by omega) ⟨by omega, fun _ _ => rfl, fun j k hj hk => by rw [if_neg (by omega)]⟩
    · intro M' ⟨_, hc, hf⟩
      refine (h_237_11_174 _ _ _ _).mpr ?_
      rw [if_pos (by omega)]
      rw [hc 173 (by omega), h1]
      rw [show w32 (115 * w32 (w32 ((s.H.length : Int) - 1) + 1)) = ((920 : Nat) : Int) by rw [h8]; decide]
      rw [show w32 (w32 ((s.H.length : Int) - 1) + 1) = 8 by rw [h8]; decide]
      refine m_copy (o1 := 0) (by omega) (by omega) (by omega) ?_
      have hfc : ∀ j : Int, am_up (am_cpy (am_up (am_up M' 173 1 (w32 ((s.H.length : Int) - 1))) 173 1 8) 174 174 ((0 : Nat) : Int) ((920 : Nat) : Int) 115) 173 11 0 174 j = if ((920 : Nat) : Int) ≤ j ∧ j < ((920 : Nat) : Int) + 115 then M' 174 (((0 : Nat) : Int) + (j - ((920 : Nat) : Int))) else M' 174 j := by
        intro j
        rw [up_nc _ _ _ _ (by omega), cpy_174]; rfl
      refine hQ _ ?_ ?_ ?_ ?_ ?_ ?_ ?_
      · intro k hk
        rw [hfc, if_neg (by omega)]
        have := hf 0 k (by omega) hk
        rw [if_neg (by omega)] at this
        rw [show (0 + k : Nat) = 115 * 0 + k by omega, this, show (115 * 0 + k : Nat) = 0 + k by omega]; exact hB k hk
      · intro j hj
        rw [rb_len, if_neg (by omega)] at hj
        rw [rb_len, if_neg (by omega)]
        match j, hj with
        | 0, _ =>
          intro k hk
          rw [hfc, if_pos (by omega)]
          have := hf 0 k (by omega) hk
          rw [if_neg (by omega)] at this
          rw [show (((0 : Nat) : Int) + (((115 * (8 - 0) + k : Nat) : Int) - ((920 : Nat) : Int))) = ((115 * 0 + k : Nat) : Int) by omega, this, show (115 * 0 + k : Nat) = 0 + k by omega]
          exact hB k hk
        | j + 1, hj =>
          intro k hk
          rw [rb_get (by omega), hfc, if_neg (by omega), hf (8 - (j + 1)) k (by omega) hk, if_pos (by omega)]
          have q := hH j (by omega) k hk
          rw [show s.H.length = 8 by omega] at q
          rw [show 115 * (8 - (j + 1) + 1) + k = 115 * (8 - j) + k by omega]; exact q
      · rw [up_ni _ _ _ _ (by decide), cpy_nc _ _ _ _ _ _ (by decide), up_eq, rb_len, if_neg (by omega)]; rfl
      · intro i g1 g2
        rw [up_ni _ _ _ _ g2, cpy_nc _ _ _ _ _ _ (by decide), up_ni _ _ _ _ g1, up_ni _ _ _ _ g1, hc 173 (by omega)]
      · exact up_eq _ _ _ _
      · intro c g1 g2
        rw [up_nc _ _ _ _ g1, cpy_nc _ _ _ _ _ _ g2, up_nc _ _ _ _ g1, up_nc _ _ _ _ g1, hc c g2]
      · intro j hj hj2
        rw [hfc, if_neg (by omega)]
        obtain ⟨k, rfl⟩ : ∃ k : Nat, j = ((115 * 9 + k : Nat) : Int) := ⟨(j - 1035).toNat, by omega⟩
        rw [hf 9 k (by omega) (by omega), if_neg (by omega)]
    · intro i M' hi ⟨h2i, hc, hf⟩ k
      refine (h_237_11_174 _ _ _ _).mpr ?_
      rw [if_neg (by omega)]
      rw [show w32 (115 * (i : Int)) = ((115 * i : Nat) : Int) by rw [w32_i (by omega) (by omega)]; omega, show w32 (115 * w32 ((i : Int) - 1)) = ((115 * (i - 1) : Nat) : Int) by rw [w32_i (x := (i : Int) - 1) (by omega) (by omega), w32_i (by omega) (by omega)]; omega]
      refine m_copy (by omega) (by omega) (by omega) ?_
      rw [w32_s (by omega)]
      refine k _ ⟨by omega, fun c g => by rw [cpy_nc _ _ _ _ _ _ g, hc c g], fun j t hj ht => ?_⟩
      rw [cpy_174]
      by_cases e : j = i - 1
      · subst e
        rw [if_pos (by omega), if_pos (by omega), show (((115 * i : Nat) : Int) + (((115 * (i - 1) + t : Nat) : Int) - ((115 * (i - 1) : Nat) : Int))) = ((115 * i + t : Nat) : Int) by omega, hf i t (by omega) ht, if_neg (by omega), show i - 1 + 1 = i by omega]
      · rw [if_neg (by omega), hf j t hj ht]
        by_cases g : 1 ≤ j ∧ j + 1 < i
        · rw [if_pos g, if_pos (by omega)]
        · rw [if_neg g, if_neg (by omega)]
  · intro h8
    rw [h1] at h8
    rw [h1, w32_s (by omega), show w32 (115 * ((s.H.length + 1 : Nat) : Int)) = ((115 * (s.H.length + 1) : Nat) : Int) by rw [w32_i (by omega) (by omega)]; omega]
    refine m_copy (o1 := 0) (by omega) (by omega) (by omega) ?_
    have hfc : ∀ j : Int, am_up (am_cpy (am_up M 173 1 ((s.H.length + 1 : Nat) : Int)) 174 174 ((0 : Nat) : Int) ((115 * (s.H.length + 1) : Nat) : Int) 115) 173 11 0 174 j = if ((115 * (s.H.length + 1) : Nat) : Int) ≤ j ∧ j < ((115 * (s.H.length + 1) : Nat) : Int) + 115 then M 174 (((0 : Nat) : Int) + (j - ((115 * (s.H.length + 1) : Nat) : Int))) else M 174 j := by
      intro j
      rw [up_nc _ _ _ _ (by omega), cpy_174]; rfl
    have hl : ((s.B :: s.H).take 8).length = s.H.length + 1 := by rw [rb_len, if_pos (by omega)]
    refine hQ _ (rb_cpy (by omega) hfc hB) ?_ ?_ ?_ ?_ ?_ ?_
    · intro j hj
      rw [hl] at hj ⊢
      match j, hj with
      | 0, _ => exact rb_cpy_to hfc hB
      | j + 1, hj =>
        rw [rb_get (by omega), show s.H.length + 1 - (j + 1) = s.H.length - j by omega]
        exact rb_cpy (by omega) hfc (hH j (by omega))
    · rw [up_ni _ _ _ _ (by decide), cpy_nc _ _ _ _ _ _ (by decide), up_eq, hl]
    · intro i g1 g2
      rw [up_ni _ _ _ _ g2, cpy_nc _ _ _ _ _ _ (by decide), up_ni _ _ _ _ g1]
    · exact up_eq _ _ _ _
    · intro c g1 g2
      rw [up_nc _ _ _ _ g1, cpy_nc _ _ _ _ _ _ g2, up_nc _ _ _ _ g1]
    · intro j hj _
      rw [hfc, if_neg (by omega)]
end S54
