/-! the sentence of a pair -/
noncomputable def pcW (B : Nat → Nat) (c : Nat) : List Nat := xL B (gK B) (gX B) (gsy B (c / 64)) ++ ptW B (yW B (gK B)) (c / 64) 0 (c / 16 % 4) ++ ptW B (yW B (gK B)) (c % 16) 0 (gsz B (c % 16)) ++ ptW B (yW B (gK B)) (c / 64) (c / 16 % 4 + 1) (gsz B (c / 64) - (c / 16 % 4 + 1)) ++ xRt B (gK B) (gX B) (gsy B (c / 64))
noncomputable def pW (B : Nat → Nat) (n : Nat) : List Nat := pcW B (cd (gp B) n)
section S9e
variable {B : Nat → Nat} {M M0 : (Nat → Int → Int)} {d : Nat} {Q : Int → (Nat → Int → Int) → Prop}
theorem row_len1 (hW : gW B) {r : Nat} (ha : avb B (gK B) r (-1)) : (ptW B (yW B (gK B)) r 0 (gsz B r)).length ≤ rc B (gK B) r := by
  have a1 := ptW_len (B := B) (W := yW B (gK B)) (r := r) (f := 0) (c := fun j => if (j : Int) = (-1 : Int) then 0 else cq (gK B) (gsg B r j)) (n := gsz B r) (fun j hj => by
    rw [Nat.zero_add, if_neg (by omega)]; exact sgW_len hW (gpos_ok hW) (gK_ok hW).1 (fun h8 => ha j (by omega) (by omega) h8))
  unfold rc rcb
  omega
theorem pcW_len (hW : gW B) {c : Nat} (h : isP B (gK B) (gX B) c) : (pcW B c).length ≤ 200 := by
  obtain ⟨h1, h2, h3, h4, h5, h6, h7, h8, h9, ha, hb⟩ := h
  have gl := (hW.2.2.2.1 _ h1).1
  have a1 := xLR_len hW (gpos_ok hW) (gK_ok hW).1 (gX_ok hW).1 _ (gsy B (c / 64)) gl h3 (Nat.lt_succ_self _)
  have a2 := row_len hW (gpos_ok hW) (gK_ok hW).1 h4 ha
  have a3 := row_len1 hW h9
  unfold xcc at hb
  unfold pcW
  simp only [List.length_append]
  omega
theorem pW_len (hW : gW B) {n : Nat} (hn : n < gN B) : (pW B n).length ≤ 200 := pcW_len hW (cdP hn).2.1
theorem cd82 (h : pOK B M) {n : Nat} (hn : n < gN B) : M 82 (n : Int) = (cd (gp B) n : Int) := by
  obtain ⟨c1, c2, c3⟩ := cdP hn
  have e := (h.1.1.2.2 _ c1 (gp_iff.mpr c2)).1
  rw [c3] at e; exact e
theorem x_80 {c n : Nat} (hn : n < 1024) (hc : c < 1024) (e : M 82 (n : Int) = (c : Int)) (hQ : Q ((c / 64 : Nat) : Int) M) : am_s am_P am_gg (d + 1) 80 [.inr (.inr 82), .inl (n : Int)] M Q := by
  refine (w_80_82 _ _ _ _).mpr ?_
  rw [e]
  rw [if_pos (by omega)]
  rw [show (6 : Int) = ((6 : Nat) : Int) from rfl, shr_div (by omega) (by omega)]
  exact hQ
theorem x_81 {c n : Nat} (hn : n < 1024) (hc : c < 1024) (e : M 82 (n : Int) = (c : Int)) (hQ : Q ((c / 16 % 4 : Nat) : Int) M) : am_s am_P am_gg (d + 1) 81 [.inr (.inr 82), .inl (n : Int)] M Q := by
  refine (w_81_82 _ _ _ _).mpr ?_
  rw [e]
  rw [if_pos (by omega)]
  rw [show (4 : Int) = ((4 : Nat) : Int) from rfl, shr_div (by omega) (by omega), show (3 : Int) = ((2 ^ 2 - 1 : Nat) : Int) from rfl, and_mod (by omega) (by omega)]
  exact hQ
theorem x_82' {c n : Nat} (hn : n < 1024) (hc : c < 1024) (e : M 82 (n : Int) = (c : Int)) (hQ : Q ((c % 16 : Nat) : Int) M) : am_s am_P am_gg (d + 1) 82 [.inr (.inr 82), .inl (n : Int)] M Q := by
  refine (v_82_82 _ _ _ _).mpr ?_
  rw [e]
  rw [if_pos (by omega)]
  rw [show (15 : Int) = ((2 ^ 4 - 1 : Nat) : Int) from rfl, and_mod (by omega) (by omega)]
  exact hQ
/-- what is spelled is what was asked for -/
def spI (B : Nat → Nat) (M : (Nat → Int → Int)) : Prop := ∀ n : Nat, n < gN B → M 81 16 = (n : Int) → lw (pW B n) 91 M
def spF (M M' : (Nat → Int → Int)) : Prop := (∀ c, c ≠ 81 → c ≠ 91 → c ≠ 92 → M' c = M c) ∧ ∀ i : Int, i ≠ 16 → M' 81 i = M 81 i
theorem x_spell (hW : gW B) (hg : xgb B M 2) (hc : chOK B M) (hp : pOK B M) (hs : spI B M) {n : Nat} (hn : n < gN B) (hQ : ∀ M', spF M M' → lw (pW B n) 91 M' → M' 81 16 = (n : Int) → Q 92 M') : am_s am_P am_gg (d + 4) 103 [.inr (.inr 82), .inl (n : Int)] M Q := by
  have n2 := gN_le (B := B)
  have len := pW_len hW hn
  obtain ⟨c1, c2, c3⟩ := cdP hn
  have e82 := cd82 hp hn
  refine (w_103_82 _ _ _ _).mpr ?_
  refine @p_if _ _ _ _ ?_ ?_
  · intro e
    exact hQ M ⟨fun _ _ _ _ => rfl, fun _ _ => rfl⟩ (hs n hn e) e
  intro _
  generalize hM1 : am_up M 81 16 (n : Int) = M1
  have o1 : ∀ c, c ≠ 81 → M1 c = M c := fun c a => by rw [← hM1, up_nc _ _ _ _ a]
  have i1 : ∀ i : Int, i ≠ 16 → M1 81 i = M 81 i := fun i a => by rw [← hM1, up_ni _ _ _ _ a]
  have e16 : M1 81 16 = (n : Int) := by rw [← hM1, up_eq]
  have e821 : M1 82 (n : Int) = (cd (gp B) n : Int) := by rw [o1 82 (by decide)]; exact e82
  unfold pW at len hQ
  generalize cd (gp B) n = c at *
  refine x_80 (by omega) c1 e821 (x_81 (by omega) c1 e821 (x_82' (by omega) c1 e821 ?_))
  obtain ⟨h1, h2, h3, h4, h5, h6, h7, h8, h9, ha, hb⟩ := c2
  have hn16 := hW.1
  obtain ⟨gl, s1, s4, -, -⟩ := hW.2.2.2.1 _ h1
  have so4 := (hW.2.2.2.1 _ h6).2.2.1
  have keep : ∀ M', lF 91 M1 M' → xgb B M' 2 ∧ chOK B M' := fun M' f => ⟨xgb_eq hg (fun c _ _ => by rw [f c (by omega) (by omega), o1 c (by omega)]), chOK_cong hc (fun i _ => by rw [f 22 (by decide) (by decide), o1 22 (by decide)]) (fun c a b => by rw [f c (by omega) (by omega), o1 c (by omega)])⟩
  have L91 : ltB 91 = true := by decide
  rw [if_pos (by omega)]
  refine x_ltclear L91 (fun M2 f2 l2 => ?_)
  obtain ⟨hg2, hc2⟩ := keep M2 f2
  rw [o1 3 (by decide), xg_sy hg h1]
  rw [if_pos (by omega)]
  obtain ⟨rm1, rm2, rm3⟩ := rf_made (gsy B (c / 64)) gl
  obtain ⟨lm1, lm2, lm3⟩ := ltB_m gl
  rw [rm2]
  refine am_x_le [some (.inr (.inr 82)), none, some (.inl (((c / 64 : Nat) : Int))), some (.inl (((c / 16 % 4 : Nat) : Int))), some (.inl (((c % 16 : Nat) : Int))), some (.inl ((gsy B (c / 64) : Int)))] (am_lb_le _ _ ⟨rfl, rfl, rfl, rfl, rfl, trivial⟩) ?_
  refine (g_103_64_82_sL_s92 _ _ _ _ _ _ _ _).mpr ?_
  obtain ⟨w1, w2⟩ := hc2.2.2.2.2.2.2 _ gl h3
  have lsum : (xL B (gK B) (gX B) (gsy B (c / 64))).length + (ptW B (yW B (gK B)) (c / 64) 0 (c / 16 % 4)).length + (ptW B (yW B (gK B)) (c % 16) 0 (gsz B (c % 16))).length + (ptW B (yW B (gK B)) (c / 64) (c / 16 % 4 + 1) (gsz B (c / 64) - (c / 16 % 4 + 1))).length + (xRt B (gK B) (gX B) (gsy B (c / 64))).length ≤ 200 := by
    unfold pcW at len
    simp only [List.length_append] at len
    exact len
  refine x_ltaddAll (L := 91) (N := 35 + 6 * gsy B (c / 64)) L91 lm2 (by omega) l2 w1 (by rw [List.length_nil]; omega) (fun M3 f3 l3 => ?_)
  rw [List.nil_append] at l3
  have f3' : lF 91 M1 M3 := lF_tr f2 f3
  obtain ⟨hg3, hc3⟩ := keep M3 f3'
  have md : ∀ M', chOK B M' → ∀ r b, r < B 0 → avb B (gK B) r b → ∀ i : Nat, i < gsz B r → (i : Int) ≠ b → gsg B r i < 8 → mdW B (gK B) M' (gsg B r i) ∧ 33 + 6 * gsg B r i ≠ 91 := fun M' h r b _ hav i hi ne h8 => ⟨h.2.2.2.2.2.1 _ h8 (hav i hi ne h8), by omega⟩
  have sp1 := x_spellPart (d := d + 1) (M := M3) (Q := fun r2 M2 => (if 0 ≤ ((c % 16 : Nat) : Int) ∧ ((c % 16 : Nat) : Int) < 16 then am_s am_P am_gg (d + 3) 39 [.inr (.inr 23), .inl ((c % 16 : Nat) : Int), .inl 0, .inl (M2 4 ((c % 16 : Nat) : Int)), .inr (.inr 92)] M2 (fun r3 M3 => (if 0 ≤ ((c / 64 : Nat) : Int) ∧ ((c / 64 : Nat) : Int) < 16 then am_s am_P am_gg (d + 3) 39 [.inr (.inr 23), .inl ((c / 64 : Nat) : Int), .inl (w32 (((c / 16 % 4 : Nat) : Int) + 1)), .inl (M3 4 ((c / 64 : Nat) : Int)), .inr (.inr 92)] M3 (fun r4 M4 => (if 0 ≤ (gsy B (c / 64) : Int) ∧ (gsy B (c / 64) : Int) < 8 then am_x am_P am_gg (d + 3) am_k103 3 Q 143 [some (.inr (.inr 82)), none, some (.inl (((c / 64 : Nat) : Int))), some (.inl (((c / 16 % 4 : Nat) : Int))), some (.inl (((c % 16 : Nat) : Int))), some (.inl ((gsy B (c / 64) : Int)))] [.inr (.inr (am_rfF 32 (gsy B (c / 64) : Int))), .inr (.inr 92)] M4 0 0 else False)) else False)) else False)) hW (K := gK B) (r := c / 64) (f := 0) (n := c / 16 % 4) (L := 91) h1 (by omega) L91 hg3 (fun i a b h8 => md M3 hc3 _ _ h1 ha i (by omega) (by omega) h8) l3 (by omega) (fun M4 f4 l4 => ?_)
  · rw [Nat.zero_add] at sp1
    exact sp1
  have f4' : lF 91 M1 M4 := lF_tr f3' f4
  obtain ⟨hg4, hc4⟩ := keep M4 f4'
  rw [if_pos (by omega)]
  rw [xg_sz hg4 h6]
  have sp2 := x_spellPart (d := d + 1) (M := M4) (Q := fun r3 M3 => (if 0 ≤ ((c / 64 : Nat) : Int) ∧ ((c / 64 : Nat) : Int) < 16 then am_s am_P am_gg (d + 3) 39 [.inr (.inr 23), .inl ((c / 64 : Nat) : Int), .inl (w32 (((c / 16 % 4 : Nat) : Int) + 1)), .inl (M3 4 ((c / 64 : Nat) : Int)), .inr (.inr 92)] M3 (fun r4 M4 => (if 0 ≤ (gsy B (c / 64) : Int) ∧ (gsy B (c / 64) : Int) < 8 then am_x am_P am_gg (d + 3) am_k103 3 Q 143 [some (.inr (.inr 82)), none, some (.inl (((c / 64 : Nat) : Int))), some (.inl (((c / 16 % 4 : Nat) : Int))), some (.inl (((c % 16 : Nat) : Int))), some (.inl ((gsy B (c / 64) : Int)))] [.inr (.inr (am_rfF 32 (gsy B (c / 64) : Int))), .inr (.inr 92)] M4 0 0 else False)) else False)) hW (K := gK B) (r := c % 16) (f := 0) (n := gsz B (c % 16)) (L := 91) h6 (by omega) L91 hg4 (fun i a b h8 => md M4 hc4 _ _ h6 h9 i (by omega) (by omega) h8) l4 (by rw [List.length_append]; omega) (fun M5 f5 l5 => ?_)
  · rw [Nat.zero_add] at sp2
    exact sp2
  have f5' : lF 91 M1 M5 := lF_tr f4' f5
  obtain ⟨hg5, hc5⟩ := keep M5 f5'
  rw [if_pos (by omega)]
  rw [xg_sz hg5 h1, w32_s (i := c / 16 % 4) (by omega)]
  have sp3 := x_spellPart (d := d + 1) (M := M5) (Q := fun r4 M4 => (if 0 ≤ (gsy B (c / 64) : Int) ∧ (gsy B (c / 64) : Int) < 8 then am_x am_P am_gg (d + 3) am_k103 3 Q 143 [some (.inr (.inr 82)), none, some (.inl (((c / 64 : Nat) : Int))), some (.inl (((c / 16 % 4 : Nat) : Int))), some (.inl (((c % 16 : Nat) : Int))), some (.inl ((gsy B (c / 64) : Int)))] [.inr (.inr (am_rfF 32 (gsy B (c / 64) : Int))), .inr (.inr 92)] M4 0 0 else False)) hW (K := gK B) (r := c / 64) (f := c / 16 % 4 + 1) (n := gsz B (c / 64) - (c / 16 % 4 + 1)) (L := 91) h1 (by omega) L91 hg5 (fun i a b h8 => md M5 hc5 _ _ h1 ha i (by omega) (by omega) h8) l5 (by simp only [List.length_append]; omega) (fun M6 f6 l6 => ?_)
  · rw [show c / 16 % 4 + 1 + (gsz B (c / 64) - (c / 16 % 4 + 1)) = gsz B (c / 64) by omega] at sp3
    exact sp3
  have f6' : lF 91 M1 M6 := lF_tr f5' f6
  obtain ⟨hg6, hc6⟩ := keep M6 f6'
  rw [if_pos (by omega)]
  rw [rm3]
  refine am_x_le [some (.inr (.inr 82)), none, none, none, none, none] (am_lb_le _ _ ⟨rfl, trivial⟩) ?_
  refine (g_103_143_82_sL_s92 _ _ _ _).mpr ?_
  obtain ⟨v1, v2⟩ := hc6.2.2.2.2.2.2 _ gl h3
  refine x_ltaddAll (L := 91) (N := 37 + 6 * gsy B (c / 64)) L91 lm3 (by omega) l6 v2 (by simp only [List.length_append]; omega) (fun M7 f7 l7 => ?_)
  have f7' : lF 91 M1 M7 := lF_tr f6' f7
  refine hQ M7 ⟨fun c a b e => by rw [f7' c b e, o1 c a], fun i a => by rw [f7' 81 (by decide) (by decide), i1 i a]⟩ ?_ (by rw [f7' 81 (by decide) (by decide), e16])
  unfold pcW
  exact l7
end S9e
