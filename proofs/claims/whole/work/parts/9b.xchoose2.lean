/-! the class: the cover is chosen as the reference chooses it -/
section S9b
variable {B : Nat → Nat} {M M0 : (Nat → Int → Int)} {d : Nat} {Q : Int → (Nat → Int → Int) → Prop}
theorem cnt_code {R : Nat → Prop} : ∀ t, cnt (dc (fun c => gp B c = true ∧ R (cnt (gp B) c))) t = cnt (dc R) (cnt (gp B) t)
  | 0 => rfl
  | t + 1 => by
    rw [cnt_s, cnt_code t, cnt_s (p := gp B)]
    by_cases g : gp B t = true
    · rw [if_pos g, cnt_s]
      by_cases r : R (cnt (gp B) t)
      · rw [if_pos (dc_iff.mpr ⟨g, r⟩), if_pos (dc_iff.mpr r)]
      · rw [if_neg (fun z => r (dc_iff.mp z).2), if_neg (fun z => r (dc_iff.mp z))]
    · rw [if_neg g, if_neg (fun z => g (dc_iff.mp z).1)]; rfl
theorem gH_num (hW : gW B) {k c : Nat} (hk : k < gN B) : gH B k c ↔ (gp B c = true ∧ nH B k (cnt (gp B) c)) := by
  constructor
  · intro h
    have g := gH_gp hW hk h
    have c1 := gp_lt hW g
    have lt : cnt (gp B) c < gN B := cnt_lt_of g c1
    exact ⟨g, (nH_iff hk lt).mpr (by rw [cd_cnt c1 g]; exact h)⟩
  · intro ⟨g, h⟩
    have c1 := gp_lt hW g
    have lt : cnt (gp B) c < gN B := cnt_lt_of g c1
    have := (nH_iff hk lt).mp h
    rw [cd_cnt c1 g] at this; exact this
theorem lft_num (hW : gW B) {τ : Nat → Nat} {j c : Nat} (hτ : ∀ i, i < j → τ i < gN B) : lft (gp B) (gH B) τ j c ↔ (gp B c = true ∧ ¬ mkd B τ j (cnt (gp B) c)) := by
  unfold lft mkd
  refine and_congr_right (fun g => ⟨fun h ⟨i, hi, z⟩ => h i hi ((gH_num hW (hτ i hi)).mpr ⟨g, z⟩), fun h i hi z => h ⟨i, hi, ((gH_num hW (hτ i hi)).mp z).2⟩⟩)
theorem nws_num (hW : gW B) {τ : Nat → Nat} {j k : Nat} (hk : k < gN B) (hτ : ∀ i, i < j → τ i < gN B) : nws (gH B) (lft (gp B) (gH B) τ j) k = gai B (mkd B τ j) k := by
  have n2 := gN_le (B := B)
  unfold nws gai
  rw [cnt_gN (B := B) (P := fun m => nH B k m ∧ ¬ mkd B τ j m) (fun m z => nH_lt hk z.1) n2]
  unfold gN
  rw [← cnt_code]
  refine cnt_cg (fun c hc => ⟨fun z => ?_, fun z => ?_⟩)
  · exact ⟨((gH_num hW hk).mp z.1).1, ((gH_num hW hk).mp z.1).2, ((lft_num hW hτ).mp z.2).2⟩
  · exact ⟨(gH_num hW hk).mpr ⟨z.1, z.2.1⟩, (lft_num hW hτ).mpr ⟨z.1, z.2.2⟩⟩
theorem mkd_s {τ : Nat → Nat} {j n m : Nat} : mkd B (fun i => if i = j then n else τ i) (j + 1) m ↔ (mkd B τ j m ∨ nH B n m) := by
  constructor
  · rintro ⟨i, hi, z⟩
    by_cases e : i = j
    · dsimp only at z; rw [if_pos e] at z; exact Or.inr z
    · dsimp only at z; rw [if_neg e] at z; exact Or.inl ⟨i, by omega, z⟩
  · rintro (⟨i, hi, z⟩ | z)
    · exact ⟨i, by omega, by dsimp only; rw [if_neg (by omega)]; exact z⟩
    · exact ⟨j, by omega, by dsimp only; rw [if_pos rfl]; exact z⟩
/-- so many are chosen -/
def csI (B : Nat → Nat) (M0 M : (Nat → Int → Int)) (τ : Nat → Nat) (j : Nat) : Prop := cvF M0 M ∧ M 93 5 = (j : Int) ∧ (∀ i, i < j → M 94 (i : Int) = (τ i : Int) ∧ τ i < gN B) ∧ mgI B (mkd B τ j) M ∧ (∀ i, i < j → (∃ c, lft (gp B) (gH B) τ i c) ∧ bst (gH B) (gN B) (lft (gp B) (gH B) τ i) (τ i)) ∧ j + opn B (mkd B τ j) ≤ gN B
theorem gai_mono {U U' : Nat → Prop} {k : Nat} (h : ∀ m, U m → U' m) : gai B U' k ≤ gai B U k := by
  unfold gai
  exact cnt_mono (fun m _ z => dc_iff.mpr ⟨(dc_iff.mp z).1, fun y => (dc_iff.mp z).2 (h m y)⟩)
theorem gai_0 {U : Nat → Prop} {k : Nat} (h : ∀ m, nH B k m → U m) : gai B U k = 0 := by
  unfold gai
  exact cnt_skip (t := 0) (by omega) (fun m _ _ => dc_f (fun z => z.2 (h m z.1)))
theorem gai_pos {U : Nat → Prop} {k : Nat} (h : 0 < gai B U k) : ∃ m, nH B k m ∧ ¬ U m := by
  obtain ⟨m, _, z⟩ := cnt_pos.mp h
  exact ⟨m, dc_iff.mp z⟩
theorem opn_lt {U U' : Nat → Prop} {m : Nat} (hm : m < gN B) (h : ∀ m, U m → U' m) (h0 : ¬ U m) (h1 : U' m) : opn B U' + 1 ≤ opn B U := by
  unfold opn
  exact cnt_lt (fun k _ z => dc_iff.mpr (fun y => dc_iff.mp z (h k y))) hm (dc_iff.mpr h0) (dc_f (fun z => z h1))
/-- one more is chosen -/
theorem csI_s (hW : gW B) {τ : Nat → Nat} {j n : Nat} (hI : csI B M0 M τ j) (hn : n < gN B) (hp : 0 < gai B (mkd B τ j) n) (hb : ∀ k, k < gN B → gai B (mkd B τ j) k ≤ gai B (mkd B τ j) n) (hb2 : ∀ k, k < n → gai B (mkd B τ j) k < gai B (mkd B τ j) n) {M' : (Nat → Int → Int)} (f : cvF M M') (e5 : M' 93 5 = ((j + 1 : Nat) : Int)) (e94 : ∀ i : Int, M' 94 i = if i = (j : Int) then (n : Int) else M 94 i) (hg : mgI B (fun m => mkd B τ j m ∨ nH B n m) M') : csI B M0 M' (fun i => if i = j then n else τ i) (j + 1) := by
  obtain ⟨a1, a2, a3, a4, a5, a6⟩ := hI
  have hτ : ∀ i, i < j → τ i < gN B := fun i hi => (a3 i hi).2
  refine ⟨cvF_tr a1 f, e5, fun i hi => ?_, mgI_cong hg (fun m _ => mkd_s.symm), fun i hi => ?_, ?_⟩
  · rw [e94]
    dsimp only
    by_cases e : i = j
    · rw [if_pos (by omega), if_pos e]; exact ⟨rfl, hn⟩
    · rw [if_neg (by omega), if_neg e]; exact a3 i (by omega)
  · have lc : ∀ c, lft (gp B) (gH B) τ i c ↔ lft (gp B) (gH B) (fun i => if i = j then n else τ i) i c := fun c => lft_congr (fun i' hi' => by rw [if_neg (by omega)]) c
    dsimp only
    by_cases e : i = j
    · subst e
      rw [if_pos rfl]
      refine ⟨?_, bst_congr lc ⟨hn, fun k hk => ?_, fun k hk => ?_⟩⟩
      · obtain ⟨m, z1, z2⟩ := gai_pos hp
        have hm := nH_lt hn z1
        obtain ⟨c1, c2, c3⟩ := cdP hm
        exact ⟨cd (gp B) m, (lc _).mp ((lft_num hW hτ).mpr ⟨gp_iff.mpr c2, by rw [c3]; exact z2⟩)⟩
      · rw [nws_num hW hk hτ, nws_num hW hn hτ]; exact hb k hk
      · rw [nws_num hW (by omega) hτ, nws_num hW hn hτ]; exact hb2 k hk
    · rw [if_neg e]
      obtain ⟨⟨c, z⟩, y⟩ := a5 i (by omega)
      exact ⟨⟨c, (lc c).mp z⟩, bst_congr lc y⟩
  · obtain ⟨m, z1, z2⟩ := gai_pos hp
    have := opn_lt (B := B) (U := mkd B τ j) (U' := mkd B (fun i => if i = j then n else τ i) (j + 1)) (nH_lt hn z1) (fun m z => mkd_s.mpr (Or.inl z)) z2 (mkd_s.mpr (Or.inr z1))
    omega
theorem cs_done (hW : gW B) {τ : Nat → Nat} {j : Nat} (hI : csI B M0 M τ j) (h : opn B (mkd B τ j) = 0 ∨ ∀ k, k < gN B → gai B (mkd B τ j) k = 0) : grd (gp B) (gH B) (gN B) τ j := by
  obtain ⟨a1, a2, a3, a4, a5, a6⟩ := hI
  have n2 := gN_le (B := B)
  refine ⟨a5, fun c hc => ?_⟩
  obtain ⟨g, z⟩ := (lft_num hW (fun i hi => (a3 i hi).2)).mp hc
  have lt : cnt (gp B) c < gN B := cnt_lt_of g (gp_lt hW g)
  rcases h with h | h
  · have := (cnt_pos (p := dc (fun m => ¬ mkd B τ j m)) (n := gN B)).mpr ⟨_, lt, dc_iff.mpr z⟩
    unfold opn at h; omega
  · have := (cnt_pos (p := dc (fun m => nH B (cnt (gp B) c) m ∧ ¬ mkd B τ j m)) (n := 1024)).mpr ⟨cnt (gp B) c, by omega, dc_iff.mpr ⟨Or.inl rfl, z⟩⟩
    have h2 := h _ lt
    unfold gai at h2; omega
theorem x_choose (hW : gW B) (h0 : pOK B M0) (hQ : ∀ M' τ j, csI B M0 M' τ j → grd (gp B) (gH B) (gN B) τ j → Q 0 M') : am_s am_P am_gg (d + 6) 44 [.inr (.inr 94)] M0 Q := by
  have n2 := gN_le (B := B)
  have e3 : M0 81 3 = (gN B : Int) := h0.1.1.1
  refine (v_44_94 _ _ _).mpr ?_
  have lev : ∀ (l : Nat) M τ j, l ≤ 1024 → csI B M0 M τ j → (∀ k, k < gN B → gai B (mkd B τ j) k ≤ l) → am_x am_P am_gg (d + 5) am_k44 0 Q 70 [some (.inr (.inr 94)), some (.inl ((l : Int))), none] [] M 0 0 := by
    intro l
    induction l with
    | zero =>
      intro M τ j _ hI hl
      refine (h_44_70_94 _ _ _ _).mpr ?_
      rw [if_neg (by omega)]
      exact hQ M τ j hI (cs_done hW hI (Or.inr (fun k hk => by have := hl k hk; omega)))
    | succ l ih =>
      intro M τ j hl0 hI hl
      have e12 := hI.2.2.2.1.2.2
      refine (h_44_70_94 _ _ _ _).mpr ?_
      rw [if_pos (by omega)]
      refine @p_if _ _ _ _ ?_ ?_
      · intro _
        refine p_for (S := (Nat → Int → Int)) (X := fun j M1 => am_x am_P am_gg (d + 5) am_k44 0 Q 83 [some (.inr (.inr 94)), some (.inl (((l + 1 : Nat) : Int))), some (.inl (j))] [] M1 0 0) (gN B) (fun b M1 => ∃ τ j, csI B M0 M1 τ j ∧ (∀ k, k < gN B → gai B (mkd B τ j) k ≤ l + 1) ∧ ∀ k, k < b → gai B (mkd B τ j) k ≤ l) ?_ ?_ 0 M (by omega) ⟨τ, j, hI, hl, fun k hk => absurd hk (Nat.not_lt_zero k)⟩
        · intro M1 ⟨τ1, j1, I1, _, b1⟩
          refine (h_44_83_94 _ _ _ _ _).mpr ?_
          rw [show M1 81 3 = (gN B : Int) by rw [I1.1.1 81 (by omega)]; exact e3]
          rw [if_neg (by omega)]
          rw [show w32 (((l + 1 : Nat) : Int) + -1) = (l : Int) by rw [w32_i (by omega) (by omega)]; omega]
          refine am_x_le [some (.inr (.inr 94)), some (.inl ((l : Int))), none] (am_lb_le _ _ ⟨rfl, rfl, trivial⟩) ?_
          exact ih M1 τ1 j1 (by omega) I1 b1
        · intro b M1 hb ⟨τ1, j1, I1, a1, b1⟩ k
          have e12 := I1.2.2.2.1.2.2
          have e95 := I1.2.2.2.1.2.1 b hb
          have e81 : M1 81 3 = (gN B : Int) := by rw [I1.1.1 81 (by omega)]; exact e3
          refine (h_44_83_94 _ _ _ _ _).mpr ?_
          rw [e81, e12, e95, w32_s (i := b) (by omega)]
          rw [if_pos (by omega)]
          refine @p_if _ _ _ _ ?_ ?_
          · intro ho
            rw [if_pos (by omega)]
            refine @p_if _ _ _ _ ?_ ?_
            · intro eg
              have eg : gai B (mkd B τ1 j1) b = l + 1 := by omega
              have hj := I1.2.2.2.2.2
              refine x_choosePair hW (pOK_eq h0 (fun c a b => I1.1.1 c (by omega))) hb (by omega) I1.2.1 I1.2.2.2.1 (fun M2 f2 e5 e94 g2 => ?_)
              have I2 := csI_s hW I1 hb (by omega) (fun k hk => by rw [eg]; exact a1 k hk) (fun k hk => by rw [eg]; exact Nat.lt_succ_of_le (b1 k hk)) f2 e5 e94 g2
              have mono : ∀ k, gai B (mkd B (fun i => if i = j1 then b else τ1 i) (j1 + 1)) k ≤ gai B (mkd B τ1 j1) k := fun k => gai_mono (fun m z => mkd_s.mpr (Or.inl z))
              refine k M2 ⟨_, _, I2, fun k hk => Nat.le_trans (mono k) (a1 k hk), fun k hk => ?_⟩
              by_cases e : k = b
              · rw [e, gai_0 (fun m z => mkd_s.mpr (Or.inr z))]; omega
              · exact Nat.le_trans (mono k) (b1 k (by omega))
            · intro ne
              refine k M1 ⟨τ1, j1, I1, a1, fun k hk => ?_⟩
              by_cases e : k = b
              · rw [e]; have := a1 b hb; omega
              · exact b1 k (by omega)
          · intro ho
            refine am_x_le [some (.inr (.inr 94)), some (.inl ((w32 (((l + 1 : Nat) : Int) + -1)))), none] (am_lb_le _ _ ⟨rfl, rfl, trivial⟩) ?_
            refine (h_44_70_94 _ _ _ _).mpr ?_
            have fin : Q 0 M1 := hQ M1 τ1 j1 I1 (cs_done hW I1 (Or.inl (by omega)))
            refine @p_if _ _ _ _ ?_ ?_
            · intro _
              rw [e12]
              rw [if_neg (by omega)]
              exact fin
            · intro _; exact fin
      · intro ho
        exact hQ M τ j hI (cs_done hW hI (Or.inl (by omega)))
  refine p_for (S := Int × (Nat → Int → Int)) (X := fun j x => am_x am_P am_gg (d + 5) am_k44 0 Q 4 [some (.inr (.inr 94)), some (.inl (x.1)), some (.inl (j))] [] x.2 0 0) (gN B) (fun b x => wF1 95 M0 x.2 ∧ (∀ k : Nat, k < b → x.2 95 (k : Int) = (gai B (fun _ => False) k : Int)) ∧ ∃ l : Nat, l ≤ 1024 ∧ x.1 = (l : Int) ∧ ∀ k, k < b → gai B (fun _ => False) k ≤ l) ?_ ?_ 0 ((0 : Int), M0) (by omega) ⟨fun _ _ => rfl, fun k hk => absurd hk (Nat.not_lt_zero k), 0, by omega, rfl, fun k hk => absurd hk (Nat.not_lt_zero k)⟩
  · intro x ⟨f1, g1, l, l1, l2, l3⟩
    obtain ⟨a, M1⟩ := x
    dsimp only at f1 g1 l2 ⊢
    have e81 : M1 81 3 = (gN B : Int) := by rw [f1 81 (by omega)]; exact e3
    refine (h_44_4_94 _ _ _ _ _).mpr ?_
    rw [e81]
    rw [if_neg (by omega)]
    refine x_fill_99 ?_
    rw [fil_nc _ _ _ _ _ (show (81 : Nat) ≠ 99 by decide), e81, l2]
    refine am_x_le [some (.inr (.inr 94)), some (.inl ((l : Int))), none] (am_lb_le _ _ ⟨rfl, rfl, trivial⟩) ?_
    generalize hM2 : am_up (am_up (am_fil M1 99 0 16 0) 93 5 0) 93 12 (gN B : Int) = M2
    have o2 : ∀ c, c ≠ 93 → c ≠ 99 → M2 c = M1 c := fun c a b => by rw [← hM2, up_nc _ _ _ _ a, up_nc _ _ _ _ a, fil_nc _ _ _ _ _ b]
    have i2 : ∀ i : Int, i ≠ 5 → i ≠ 12 → M2 93 i = M1 93 i := fun i a b => by rw [← hM2, up_ni _ _ _ _ b, up_ni _ _ _ _ a, fil_nc _ _ _ _ _ (by decide)]
    refine lev l M2 (fun _ => 0) 0 l1 ⟨⟨fun c hc => by rw [o2 c (by omega) (by omega), f1 c (by omega)], fun i a b => by rw [i2 i a b, f1 93 (by decide)]⟩, ?_, fun i hi => absurd hi (Nat.not_lt_zero i), mgI_cong (U := fun _ => False) ⟨fun w hw => ?_, fun k hk => ?_, ?_⟩ (fun m _ => ⟨fun z => z.elim, fun ⟨i, hi, _⟩ => absurd hi (Nat.not_lt_zero i)⟩), fun i hi => absurd hi (Nat.not_lt_zero i), ?_⟩ (fun k hk => ?_)
    · rw [← hM2, up_ni _ _ _ _ (by decide), up_eq]; rfl
    · rw [← hM2, up_nc _ _ _ _ (by decide), up_nc _ _ _ _ (by decide), fil_at, if_pos (by omega)]; exact ld_0
    · rw [o2 95 (by decide) (by decide)]; exact g1 k hk
    · rw [← hM2, up_eq]; unfold opn; rw [cnt_all (fun j _ => dc_iff.mpr id)]
    · rw [Nat.zero_add]; exact cnt_le _
    · rw [gai_cong (U' := fun _ => False) hk (fun m _ => ⟨fun ⟨i, hi, _⟩ => absurd hi (Nat.not_lt_zero i), fun z => z.elim⟩)]; exact l3 k hk
  · intro b x hb ⟨f1, g1, l, l1, l2, l3⟩ k
    obtain ⟨a, M1⟩ := x
    dsimp only at f1 g1 l2 k ⊢
    have e81 : M1 81 3 = (gN B : Int) := by rw [f1 81 (by omega)]; exact e3
    refine (h_44_4_94 _ _ _ _ _).mpr ?_
    rw [e81, w32_s (i := b) (by omega)]
    rw [if_pos (by omega)]
    refine x_countHad (pOK_eq h0 (fun c a b => f1 c (by omega))) hb ?_
    have eg : cnt (dc (nH B b)) 1024 = gai B (fun _ => False) b := by unfold gai; exact cnt_cg (fun m _ => ⟨fun z => ⟨z, id⟩, fun z => z.1⟩)
    have gl := gai_le (B := B) (U := fun _ => False) (k := b)
    rw [eg, up_eq, l2]
    rw [if_pos (by omega)]
    rw [if_pos (by omega)]
    refine k (i_max (l : Int) (gai B (fun _ => False) b : Int), am_up M1 95 (b : Int) (gai B (fun _ => False) b : Int)) ⟨fun c hc => by dsimp only; rw [up_nc _ _ _ _ hc]; exact f1 c hc, fun k hk => ?_, max l (gai B (fun _ => False) b), by omega, ?_, fun k hk => ?_⟩
    · dsimp only
      rw [up_ci]
      by_cases e : k = b
      · rw [if_pos (by omega), e]
      · rw [if_neg (by omega)]; exact g1 k (by omega)
    · dsimp only
      unfold i_max
      by_cases z : l < gai B (fun _ => False) b
      · rw [if_pos (by omega)]; omega
      · rw [if_neg (by omega)]; omega
    · by_cases e : k = b
      · rw [e]; omega
      · have := l3 k (by omega); omega
end S9b
