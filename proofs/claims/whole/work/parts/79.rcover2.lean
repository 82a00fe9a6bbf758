/-! the reference's COVER: taken one by one, then left out -/
/-- the cover, as the reference holds it -/
def cR (p : Nat → Bool) (H : Nat → Nat → Prop) (N : Nat) (M : (Nat → Int → Int)) : Prop := ∃ (τ : Nat → Nat) (n : Nat) (κ : Nat → Bool), grd p H N τ n ∧ (∀ j, j < n → kpt H τ n κ j) ∧ n ≤ 1024 ∧ M 173 37 = (cnt κ n : Int) ∧ ∀ j, j < n → κ j = true → M 191 ((cnt κ j : Nat) : Int) = (τ j : Int)
/-- of the cells the cover's alone change -/
def cF (M M' : (Nat → Int → Int)) : Prop := (∀ c, c ≠ 173 → c ≠ 191 → c ≠ 192 → M' c = M c) ∧ ∀ i : Int, i ≠ 37 → M' 173 i = M 173 i
section S79
variable {p : Nat → Bool} {H : Nat → Nat → Prop} {N n : Nat} {τ : Nat → Nat} {M : (Nat → Int → Int)} {d : Nat} {Q : Int → (Nat → Int → Int) → Prop}
theorem cF_rf : cF M M := ⟨fun _ _ _ _ => rfl, fun _ _ => rfl⟩
theorem cF_tr {M1 M2 : (Nat → Int → Int)} (h : cF M M1) (g : cF M1 M2) : cF M M2 := ⟨fun c a b e => (g.1 c a b e).trans (h.1 c a b e), fun i a => (g.2 i a).trans (h.2 i a)⟩
theorem cF_up {M1 : (Nat → Int → Int)} (h : cF M M1) {c : Nat} (hc : c = 191 ∨ c = 192) {i v : Int} : cF M (am_up M1 c i v) :=
  ⟨fun k a b e => by rw [up_nc _ _ _ _ (by omega)]; exact h.1 k a b e, fun j a => by rw [up_nc _ _ _ _ (by omega)]; exact h.2 j a⟩
theorem cF_37 {M1 : (Nat → Int → Int)} (h : cF M M1) {v : Int} : cF M (am_up M1 173 37 v) :=
  ⟨fun k a b e => by rw [up_nc _ _ _ _ a]; exact h.1 k a b e, fun j a => by rw [up_ni _ _ _ _ a]; exact h.2 j a⟩
theorem hR_eq {M1 : (Nat → Int → Int)} (h : hR N H M) (e : M1 189 = M 189) : hR N H M1 := fun k hk w hw => by rw [e]; exact h k hk w hw
theorem cnt_all {κ : Nat → Bool} : ∀ {k : Nat}, (∀ j, j < k → κ j = true) → cnt κ k = k
  | 0, _ => rfl
  | k + 1, h => by rw [cnt_s, h k (by omega), cnt_all (fun j hj => h j (by omega))]; simp
/-- one is left out -/
theorem cnt_out {κ : Nat → Bool} {j : Nat} (hj : κ j = true) : ∀ i, cnt (fun x => if x = j then false else κ x) i + (if j < i then 1 else 0) = cnt κ i
  | 0 => rfl
  | i + 1 => by
    rw [cnt_s, cnt_s]
    have := cnt_out hj i
    by_cases e : i = j
    · subst e
      rw [if_neg (Nat.lt_irrefl _)] at this
      rw [if_pos rfl, if_pos (Nat.lt_succ_self _), hj]
      simp at this ⊢; omega
    · rw [if_neg e]
      by_cases q : j < i
      · rw [if_pos q] at this; rw [if_pos (show j < i + 1 by omega)]; omega
      · rw [if_neg q] at this; rw [if_neg (show ¬ j < i + 1 by omega)]; omega
/-- leaving out: those from k on are looked at -/
def loI (H : Nat → Nat → Prop) (τ : Nat → Nat) (n k : Nat) (κ : Nat → Bool) (M0 M : (Nat → Int → Int)) : Prop := cF M0 M ∧ (∀ j, j < k → κ j = true) ∧ (∀ j, n ≤ j → κ j = false) ∧ (∀ j, k ≤ j → j < n → kpt H τ n κ j) ∧ M 173 37 = (cnt κ n : Int) ∧ ∀ j, j < n → κ j = true → M 191 ((cnt κ j : Nat) : Int) = (τ j : Int)
theorem lc_out (hN : N ≤ 1024) (hn : n ≤ 1024) (hτ : ∀ j, j < n → τ j < N) {M0 : (Nat → Int → Int)} (hH0 : hR N H M0) (hQ : ∀ M' κ, loI H τ n 0 κ M0 M' → Q 0 M') : ∀ (k : Nat) {κ : Nat → Bool} {M : (Nat → Int → Int)}, k ≤ n → loI H τ n k κ M0 M → am_x am_P am_gg (d + 1) am_k282 0 Q 195 [some (.inr (.inr 174)), some (.inl ((k : Int) - 1)), none, none, none] [] M 0 0 := by
  intro k
  induction k with
  | zero =>
    intro κ M hk hI
    refine (h_282_195_174 _ _ _ _).mpr ?_
    rw [if_pos (by omega)]
    exact hQ M κ hI
  | succ j ih =>
    intro κ M hk hI
    obtain ⟨f, k1, k2, k3, k4, k5⟩ := hI
    have hH : hR N H M := hR_eq hH0 (f.1 189 (by decide) (by decide) (by decide))
    have hjn : j < n := by omega
    have cj : cnt κ j = j := cnt_all (fun i hi => k1 i (by omega))
    have cn : cnt κ 1024 = cnt κ n := cnt_skip hn (fun c a _ => k2 c a)
    have cle := cnt_le (p := κ) n
    have jlt : j < cnt κ n := by have := cnt_lt_of (k1 j (by omega)) hjn; omega
    have sel : ∀ i, i < cnt κ n → cd κ i < n ∧ κ (cd κ i) = true ∧ cnt κ (cd κ i) = i := by
      intro i hi
      obtain ⟨a, b, c⟩ := cd_ok (p := κ) (k := i) (by omega)
      refine ⟨?_, b, c⟩
      by_cases q : cd κ i < n
      · exact q
      · rw [k2 _ (by omega)] at b; cases b
    have cdj : cd κ j = j := by
      obtain ⟨a, b, c⟩ := sel j jlt
      exact cnt_inj b (k1 j (by omega)) (by rw [c, cj])
    refine (h_282_195_174 _ _ _ _).mpr ?_
    rw [show ((j + 1 : Nat) : Int) - 1 = (j : Int) by omega]
    rw [if_neg (by omega)]
    refine m_isSpare (N := N) (H := H) (ρ := fun i => τ (cd κ i)) (m := cnt κ n) (a := j) hN (by omega) jlt (fun i hi => ?_) k4 hH ?_ ?_
    · obtain ⟨a, b, c⟩ := sel i hi
      refine ⟨hτ _ a, ?_⟩
      have := k5 _ a b
      rw [c] at this; exact this
    · intro hs
      rw [cdj] at hs
      rw [if_neg (by omega)]
      rw [w32_s (by omega)]
      -- the shift
      refine p_for (S := (Nat → Int → Int)) (X := fun b M => am_x am_P am_gg (d + 1) am_k282 0 Q 214 [some (.inr (.inr 174)), some (.inl ((j : Int))), some (.inl (b)), none, none] [] M 0 0) (cnt κ n) (fun b M1 => j + 1 ≤ b ∧ cF M0 M1 ∧ M1 173 37 = (cnt κ n : Int) ∧ ∀ x : Nat, x < cnt κ n → M1 191 (x : Int) = if j ≤ x ∧ x + 1 < b then M 191 ((x + 1 : Nat) : Int) else M 191 (x : Int)) ?_ ?_ (j + 1) M (by omega) ⟨Nat.le_refl _, f, k4, fun x hx => by rw [if_neg (by omega)]⟩
      · intro M1 ⟨hb, f1, g1, g2⟩
        refine (h_282_214_174 _ _ _ _ _).mpr ?_
        rw [g1]
        rw [if_neg (by omega)]
        rw [show w32 ((j : Int) + -1) = (j : Int) - 1 by rw [w32_i (by omega) (by omega)]; omega, show w32 ((cnt κ n : Int) - 1) = ((cnt κ n - 1 : Nat) : Int) by rw [w32_i (by omega) (by omega)]; omega]
        refine am_x_le [some (.inr (.inr 174)), some (.inl ((j : Int) - 1)), none, none, none] (am_lb_le _ _ ⟨rfl, rfl, trivial⟩) ?_
        have co := cnt_out (κ := κ) (j := j) (k1 j (by omega))
        refine ih (κ := fun x => if x = j then false else κ x) (by omega) ⟨cF_37 f1, fun i hi => ?_, fun i hi => ?_, fun i a b => ?_, ?_, fun i hi hki => ?_⟩
        · dsimp only; rw [if_neg (by omega)]; exact k1 i (by omega)
        · dsimp only; rw [if_neg (by omega)]; exact k2 i hi
        · by_cases e : i = j
          · subst e
            unfold kpt
            dsimp only
            rw [if_pos rfl]
            refine ⟨fun z => (by cases z), fun ⟨c, hc, h1, h2⟩ => ?_⟩
            obtain ⟨o, ho, ne, h3⟩ := hs c hc h1
            obtain ⟨a1, b1, c1⟩ := sel o ho
            have nei : cd κ o ≠ i := fun z => ne (by rw [z, cj] at c1; omega)
            refine absurd h3 (h2 (cd κ o) a1 nei (Or.inr ?_))
            rw [if_neg nei]; exact b1
          · have := k3 i (by omega) b
            unfold kpt at this ⊢
            dsimp only
            rw [if_neg e]
            refine this.trans (exists_congr (fun c => and_congr_right (fun _ => and_congr_right (fun _ => forall_congr' (fun x => forall_congr' (fun hx => forall_congr' (fun nex => imp_congr ?_ Iff.rfl)))))))
            by_cases ex : x = j
            · subst ex; exact ⟨fun _ => Or.inl (by omega), fun _ => Or.inl (by omega)⟩
            · rw [if_neg ex]
        · rw [up_eq]
          have := co n
          rw [if_pos hjn] at this
          omega
        · dsimp only at hki
          by_cases e : i = j
          · rw [if_pos e] at hki; cases hki
          rw [if_neg e] at hki
          have h5 := k5 i hi hki
          have hco := co i
          have clt := cnt_lt_of hki hi
          rw [up_nc _ _ _ _ (by decide)]
          by_cases q : j < i
          · rw [if_pos q] at hco
            rw [g2 _ (by omega), if_pos ⟨by have := cnt_lt_of (k1 j (by omega)) q; omega, by omega⟩, show cnt (fun x => if x = j then false else κ x) i + 1 = cnt κ i by omega]
            exact h5
          · rw [if_neg q] at hco
            have ci : cnt κ i = i := cnt_all (fun x hx => k1 x (by omega))
            rw [g2 _ (by omega), if_neg (by omega), show cnt (fun x => if x = j then false else κ x) i = cnt κ i by omega]
            exact h5
      · intro b M1 hb ⟨hb1, f1, g1, g2⟩ kk
        refine (h_282_214_174 _ _ _ _ _).mpr ?_
        rw [g1]
        rw [if_pos (by omega)]
        rw [show w32 ((b : Int) - 1) = ((b - 1 : Nat) : Int) by rw [w32_i (by omega) (by omega)]; omega]
        rw [if_pos (by omega)]
        rw [if_pos (by omega)]
        rw [w32_s (by omega)]
        refine kk _ ⟨by omega, cF_up f1 (by omega), by rw [up_nc _ _ _ _ (by decide)]; exact g1, fun x hx => ?_⟩
        rw [up_ci]
        by_cases e : x = b - 1
        · rw [if_pos (by omega), if_pos ⟨by omega, by omega⟩, g2 b hb, if_neg (by omega)]
          congr 1; omega
        · rw [if_neg (by omega), g2 x hx]
          by_cases z : j ≤ x ∧ x + 1 < b
          · rw [if_pos z, if_pos (by omega)]
          · rw [if_neg z, if_neg (by omega)]
    · intro hs
      rw [cdj] at hs
      rw [if_pos (by omega)]
      rw [show w32 ((j : Int) + -1) = (j : Int) - 1 by rw [w32_i (by omega) (by omega)]; omega]
      refine ih (κ := κ) (by omega) ⟨f, fun i hi => k1 i (by omega), k2, fun i a b => ?_, k4, k5⟩
      by_cases e : i = j
      · subst e
        unfold kpt
        rw [k1 i (by omega)]
        refine ⟨fun _ => ?_, fun _ => rfl⟩
        obtain ⟨c, hc, h1, h2⟩ := hs
        refine ⟨c, hc, h1, fun x hx ne hor hx2 => ?_⟩
        have hkx : κ x = true := by
          rcases hor with z | z
          · exact k1 x (by omega)
          · exact z
        have clt := cnt_lt_of hkx hx
        have e2 : cd κ (cnt κ x) = x := cd_cnt (by omega) hkx
        refine h2 (cnt κ x) clt (fun z => ?_) (by rw [e2]; exact hx2)
        exact ne (cnt_inj hkx (k1 i (by omega)) (by rw [z, cj]))
      · exact k3 i (by omega) b
/-- the best of those below c -/
def bI (H : Nat → Nat → Prop) (L : Nat → Prop) (c a b : Nat) : Prop := (∀ k, k < c → nws H L k ≤ b) ∧ ((b = 0 ∧ a = 0) ∨ (a < c ∧ b = nws H L a ∧ 1 ≤ b ∧ ∀ k, k < a → nws H L k < b))
theorem bI_fin {L : Nat → Prop} {a b : Nat} (h : bI H L N a b) (hk : ∃ k, k < N ∧ 1 ≤ nws H L k) : bst H N L a := by
  obtain ⟨h1, h2⟩ := h
  obtain ⟨k, hk1, hk2⟩ := hk
  have := h1 k hk1
  rcases h2 with h2 | ⟨h2, h3, h4, h5⟩
  · omega
  · subst h3; exact ⟨h2, h1, h5⟩
theorem lc_best {L : Nat → Prop} (hN : N ≤ 1024) (hH : hR N H M) (hL : lR L M) (h34 : M 173 34 = (N : Int)) (hk : ∀ a b, bI H L N a b → am_x am_P am_gg (d + 2) am_k282 0 Q 83 [some (.inr (.inr 174)), some (.inl ((a : Int))), some (.inl ((b : Int))), some (.inl ((N : Int))), none] [] M 0 0) : am_x am_P am_gg (d + 2) am_k282 0 Q 83 [some (.inr (.inr 174)), some (.inl (((0 : Nat) : Int))), some (.inl (((0 : Nat) : Int))), some (.inl (((0 : Nat) : Int))), none] [] M 0 0 := by
  refine p_for (S := Nat × Nat) (X := fun j x => am_x am_P am_gg (d + 2) am_k282 0 Q 83 [some (.inr (.inr 174)), some (.inl ((x.1 : Int))), some (.inl ((x.2 : Int))), some (.inl (j)), none] [] M 0 0) N (fun c x => bI H L c x.1 x.2) (fun x hx => hk x.1 x.2 hx) ?_ 0 (0, 0) (by omega) ⟨fun k h => absurd h (Nat.not_lt_zero k), Or.inl ⟨rfl, rfl⟩⟩
  intro c x hc ⟨h1, h2⟩ kk
  obtain ⟨a, b⟩ := x
  dsimp only at h1 h2 ⊢
  refine (h_282_83_174 _ _ _ _ _ _).mpr ?_
  rw [h34]
  rw [if_pos (by omega)]
  refine m_newsOf hN hc hH hL ?_
  rw [w32_s (by omega)]
  refine @p_if _ _ _ _ ?_ ?_
  · intro q
    rw [if_pos (by omega)]
    refine am_x_le [some (.inr (.inr 174)), some (.inl ((c : Int))), some (.inl ((nws H L c : Int))), some (.inl (((c + 1 : Nat) : Int))), none] (am_lb_le _ _ ⟨rfl, rfl, rfl, rfl, trivial⟩) ?_
    refine kk (c, nws H L c) ⟨fun k hk => ?_, Or.inr ⟨by omega, rfl, by omega, fun k hk => by have := h1 k hk; omega⟩⟩
    by_cases e : k = c
    · subst e; exact Nat.le_refl _
    · have := h1 k (by omega); dsimp only; omega
  · intro q
    rw [if_neg (by omega)]
    refine am_x_le [some (.inr (.inr 174)), some (.inl ((a : Int))), some (.inl ((b : Int))), some (.inl (((c + 1 : Nat) : Int))), none] (am_lb_le _ _ ⟨rfl, rfl, rfl, rfl, trivial⟩) ?_
    refine kk (a, b) ⟨fun k hk => ?_, ?_⟩
    · dsimp only
      by_cases e : k = c
      · subst e; omega
      · exact h1 k (by omega)
    · rcases h2 with h2 | ⟨h2, h3⟩
      · exact Or.inl h2
      · exact Or.inr ⟨by dsimp only; omega, h3⟩
theorem lR_eq {L : Nat → Prop} {M1 : (Nat → Int → Int)} (h : lR L M) (e : M1 192 = M 192) : lR L M1 := fun w hw => by rw [e]; exact h w hw
theorem lR_cong {L L' : Nat → Prop} (h : lR L M) (e : ∀ c, c < 1024 → (L c ↔ L' c)) : lR L' M := fun w hw => wd_cong (h w hw) (fun k hk => e _ (by omega))
/-- taking -/
def tkI (p : Nat → Bool) (H : Nat → Nat → Prop) (N : Nat) (M0 M : (Nat → Int → Int)) (τ : Nat → Nat) (j : Nat) : Prop := cF M0 M ∧ lR (lft p H τ j) M ∧ M 173 37 = (j : Int) ∧ (∀ i, i < j → M 191 (i : Int) = (τ i : Int)) ∧ (∀ i, i < j → (∃ c, lft p H τ i c) ∧ bst H N (lft p H τ i) (τ i)) ∧ j + cnt (dc (lft p H τ j)) 1024 ≤ 1024
theorem lc_take (h24 : ∀ c, p c = true → c < 1024) (hNp : N = cnt p 1024) (hown : ∀ k, k < N → H k (cd p k)) {M0 : (Nat → Int → Int)} (hH0 : hR N H M0) (h340 : M0 173 34 = (N : Int)) (hQ : ∀ M' τ n, tkI p H N M0 M' τ n → (∀ c, ¬ lft p H τ n c) → am_x am_P am_gg (d + 2) am_k282 0 Q 195 [some (.inr (.inr 174)), some (.inl ((n : Int) - 1)), none, none, none] [] M' 0 0) {τ : Nat → Nat} {j : Nat} (hI : tkI p H N M0 M τ j) : am_x am_P am_gg (d + 2) am_k282 0 Q 70 [some (.inr (.inr 174)), none, none, none, none] [] M 0 0 := by
  have hN : N ≤ 1024 := by rw [hNp]; exact cnt_le 1024
  refine p_whi (S := ((Nat → Nat) × Nat) × (Nat → Int → Int)) (X := fun x => am_x am_P am_gg (d + 2) am_k282 0 Q 70 [some (.inr (.inr 174)), none, none, none, none] [] x.2 0 0) (fun m x => tkI p H N M0 x.2 x.1.1 x.1.2 ∧ m = cnt (dc (lft p H x.1.1 x.1.2)) 1024) ?_ _ ((τ, j), M) ⟨hI, rfl⟩
  intro m x hx k
  obtain ⟨⟨τ, j⟩, M1⟩ := x
  obtain ⟨⟨f, l, g1, g2, g3, g4⟩, hm⟩ := hx
  dsimp only at f l g1 g2 g3 g4 hm ⊢
  have hH : hR N H M1 := hR_eq hH0 (f.1 189 (by decide) (by decide) (by decide))
  have h34 : M1 173 34 = (N : Int) := by rw [f.2 34 (by decide)]; exact h340
  refine (h_282_70_174 _ _ _).mpr (m_isLeft l ?_ ?_)
  · intro ⟨c0, hc0, hl0⟩
    rw [if_neg (by omega)]
    refine lc_best hN hH l h34 (fun a b hb => ?_)
    have hk0 : cnt p c0 < N := by rw [hNp]; exact cnt_lt_of hl0.1 hc0
    have n1 : 1 ≤ nws H (lft p H τ j) (cnt p c0) := by
      have hx : H (cnt p c0) c0 := by have := hown _ hk0; rwa [cd_cnt hc0 hl0.1] at this
      exact cnt_pos.mpr ⟨c0, hc0, dc_iff.mpr ⟨hx, hl0⟩⟩
    have bs1 := bI_fin hb ⟨_, hk0, n1⟩
    have na : 1 ≤ nws H (lft p H τ j) a := by have := bs1.2.1 _ hk0; omega
    obtain ⟨c1, hc1, hd1⟩ := cnt_pos.mp na
    have hd1 := dc_iff.mp hd1
    refine (h_282_83_174 _ _ _ _ _ _).mpr ?_
    rw [h34, g1]
    have j1 : j < 1024 := by
      have := cnt_pos.mpr ⟨c1, hc1, dc_iff.mpr hd1.2⟩; omega
    rw [if_neg (by omega)]
    rw [if_pos (by omega)]
    rw [w32_s (by omega)]
    -- the codes that it has go
    generalize hM2 : am_up (am_up M1 191 (j : Int) (a : Int)) 173 37 ((j + 1 : Nat) : Int) = M2
    have f2 : cF M0 M2 := by rw [← hM2]; exact cF_37 (cF_up f (by omega))
    have q37 : M2 173 37 = ((j + 1 : Nat) : Int) := by rw [← hM2, up_eq]
    have q191 : ∀ i, i < j + 1 → M2 191 (i : Int) = (gU τ j a i : Int) := by
      intro i hi
      rw [← hM2, up_nc _ _ _ _ (by decide), up_ci]
      by_cases e : i = j
      · subst e; rw [if_pos rfl, gU_eq]
      · rw [if_neg (by omega), gU_ne e]; exact g2 i (by omega)
    have l2 : lR (lft p H τ j) M2 := lR_eq l (by rw [← hM2, up_nc _ _ _ _ (by decide), up_nc _ _ _ _ (by decide)])
    have tsame : ∀ i, i < j → τ i = gU τ j a i := fun i hi => by rw [gU_ne (by omega)]
    have lnew : ∀ c, lft p H (gU τ j a) (j + 1) c ↔ lft p H τ j c ∧ ¬ H a c := by
      intro c
      constructor
      · intro z
        exact ⟨⟨z.1, fun i hi => by rw [tsame i hi]; exact z.2 i (by omega)⟩, by have := z.2 j (by omega); rwa [gU_eq] at this⟩
      · intro z
        refine ⟨z.1.1, fun i hi => ?_⟩
        by_cases e : i = j
        · subst e; rw [gU_eq]; exact z.2
        · rw [gU_ne e]; exact z.1.2 i (by omega)
    have less := cnt_lt (p := dc (lft p H (gU τ j a) (j + 1))) (q := dc (lft p H τ j)) (n := 1024) (t := c1) (fun c _ z => dc_iff.mpr ((lnew c).mp (dc_iff.mp z)).1) hc1 (dc_iff.mpr hd1.2) (dc_f (fun z => ((lnew c1).mp z).2 hd1.1))
    refine am_x_le [some (.inr (.inr 174)), some (.inl ((a : Int))), none, some (.inl (((0 : Nat) : Int))), none] (am_lb_le _ _ ⟨rfl, rfl, rfl, trivial⟩) ?_
    refine p_for (S := (Nat → Int → Int)) (X := fun b M => am_x am_P am_gg (d + 2) am_k282 0 Q 151 [some (.inr (.inr 174)), some (.inl ((a : Int))), none, some (.inl (b)), none] [] M 0 0) 32 (fun w M3 => cF M0 M3 ∧ M3 173 = M2 173 ∧ M3 191 = M2 191 ∧ ∀ v : Nat, v < 32 → wd (M3 192 (v : Int)) (fun k => lft p H τ j (32 * v + k) ∧ (v < w → ¬ H a (32 * v + k)))) ?_ ?_ 0 M2 (by omega) ⟨f2, rfl, rfl, fun v hv => wd_cong (l2 v hv) (fun k _ => ⟨fun z => ⟨z, fun y => absurd y (Nat.not_lt_zero v)⟩, fun z => z.1⟩)⟩
    · intro M3 ⟨f3, e3, e4, w3⟩
      refine (h_282_151_174 _ _ _ _ _).mpr ?_
      rw [if_neg (by omega)]
      refine am_x_le [some (.inr (.inr 174)), none, none, none, none] (am_lb_le _ _ ⟨rfl, trivial⟩) ?_
      refine k _ ((gU τ j a, j + 1), M3) (by dsimp only; omega) ⟨⟨f3, ?_, ?_, ?_, ?_, ?_⟩, rfl⟩
      · intro v hv
        exact wd_cong (w3 v hv) (fun k _ => ⟨fun z => (lnew _).mpr ⟨z.1, z.2 hv⟩, fun z => ⟨((lnew _).mp z).1, fun _ => ((lnew _).mp z).2⟩⟩)
      · dsimp only; rw [e3]; exact q37
      · intro i hi; dsimp only; rw [e4]; exact q191 i hi
      · intro i hi
        dsimp only at hi ⊢
        have lc : ∀ c, lft p H τ i c ↔ lft p H (gU τ j a) i c := lft_congr (fun x hx => tsame x (by omega))
        by_cases e : i = j
        · subst e
          rw [gU_eq]
          exact ⟨⟨c1, (lc c1).mp hd1.2⟩, bst_congr lc bs1⟩
        · obtain ⟨⟨c, hc⟩, hb2⟩ := g3 i (by omega)
          rw [gU_ne e]
          exact ⟨⟨c, (lc c).mp hc⟩, bst_congr lc hb2⟩
      · dsimp only; omega
    · intro w M3 hw ⟨f3, e3, e4, w3⟩ kk
      have hH3 : hR N H M3 := hR_eq hH0 (f3.1 189 (by decide) (by decide) (by decide))
      have ha := bs1.1
      refine (h_282_151_174 _ _ _ _ _).mpr ?_
      rw [w32_row (by omega) hw]
      rw [if_pos (by omega)]
      rw [if_pos (by omega)]
      rw [if_pos (by omega)]
      rw [if_pos (by omega)]
      rw [w32_s (by omega)]
      refine kk _ ⟨cF_up f3 (by omega), by rw [up_nc _ _ _ _ (by decide)]; exact e3, by rw [up_nc _ _ _ _ (by decide)]; exact e4, fun v hv => ?_⟩
      rw [up_ci]
      by_cases e : v = w
      · subst e
        rw [if_pos rfl]
        exact wd_cong (wd_sub (w3 v hv) (bR_wd (hH3 a ha) hv)) (fun k _ => ⟨fun z => ⟨z.1.1, fun _ => z.2⟩, fun z => ⟨⟨z.1, fun y => absurd y (Nat.lt_irrefl _)⟩, z.2 (by omega)⟩⟩)
      · rw [if_neg (by omega)]
        exact wd_cong (w3 v hv) (fun k _ => and_congr Iff.rfl ⟨fun z y => z (by omega), fun z y => z (by omega)⟩)
  · intro no
    rw [if_pos (by omega)]
    rw [g1, show w32 ((j : Int) - 1) = (j : Int) - 1 from w32_i (by omega) (by omega)]
    exact hQ M1 τ j ⟨f, l, g1, g2, g3, g4⟩ (fun c z => no c (h24 c z.1) z)
theorem m_laysCover (h24 : ∀ c, p c = true → c < 1024) (hNp : N = cnt p 1024) (hown : ∀ k, k < N → H k (cd p k)) {M0 : (Nat → Int → Int)} (hH0 : hR N H M0) (h340 : M0 173 34 = (N : Int)) (h187 : ∀ k, k < N → M0 187 (k : Int) = (cd p k : Int)) (hQ : ∀ M', cF M0 M' → cR p H N M' → Q 0 M') : am_s am_P am_gg (d + 3) 282 [.inr (.inr 174)] M0 Q := by
  have hN : N ≤ 1024 := by rw [hNp]; exact cnt_le 1024
  refine (v_282_174 _ _ _).mpr ?_
  refine p_for (S := (Nat → Int → Int)) (X := fun j M => am_x am_P am_gg (d + 2) am_k282 0 Q 7 [some (.inr (.inr 174)), some (.inl (j)), none, none, none] [] M 0 0) 32 (fun a M1 => cF M0 M1 ∧ M1 173 37 = 0 ∧ ∀ c : Nat, c < a → M1 192 (c : Int) = 0) ?_ ?_ 0 _ (by omega) ⟨cF_37 cF_rf, up_eq _ _ _ _, fun c hc => absurd hc (Nat.not_lt_zero c)⟩
  · intro M1 ⟨f1, z1, z2⟩
    refine (h_282_7_174 _ _ _ _).mpr ?_
    rw [if_neg (by omega)]
    refine p_for (S := (Nat → Int → Int)) (X := fun j M => am_x am_P am_gg (d + 2) am_k282 0 Q 28 [some (.inr (.inr 174)), some (.inl (j)), none, none, none] [] M 0 0) N (fun a M2 => cF M0 M2 ∧ M2 173 37 = 0 ∧ lR (fun c => p c = true ∧ cnt p c < a) M2) ?_ ?_ 0 M1 (by omega) ⟨f1, z1, fun w hw => by rw [z2 w hw]; exact wd_cong wd_0 (fun k _ => ⟨fun z => z.elim, fun z => absurd z.2 (Nat.not_lt_zero _)⟩)⟩
    · intro M2 ⟨f2, y1, l2⟩
      refine (h_282_28_174 _ _ _ _).mpr ?_
      rw [f2.2 34 (by decide), h340]
      rw [if_neg (by omega)]
      refine am_x_le [some (.inr (.inr 174)), none, none, none, none] (am_lb_le _ _ ⟨rfl, trivial⟩) ?_
      refine lc_take (τ := fun _ => 0) (j := 0) h24 hNp hown hH0 h340 (fun M3 τ n hI hno => ?_) ⟨f2, lR_cong l2 (fun c hc => ⟨fun z => ⟨z.1, fun i hi => absurd hi (Nat.not_lt_zero i)⟩, fun z => ⟨z.1, by rw [hNp]; exact cnt_lt_of z.1 hc⟩⟩), y1, fun i hi => absurd hi (Nat.not_lt_zero i), fun i hi => absurd hi (Nat.not_lt_zero i), by have := cnt_le (p := dc (lft p H (fun _ => 0) 0)) 1024; omega⟩
      obtain ⟨f3, l3, g1, g2, g3, g4⟩ := hI
      have hκ : ∀ j, j ≤ n → cnt (fun i => decide (i < n)) j = j := fun j hj => cnt_all (fun i hi => by simp; omega)
      refine lc_out (d := d + 1) (N := N) (H := H) (τ := τ) (n := n) hN (by omega) (fun j hj => (g3 j hj).2.1) hH0 (fun M4 κ h4 => ?_) n (κ := fun i => decide (i < n)) (Nat.le_refl _) ⟨f3, fun j hj => by simpa using hj, fun j hj => by simp; omega, fun j a b => absurd b (by omega), by rw [hκ n (Nat.le_refl _)]; exact g1, fun j hj _ => by rw [hκ j (by omega)]; exact g2 j hj⟩
      exact hQ M4 h4.1 ⟨τ, n, κ, ⟨g3, hno⟩, fun j hj => h4.2.2.2.1 j (Nat.zero_le _) hj, by omega, h4.2.2.2.2.1, h4.2.2.2.2.2⟩
    · intro a M2 ha ⟨f2, y1, l2⟩ k
      refine (h_282_28_174 _ _ _ _).mpr ?_
      obtain ⟨c1, c2, c3⟩ := cd_ok (p := p) (k := a) (by omega)
      have e187 : M2 187 (a : Int) = (cd p a : Int) := by rw [f2.1 187 (by decide) (by decide) (by decide)]; exact h187 a ha
      rw [f2.2 34 (by decide), h340, e187]
      generalize cd p a = c at *
      rw [show w32 (Int.tdiv (c : Int) 32) = ((c / 32 : Nat) : Int) by rw [show Int.tdiv (c : Int) 32 = ((c / 32 : Nat) : Int) from rfl, w32_i (by omega) (by omega)], show w32 (Int.tmod (c : Int) 32) = ((c % 32 : Nat) : Int) by rw [show Int.tmod (c : Int) 32 = ((c % 32 : Nat) : Int) from rfl, w32_i (by omega) (by omega)]]
      rw [if_pos (by omega)]
      rw [if_pos (by omega)]
      rw [if_pos (by omega)]
      rw [if_pos (by omega)]
      rw [if_pos (by omega)]
      rw [w32_s (by omega)]
      refine k _ ⟨cF_up f2 (by omega), by rw [up_nc _ _ _ _ (by decide)]; exact y1, fun w hw => ?_⟩
      have eqc : ∀ k, k < 32 → (p (32 * w + k) = true ∧ cnt p (32 * w + k) < a + 1 ↔ (p (32 * w + k) = true ∧ cnt p (32 * w + k) < a) ∨ 32 * w + k = c) := by
        intro k _
        constructor
        · intro ⟨z1, z2⟩
          by_cases q : cnt p (32 * w + k) < a
          · exact Or.inl ⟨z1, q⟩
          · exact Or.inr (cnt_inj z1 c2 (by omega))
        · rintro (⟨z1, z2⟩ | z)
          · exact ⟨z1, by omega⟩
          · rw [z]; exact ⟨c2, by omega⟩
      rw [up_ci]
      by_cases e : w = c / 32
      · subst e
        rw [if_pos rfl]
        refine wd_cong (wd_or (l2 _ hw) (wd_one (b := c % 32) (by omega))) (fun k hk => Iff.trans (or_congr Iff.rfl ?_) (eqc k hk).symm)
        omega
      · rw [if_neg (by omega)]
        refine wd_cong (l2 w hw) (fun k hk => Iff.trans ?_ (eqc k hk).symm)
        exact ⟨Or.inl, fun z => z.elim id (fun z => absurd z (by omega))⟩
  · intro a M1 ha ⟨f1, z1, z2⟩ k
    refine (h_282_7_174 _ _ _ _).mpr ?_
    rw [if_pos (by omega)]
    rw [if_pos (by omega)]
    rw [w32_s (by omega)]
    refine k _ ⟨cF_up f1 (by omega), by rw [up_nc _ _ _ _ (by decide)]; exact z1, fun c hc => ?_⟩
    rw [up_ci]
    by_cases q : c = a
    · rw [if_pos (by omega)]
    · rw [if_neg (by omega)]; exact z2 c (by omega)
end S79
