/-! the class finds YIELDS, round by round -/
/-- keys on their way down to those of YIELDS -/
def bK (B K : Nat → Nat) : Prop := ybd (gpos B) K ∧ ∀ s, s < 8 → gK B s ≤ K s
section S84
variable {B K : Nat → Nat} {M M0 : (Nat → Int → Int)} {d : Nat} {Q : Int → (Nat → Int → Int) → Prop} {r : Nat}
theorem bK_up (hW : gW B) (hK : bK B K) (hN : ∀ s, s < 8 → K s ≤ NK) (ok : yOK B K r) : gK B (gsy B r) ≤ ky B K r := by
  have hp := gpos_ok hW
  obtain ⟨gs, gn⟩ := gK_ok hW
  obtain ⟨b16, bm⟩ := yOK_b hW hp hK.1 ok
  have comp : ∀ i, i < gsz B r → gsg B r i < 8 → gK B (gsg B r i) ≤ K (gsg B r i) := fun i _ h8 => hK.2 _ h8
  have hq := rq_mono comp
  have av' : avb B (gK B) r (-1) := fun i hi hb h8 => by
    have h1 := comp i hi h8
    have h2 := ok.2.2.1 i hi hb h8
    have h3 := hN _ h8
    omega
  have ok' : yOK B (gK B) r := ⟨ok.1, ok.2.1, av', by have := ok.2.2.2; omega⟩
  have h1 := gs.2.2 r ok'
  have key : ∀ a c x : Nat, c ≤ a → x ≤ c * 16 + r → x ≤ a * 16 + r := fun a c x p q => by omega
  exact key _ _ _ hq h1
theorem bK_closed (hW : gW B) (hK : bK B K) (hN : ∀ s, s < 8 → K s ≤ NK) (hc : ∀ r, yOK B K r → K (gsy B r) ≤ ky B K r) : ∀ v s, s < 8 → gK B s < v → v ≤ NK → K s ≤ gK B s := by
  have hp := gpos_ok hW
  obtain ⟨gs, gn⟩ := gK_ok hW
  intro v
  induction v using Nat.strongRecOn with
  | ind v ih =>
    intro s hs hv hN'
    obtain ⟨r, ok, hsy, hk⟩ := gs.2.1 s hs (by omega)
    obtain ⟨b16, bm⟩ := yOK_b hW hp gs.1 ok
    have comp : ∀ i, i < gsz B r → gsg B r i < 8 → K (gsg B r i) ≤ gK B (gsg B r i) := by
      intro i hi h8
      have := rq_comp (K := gK B) hi h8
      unfold ky at hk
      exact ih (gK B (gsg B r i) + 1) (by omega) _ h8 (by omega) (by omega)
    have hq := rq_mono comp
    have av' : avb B K r (-1) := fun i hi _ h8 => by
      have h1 := comp i hi h8
      have h2 := rq_comp (K := gK B) hi h8
      unfold ky at hk
      omega
    have ok' : yOK B K r := ⟨ok.1, ok.2.1, av', by have := ok.2.2.2; omega⟩
    have h1 := hc r ok'
    rw [hsy] at h1
    rw [hk]
    have key : ∀ a c x : Nat, c ≤ a → x ≤ c * 16 + r → x ≤ a * 16 + r := fun a c x p q => by omega
    exact key _ _ _ hq h1
/-- rows of costs that stand, cells that the yields' search changes -/
def kF (M M' : (Nat → Int → Int)) : Prop := ∀ c, c ≠ 23 → c ≠ 27 → c ≠ 28 → c ≠ 29 → M' c = M c
theorem kF_g (h : kF M0 M) (hg : xgb B M0 2) : xgb B M 2 := xgb_eq hg (fun c _ _ => h c (by omega) (by omega) (by omega) (by omega))
theorem rk7 {K : Nat → Nat} {s : Nat} (hs : s < 8) : rk K s < 8 := by
  have := cnt_lt (p := fun t => decide (K t < K s)) (q := fun _ => true) (n := 8) (t := s) (fun _ _ _ => rfl) hs rfl (by simp)
  have h2 := cnt_le (p := fun _ => true) 8
  unfold rk; omega
/-- a rule is looked at: its row is weighed, its symbol's key may fall -/
theorem x_improveYield (hW : gW B) (hg : xgb B M 2) (hK : kA 23 K M) (hb : bK B K) (hr : r < B 0) (ho : gon B r = true) (h0 : ∀ M', kF M M' → M' 23 = M 23 → kRow B K M' r → (∀ j : Nat, j ≠ r → M' 27 (j : Int) = M 27 (j : Int) ∧ M' 28 (j : Int) = M 28 (j : Int) ∧ M' 29 (j : Int) = M 29 (j : Int)) → (yOK B K r → K (gsy B r) ≤ ky B K r) → Q 0 M') (h1 : ∀ M', kF M M' → yOK B K r → ky B K r < K (gsy B r) → kA 23 (gU K (gsy B r) (ky B K r)) M' → Q 1 M') : am_s am_P am_gg (d + 3) 34 [.inr (.inr 23), .inl (r : Int)] M Q := by
  have hn := hW.1
  have hN := NK_eq
  obtain ⟨hsy, hz, hz4, hwt, hs⟩ := hW.2.2.2.1 r hr
  have hp := gpos_ok hW
  refine (v_34_23 _ _ _ _).mpr (x_weighRow hW hg hK hr ?_)
  generalize hM1 : am_up (am_up (am_up M 27 (r : Int) (rcx B K r : Int)) 28 (r : Int) (rmx B K r : Int)) 29 (r : Int) (mis B K r : Int) = M1
  have oth : ∀ c, c ≠ 27 → c ≠ 28 → c ≠ 29 → M1 c = M c := fun c x y z => by rw [← hM1, up_nc _ _ _ _ z, up_nc _ _ _ _ y, up_nc _ _ _ _ x]
  have e27 : ∀ j : Int, M1 27 j = if j = (r : Int) then (rcx B K r : Int) else M 27 j := fun j => by rw [← hM1, up_nc _ _ _ _ (by decide), up_nc _ _ _ _ (by decide), up_ci]
  have e28 : ∀ j : Int, M1 28 j = if j = (r : Int) then (rmx B K r : Int) else M 28 j := fun j => by rw [← hM1, up_nc _ _ _ _ (by decide), up_ci, up_nc _ _ _ _ (by decide)]
  have e29 : ∀ j : Int, M1 29 j = if j = (r : Int) then (mis B K r : Int) else M 29 j := fun j => by rw [← hM1, up_ci, up_nc _ _ _ _ (by decide), up_nc _ _ _ _ (by decide)]
  have row : kRow B K M1 r := ⟨by rw [e27, if_pos rfl], by rw [e28, if_pos rfl], by rw [e29, if_pos rfl]⟩
  have f1 : kF M M1 := fun c _ b c' e => oth c b c' e
  have rest : ∀ j : Nat, j ≠ r → M1 27 (j : Int) = M 27 (j : Int) ∧ M1 28 (j : Int) = M 28 (j : Int) ∧ M1 29 (j : Int) = M 29 (j : Int) := fun j hj => ⟨by rw [e27, if_neg (by omega)], by rw [e28, if_neg (by omega)], by rw [e29, if_neg (by omega)]⟩
  have sy1 : M1 3 (r : Int) = (gsy B r : Int) := by rw [oth 3 (by decide) (by decide) (by decide)]; exact xg_sy hg hr
  have out : (yOK B K r → K (gsy B r) ≤ ky B K r) → Q 0 M1 := fun z => h0 M1 f1 (oth 23 (by decide) (by decide) (by decide)) row rest z
  rw [row.1, row.2.1, row.2.2, sy1]
  rw [if_pos (by omega)]
  refine @p_if _ _ _ _ ?_ ?_
  · intro hm
    have hav := mis_all.mp (by omega : mis B K r = 0)
    obtain ⟨q1, q2⟩ := rcx_all hav
    rw [q1, q2]
    rw [if_pos (by omega)]
    refine @p_if _ _ _ _ ?_ ?_
    · intro hc
      exact out (fun z => by have := z.2.2.2; omega)
    · intro hc
      have ok : yOK B K r := ⟨hr, ho, hav, by omega⟩
      obtain ⟨b16, bm⟩ := yOK_b hW hp hb.1 ok
      have dl := ky_lt b16 bm ok.2.2.2
      have eky : i_or (i_shl (i_or (i_shl (rc B K r : Int) 12) (rm B K r : Int)) 4) (r : Int) = (ky B K r : Int) := by
        unfold ky at dl ⊢
        rw [show (12 : Int) = ((12 : Nat) : Int) from rfl, shl_mul (by omega) (by omega), or_add (n := 12) (by omega) (by omega) (by omega), show (4 : Int) = ((4 : Nat) : Int) from rfl, shl_mul (by omega) (by omega), or_add (n := 4) (by omega) (by omega) (by omega)]
      obtain ⟨k1, k2⟩ := hK _ hsy
      rw [eky, show M1 23 (gsy B r : Int) = (K (gsy B r) : Int) by rw [oth 23 (by decide) (by decide) (by decide)]; exact k1]
      rw [if_pos (by omega)]
      rw [if_pos (by omega)]
      rw [if_pos (by omega)]
      rw [if_pos (by omega)]
      refine @p_if _ _ _ _ ?_ ?_
      · intro hlt
        rw [if_pos (by omega)]
        refine h1 _ (fun c a b c' e => by rw [up_nc _ _ _ _ a]; exact f1 c a b c' e) ok (by omega) (fun s hs => ?_)
        rw [up_ci]
        by_cases e : s = gsy B r
        · subst e; rw [if_pos rfl, gU_eq]; exact ⟨rfl, by omega⟩
        · rw [if_neg (by omega), gU_ne e, oth 23 (by decide) (by decide) (by decide)]; exact hK s hs
      · intro hlt
        exact out (fun _ => by omega)
  · intro hm
    exact out (fun z => absurd (mis_all.mpr z.2.2.1) (by omega))
theorem bK_take (hW : gW B) (hb : bK B K) (hN : ∀ s, s < 8 → K s ≤ NK) (ok : yOK B K r) : bK B (gU K (gsy B r) (ky B K r)) := by
  have hp := gpos_ok hW
  obtain ⟨b16, bm⟩ := yOK_b hW hp hb.1 ok
  obtain ⟨d1, d2, d3⟩ := ky_dec b16 bm
  refine ⟨fun s hs q => ?_, fun s hs => ?_⟩
  · by_cases e : s = gsy B r
    · subst e
      rw [gU_eq, d1, d2]
      have := yb_row hW hp hb.1 ok.1 ok.2.2.1
      exact ⟨this.1, ok.2.2.2, this.2⟩
    · rw [gU_ne e] at q ⊢; exact hb.1 s hs q
  · by_cases e : s = gsy B r
    · subst e; rw [gU_eq]; exact bK_up hW hb hN ok
    · rw [gU_ne e]; exact hb.2 s hs
/-- the state of a pass: n rounds are through, the rules below c are looked at -/
def kI (B : Nat → Nat) (M0 M : (Nat → Int → Int)) (n c : Nat) (fl : Int) (K : Nat → Nat) : Prop := kF M0 M ∧ kA 23 K M ∧ bK B K ∧ (∀ s, s < 8 → rk (gK B) s < n → K s = gK B s) ∧ (∀ s, s < 8 → rk (gK B) s < n + 1 → gK B s ≠ NK → gK B s % 16 < c → K s = gK B s) ∧ (8 ≤ n → fl = 0) ∧ (fl = 0 → (∀ r, r < c → gon B r = true → kRow B K M r) ∧ ∀ r, r < c → yOK B K r → K (gsy B r) ≤ ky B K r)
theorem x_findYields (hW : gW B) (hg0 : xgb B M0 2) (hQ : ∀ M', kF M0 M' → kA 23 (gK B) M' → (∀ r, r < B 0 → gon B r = true → kRow B (gK B) M' r) → Q 0 M') : am_s am_P am_gg (d + 4) 33 [.inr (.inr 23)] M0 Q := by
  have hn := hW.1
  have hNK := NK_eq
  have hp := gpos_ok hW
  obtain ⟨gs, gn⟩ := gK_ok hW
  refine (v_33_23 _ _ _).mpr (x_fill_23 ?_)
  -- at the end
  have fin : ∀ (M1 : (Nat → Int → Int)) (K : Nat → Nat), kF M0 M1 → kA 23 K M1 → (∀ s, s < 8 → K s = gK B s) → (∀ r, r < B 0 → gon B r = true → kRow B K M1 r) → Q 0 M1 := by
    intro M1 K f a e rows
    refine hQ M1 f (fun s hs => by rw [← e s hs]; exact a s hs) (fun r hr ho => ?_)
    have := rows r hr ho
    have c1 : rcx B K r = rcx B (gK B) r := by
      unfold rcx; congr 1; refine sm_congr (fun i _ => ?_)
      unfold cx
      by_cases h8 : gsg B r i < 8
      · rw [if_pos h8, if_pos h8, e _ h8]
      · rw [if_neg h8, if_neg h8]
    have c2 : rmx B K r = rmx B (gK B) r := by
      unfold rmx; congr 1; refine sm_congr (fun i _ => ?_)
      unfold mx
      by_cases h8 : gsg B r i < 8
      · rw [if_pos h8, if_pos h8, e _ h8]
      · rw [if_neg h8, if_neg h8]
    have c3 : mis B K r = mis B (gK B) r := by
      unfold mis; refine sm_congr (fun i _ => ?_)
      unfold ms
      by_cases h8 : gsg B r i < 8
      · rw [if_pos h8, if_pos h8, e _ h8]
      · rw [if_neg h8, if_neg h8]
    unfold kRow at this ⊢
    rw [← c1, ← c2, ← c3]; exact this
  refine p_for (S := (Int × (Nat → Nat)) × (Nat → Int → Int)) (X := fun i x => am_x am_P am_gg (d + 3) am_k33 0 Q 13 [some (.inr (.inr 23)), some (.inl (x.1.1)), some (.inl (i)), none] [] x.2 0 0) 9 (fun n x => kF M0 x.2 ∧ kA 23 x.1.2 x.2 ∧ bK B x.1.2 ∧ (∀ s, s < 8 → rk (gK B) s < n → x.1.2 s = gK B s) ∧ (9 ≤ n → x.1.1 = 0) ∧ (x.1.1 = 0 → (∀ r, r < B 0 → gon B r = true → kRow B x.1.2 x.2 r) ∧ ∀ r, r < B 0 → yOK B x.1.2 r → x.1.2 (gsy B r) ≤ ky B x.1.2 r)) ?_ ?_ 0 ((1, fun _ => NK), am_fil M0 23 0 8 2147483647) (by omega) ?_
  · intro x ⟨f, a, b, fi, f9, cl⟩
    refine (h_33_13_23 _ _ _ _ _).mpr ?_
    rw [if_pos (by omega)]
    exact fin _ _ f a (fun s hs => fi s hs (by have := rk7 (K := gK B) hs; omega)) (cl (f9 (by omega))).1
  · intro n x hn9 ⟨f, a, b, fi, f9, cl⟩ k
    obtain ⟨⟨fl, K⟩, M1⟩ := x
    dsimp only at f a b fi f9 cl ⊢
    refine (h_33_13_23 _ _ _ _ _).mpr ?_
    rw [if_neg (by omega)]
    refine @p_if _ _ _ _ ?_ ?_
    · intro e
      obtain ⟨rows, clo⟩ := cl e
      refine fin _ _ f a (fun s hs => ?_) rows
      have h1 := b.2 s hs
      have h2 := (a s hs).2
      have h3 := gn s hs
      by_cases q : gK B s = NK
      · omega
      · have := bK_closed hW b (fun s hs => (a s hs).2) (fun r o => clo r o.1 o) NK s hs (by omega) (Nat.le_refl _)
        omega
    · intro e
      refine p_for (S := (Int × (Nat → Nat)) × (Nat → Int → Int)) (X := fun i x => am_x am_P am_gg (d + 3) am_k33 0 Q 27 [some (.inr (.inr 23)), some (.inl (x.1.1)), some (.inl ((n : Int))), some (.inl (i))] [] x.2 0 0) (B 0) (fun c x => kI B M0 x.2 n c x.1.1 x.1.2) ?_ ?_ 0 ((0, K), M1) (by omega) ⟨f, a, b, fi, fun s hs _ _ z => absurd z (Nat.not_lt_zero _), fun _ => rfl, fun _ => ⟨fun r hr => absurd hr (Nat.not_lt_zero r), fun r hr => absurd hr (Nat.not_lt_zero r)⟩⟩
      · intro y hy
        obtain ⟨⟨fl, K⟩, M2⟩ := y
        obtain ⟨f, a, b, fi, fi2, f8, cl⟩ := hy
        dsimp only at f a b fi fi2 f8 cl ⊢
        refine (h_33_27_23 _ _ _ _ _ _).mpr ?_
        rw [xg_n (kF_g f hg0), w32_s (i := n) (by omega)]
        rw [if_neg (by omega)]
        refine am_x_le [some (.inr (.inr 23)), some (.inl (fl)), some (.inl (((n + 1 : Nat) : Int))), none] (am_lb_le _ _ ⟨rfl, rfl, rfl, trivial⟩) ?_
        refine k ((fl, K), M2) ⟨f, a, b, fun s hs hrk => ?_, fun h9 => f8 (by omega), cl⟩
        dsimp only
        by_cases q : gK B s = NK
        · have h1 := b.2 s hs
          have h2 := (a s hs).2
          omega
        · exact fi2 s hs hrk q (y_own hW hp gs hs q).2.2.2.1
      · intro c y hc hy k2
        obtain ⟨⟨fl, K⟩, M2⟩ := y
        obtain ⟨f, a, b, fi, fi2, f8, cl⟩ := hy
        dsimp only at f a b fi fi2 f8 cl ⊢
        have hg := kF_g f hg0
        have hle : ∀ s, s < 8 → K s ≤ NK := fun s hs => (a s hs).2
        -- the own rule of a symbol, its parts being final, gives its key
        have own : ∀ s, s < 8 → rk (gK B) s < n + 1 → gK B s ≠ NK → gK B s % 16 = c → yOK B K c ∧ ky B K c = gK B s ∧ gsy B c = s := by
          intro s hs hrk hne hown
          obtain ⟨ok, hsy, hk, -⟩ := y_own hW hp gs hs hne
          have ls := @y_less B (gK B) (gpos B) hW hp gs s hs hne
          rw [hown] at ok hsy hk ls
          have same : ∀ i, i < gsz B c → gsg B c i < 8 → K (gsg B c i) = gK B (gsg B c i) := fun i hi h8 => fi _ h8 (by have := rk_lt (ls hi h8).1 h8; omega)
          obtain ⟨r1, r2⟩ := row_congr same
          refine ⟨⟨ok.1, ok.2.1, fun i hi hb h8 => by rw [same i hi h8]; exact ok.2.2.1 i hi hb h8, by rw [r1]; exact ok.2.2.2⟩, ?_, hsy⟩
          rw [hk]; unfold ky; rw [r1, r2]
        refine (h_33_27_23 _ _ _ _ _ _).mpr ?_
        rw [xg_n hg, w32_s (i := c) (by omega)]
        rw [if_pos (by omega)]
        refine x_isOn hg hW.on (by omega) ?_ ?_
        · intro ho
          rw [if_neg (by omega)]
          refine x_improveYield hW hg a b hc ho ?_ ?_
          · intro M3 f3 e23 row rest hno
            rw [if_pos (by omega)]
            have a3 : kA 23 K M3 := fun s hs => by rw [e23]; exact a s hs
            refine k2 ((fl, K), M3) ⟨fun c a b c' e => (f3 c a b c' e).trans (f c a b c' e), a3, b, fi, fun s hs hrk hne hlt => ?_, f8, fun z => ⟨fun r hr hro => ?_, fun r hr o => ?_⟩⟩
            · dsimp only
              by_cases q : gK B s % 16 = c
              · obtain ⟨o, hk, hsy⟩ := own s hs hrk hne q
                have h1 := hno o
                rw [hk, hsy] at h1
                have := b.2 s hs
                omega
              · exact fi2 s hs hrk hne (by omega)
            · dsimp only
              by_cases q : r = c
              · subst q; exact row
              · obtain ⟨q1, q2, q3⟩ := rest r q
                have := (cl z).1 r (by omega) hro
                unfold kRow at this ⊢
                rw [q1, q2, q3]; exact this
            · by_cases q : r = c
              · subst q; exact hno o
              · exact (cl z).2 r (by omega) o
          · intro M3 f3 ok hlt a3
            rw [if_neg (by omega)]
            refine k2 ((1, gU K (gsy B c) (ky B K c)), M3) ⟨fun c a b c' e => (f3 c a b c' e).trans (f c a b c' e), a3, bK_take hW b hle ok, fun s hs hrk => ?_, fun s hs hrk hne hlt2 => ?_, fun h8 => ?_, fun z => ?_⟩
            · dsimp only
              by_cases q : s = gsy B c
              · subst q
                have h1 := fi _ hs hrk
                have h2 := bK_up hW b hle ok
                omega
              · rw [gU_ne q]; exact fi s hs hrk
            · dsimp only
              by_cases q : s = gsy B c
              · subst q
                rw [gU_eq]
                have h2 := bK_up hW b hle ok
                by_cases q2 : gK B (gsy B c) % 16 = c
                · obtain ⟨o, hk, -⟩ := own _ hs hrk hne q2
                  exact hk
                · have h1 := fi2 _ hs hrk hne (by omega)
                  omega
              · rw [gU_ne q]
                by_cases q2 : gK B s % 16 = c
                · obtain ⟨o, hk, hsy⟩ := own s hs hrk hne q2
                  exact absurd hsy.symm q
                · exact fi2 s hs hrk hne (by omega)
            · have hsy := (hW.2.2.2.1 c hc).1
              have h1 := fi _ hsy (by have := rk7 (K := gK B) hsy; omega)
              have h2 := bK_up hW b hle ok
              omega
            · dsimp only at z; omega
        · intro ho
          rw [if_pos (by omega)]
          refine k2 ((fl, K), M2) ⟨f, a, b, fi, fun s hs hrk hne hlt => ?_, f8, fun z => ⟨fun r hr hro => ?_, fun r hr o => ?_⟩⟩
          · by_cases q : gK B s % 16 = c
            · have := (y_own hW hp gs hs hne).1.2.1
              rw [q, ho] at this; cases this
            · exact fi2 s hs hrk hne (by omega)
          · by_cases q : r = c
            · subst q; rw [hro] at ho; cases ho
            · exact (cl z).1 r (by omega) hro
          · by_cases q : r = c
            · subst q; rw [o.2.1] at ho; cases ho
            · exact (cl z).2 r (by omega) o
  · refine ⟨fun c a _ _ _ => ?_, fun s hs => ?_, ⟨fun s _ q => absurd rfl q, fun s hs => gn s hs⟩, fun s hs z => absurd z (Nat.not_lt_zero _), fun z => by omega, fun z => ?_⟩
    · show am_fil M0 23 0 8 2147483647 c = _
      rw [fil_nc _ _ _ _ _ a]
    · show am_fil M0 23 0 8 2147483647 23 (s : Int) = (NK : Int) ∧ NK ≤ NK
      rw [fil_at, if_pos (by omega)]; exact ⟨rfl, Nat.le_refl _⟩
    · dsimp only at z; omega
end S84
