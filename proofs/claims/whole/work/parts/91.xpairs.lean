/-! PAIRS: all that a sentence HAS counts; the class numbers them -/
section S91
variable {B : Nat → Nat} {r i o : Nat}
theorem isP_cde (hr : r < 16) (hi : i < 4) (ho : o < 16) : isP B (gK B) (gX B) (cde r i o) ↔ r < B 0 ∧ gon B r = true ∧ gX B (gsy B r) ≠ NK ∧ i < gsz B r ∧ gsg B r i < 8 ∧ o < B 0 ∧ gsy B o = gsg B r i ∧ gon B o = true ∧ avb B (gK B) o (-1) ∧ avb B (gK B) r (i : Int) ∧ rc B (gK B) o + xcc B (gK B) (gX B) r i ≤ 200 := by
  have c1 : cde r i o / 64 = r := by unfold cde; omega
  have c2 : cde r i o / 16 % 4 = i := by unfold cde; omega
  have c3 : cde r i o % 16 = o := by unfold cde; omega
  unfold isP; rw [c1, c2, c3]
/-- a sign that has a yield, in a row: what all costs -/
theorem rc_but {K : Nat → Nat} (hi : i < gsz B r) (h8 : gsg B r i < 8) : rc B K r = rcb B K r (i : Int) + K (gsg B r i) / 65536 := by
  rw [rc_eq]
  have e1 := sm_but (f := fun j => cq K (gsg B r j)) (g := fun j => if (j : Int) = (i : Int) then 0 else cq K (gsg B r j)) (i := i) (fun j hj => by rw [if_neg (by omega)]) (by rw [if_pos rfl]) hi
  have e2 : cq K (gsg B r i) = K (gsg B r i) / 65536 := by unfold cq; rw [if_pos h8]
  unfold rcb
  rw [e1, e2]
  omega
/-- a place in a row that can stand in a sentence is a context -/
theorem x_le (hW : gW B) (hr : r < B 0) (ho : gon B r = true) (hi : i < gsz B r) (h8 : gsg B r i < 8) (hX : gX B (gsy B r) ≠ NK) (hav : avb B (gK B) r (i : Int)) (hc : xcc B (gK B) (gX B) r i ≤ 200) : gX B (gsg B r i) ≠ NK ∧ gX B (gsg B r i) / 262144 ≤ xcc B (gK B) (gX B) r i := by
  have hNK := NK_eq
  obtain ⟨gs, gn⟩ := gX_ok hW
  by_cases e : gsg B r i = B 2
  · rw [e, gs.2.1]; exact ⟨by omega, by omega⟩
  · have ok : xOK B (gK B) (gX B) r i := ⟨hr, ho, hi, h8, e, hX, hav, hc⟩
    obtain ⟨b16, b4, bm⟩ := xOK_b hW (gpos_ok hW) (gK_ok hW).1.1 gs.1 ok
    obtain ⟨d1, d2, d3, d4⟩ := xky_dec b16 b4 bm
    have dl := xky_lt b16 b4 bm hc
    have := gs.2.2.2 r i ok
    omega
theorem row_pairs (hW : gW B) {c : Nat} : ∀ v r, r < B 0 → gon B r = true → avb B (gK B) r (-1) → gX B (gsy B r) ≠ NK → gX B (gsy B r) / 262144 + rc B (gK B) r ≤ 200 → (∀ i, i < gsz B r → gsg B r i < 8 → gK B (gsg B r i) < v) → rowH B (gK B) r (-1) c → isP B (gK B) (gX B) c := by
  have hp := gpos_ok hW
  have hy := (gK_ok hW).1
  have hn := hW.1
  intro v
  induction v using Nat.strongRecOn with
  | ind v ih =>
    intro r hr ho hav hX hc hv ⟨i, hi, _, h8, hor⟩
    obtain ⟨-, -, z4, -, -⟩ := hW.2.2.2.1 r hr
    have hN := hav i hi (by omega) h8
    have e := rc_but (K := gK B) hi h8
    have hav2 : avb B (gK B) r (i : Int) := fun j hj _ g8 => hav j hj (by omega) g8
    have hxc : xcc B (gK B) (gX B) r i = gX B (gsy B r) / 262144 + rcb B (gK B) r (i : Int) := rfl
    obtain ⟨ok, hsy, hk, hro, hcst, -⟩ := y_own hW hp hy h8 hN
    rcases hor with hor | hor
    · rw [hor, isP_cde (by omega) (by omega) (by omega)]
      exact ⟨hr, ho, hX, hi, h8, hro, hsy, ok.2.1, ok.2.2.1, hav2, by omega⟩
    · rw [yh_eq hW hp hy h8 hN] at hor
      obtain ⟨x1, x2⟩ := x_le hW hr ho hi h8 hX hav2 (by omega)
      refine ih (gK B (gsg B r i)) (hv i hi h8) _ hro ok.2.1 ok.2.2.1 (by rw [hsy]; exact x1) (by rw [hsy]; omega) (fun j hj g8 => (y_less hW hp hy h8 hN hj g8).1) hor
theorem row_pairs' (hW : gW B) {c : Nat} (hr : r < B 0) (ho : gon B r = true) (hav : avb B (gK B) r (-1)) (hX : gX B (gsy B r) ≠ NK) (hc : gX B (gsy B r) / 262144 + rc B (gK B) r ≤ 200) (h : rowH B (gK B) r (-1) c) : isP B (gK B) (gX B) c :=
  row_pairs hW (NK + 1) r hr ho hav hX hc (fun i _ h8 => by have := (gK_ok hW).2 _ h8; omega) h
theorem frm_pairs (hW : gW B) {c : Nat} : ∀ v r i o, gX B (gsy B r) < v → r < 16 → i < 4 → o < 16 → isP B (gK B) (gX B) (cde r i o) → frm B (gK B) (gX B) r i c → isP B (gK B) (gX B) c := by
  have hp := gpos_ok hW
  have hy := (gK_ok hW).1
  have hx := (gX_ok hW).1
  have hNK := NK_eq
  have hn := hW.1
  intro v
  induction v using Nat.strongRecOn with
  | ind v ih =>
    intro r i o hv hr16 hi4 ho16 hP hf
    obtain ⟨p1, p2, p3, p4, p5, p6, p7, p8, p9, p10, p11⟩ := (isP_cde hr16 hi4 ho16).mp hP
    have hxc : xcc B (gK B) (gX B) r i = gX B (gsy B r) / 262144 + rcb B (gK B) r (i : Int) := rfl
    -- the place's own symbol has a yield that costs no more
    have ok : yOK B (gK B) o := ⟨p6, p8, p9, by omega⟩
    obtain ⟨b16, bm⟩ := yOK_b hW hp hy.1 ok
    obtain ⟨d1, d2, d3⟩ := ky_dec b16 bm
    have dl := ky_lt b16 bm ok.2.2.2
    have kle := hy.2.2 o ok
    rw [p7] at kle
    have e := rc_but (K := gK B) p4 p5
    have hav : avb B (gK B) r (-1) := fun j hj _ g8 => by
      by_cases q : j = i
      · subst q; omega
      · exact p10 j hj (by omega) g8
    have tot : gX B (gsy B r) / 262144 + rc B (gK B) r ≤ 200 := by omega
    rw [frm_eq hW hp hy hx p1 p3] at hf
    rcases hf with hf | ⟨h2, hf⟩
    · refine row_pairs' hW p1 p2 hav p3 tot ?_
      obtain ⟨j, a, b, c, e⟩ := hf
      exact ⟨j, a, by omega, c, e⟩
    · have hsy := (hW.2.2.2.1 r p1).1
      obtain ⟨xok, hg, hcc, -, lt⟩ := x_own hW hp hy hx hsy h2 p3
      have z4 := (hW.2.2.2.1 _ xok.1).2.2.1
      have xi := xok.2.2.1
      have xr := xok.1
      have up : isP B (gK B) (gX B) (cde (gX B (gsy B r) / 4 % 16) (gX B (gsy B r) % 4) r) := by
        rw [isP_cde (by omega) (by omega) (by omega)]
        exact ⟨xok.1, xok.2.1, xok.2.2.2.2.2.1, xok.2.2.1, xok.2.2.2.1, p1, hg.symm, p2, hav, xok.2.2.2.2.2.2.1, by omega⟩
      rcases hf with hf | hf
      · rw [hf]; exact up
      · exact ih (gX B (gsy B r)) hv _ _ r lt (by omega) (by omega) (by omega) up hf
/-- all that the sentence of a pair HAS are pairs -/
theorem hP_pair (hW : gW B) {c c' : Nat} (hc : isP B (gK B) (gX B) c) (h : hP B (gK B) (gX B) c c') : isP B (gK B) (gX B) c' := by
  have hn := hW.1
  have h0 := hc.1
  have e : c = cde (c / 64) (c / 16 % 4) (c % 16) := by unfold cde; omega
  rcases h with h | h | h
  · rw [h]; exact hc
  · exact frm_pairs hW _ _ _ (c % 16) (Nat.lt_succ_self _) (by omega) (by omega) (by omega) (by rw [← e]; exact hc) h
  · obtain ⟨p1, p2, p3, p4, p5, p6, p7, p8, p9, p10, p11⟩ := hc
    obtain ⟨x1, x2⟩ := x_le hW p1 p2 p4 p5 p3 p10 (by omega)
    exact row_pairs' hW p6 p8 p9 (by rw [p7]; exact x1) (by rw [p7]; omega) h
end S91
/-- the pairs below a code are numbered by the class -/
def xpI (B : Nat → Nat) (t : Nat) (M : (Nat → Int → Int)) : Prop := M 81 3 = (cnt (gp B) t : Int) ∧ (∀ c : Nat, c < 1024 → M 83 (c : Int) = if c < t ∧ gp B c = true then (cnt (gp B) c : Int) else -1) ∧ (∀ c : Nat, c < t → gp B c = true → M 82 ((cnt (gp B) c : Nat) : Int) = (c : Int) ∧ M 84 ((cnt (gp B) c : Nat) : Int) = (pco B (gK B) (gX B) c : Int))
def xpF (M M' : (Nat → Int → Int)) : Prop := (∀ c, c < 81 ∨ 85 < c → M' c = M c) ∧ ∀ i : Int, i ≠ 3 → M' 81 i = M 81 i
section S91b
variable {B : Nat → Nat} {M M0 M' : (Nat → Int → Int)} {d : Nat} {Q : Int → (Nat → Int → Int) → Prop} {t : Nat}
theorem gp_iff {c : Nat} : gp B c = true ↔ isP B (gK B) (gX B) c := pB_iff
theorem xpI_skip {t' : Nat} (h : xpI B t M) (ht : t ≤ t') (hs : ∀ c, t ≤ c → c < t' → ¬ isP B (gK B) (gX B) c) : xpI B t' M := by
  have hf : ∀ c, t ≤ c → c < t' → gp B c = false := fun c a b => by
    cases e : gp B c with
    | false => rfl
    | true => exact absurd (gp_iff.mp e) (hs c a b)
  obtain ⟨h1, h2, h3⟩ := h
  refine ⟨by rw [cnt_skip ht hf]; exact h1, fun c hc => ?_, fun c hc hp => ?_⟩
  · rw [h2 c hc]
    by_cases q : c < t
    · by_cases z : gp B c = true
      · rw [if_pos ⟨q, z⟩, if_pos ⟨by omega, z⟩]
      · rw [if_neg (fun y => z y.2), if_neg (fun y => z y.2)]
    · rw [if_neg (fun y => q y.1), if_neg (fun y => by rw [hf c (by omega) y.1] at y; cases y.2)]
  · by_cases q : c < t
    · exact h3 c q hp
    · rw [hf c (by omega) hc] at hp; cases hp
theorem xpI_take (h : xpI B t M) (ht : t < 1024) (hP1 : isP B (gK B) (gX B) t) (e3 : M' 81 3 = ((cnt (gp B) t + 1 : Nat) : Int)) (e83 : ∀ j : Int, M' 83 j = if j = (t : Int) then (cnt (gp B) t : Int) else M 83 j) (e82 : ∀ j : Int, M' 82 j = if j = (cnt (gp B) t : Int) then (t : Int) else M 82 j) (e84 : ∀ j : Int, M' 84 j = if j = (cnt (gp B) t : Int) then (pco B (gK B) (gX B) t : Int) else M 84 j) : xpI B (t + 1) M' := by
  have hp := gp_iff.mpr hP1
  obtain ⟨h1, h2, h3⟩ := h
  refine ⟨?_, fun c hc => ?_, fun c hc hpc => ?_⟩
  · rw [e3, cnt_s, hp]; simp
  · rw [e83]
    by_cases q : c = t
    · subst q; rw [if_pos rfl, if_pos ⟨by omega, hp⟩]
    · rw [if_neg (by omega), h2 c hc]
      by_cases z : c < t ∧ gp B c = true
      · rw [if_pos z, if_pos ⟨by omega, z.2⟩]
      · rw [if_neg z, if_neg (fun y => z ⟨by omega, y.2⟩)]
  · by_cases q : c = t
    · subst q
      exact ⟨by rw [e82, if_pos rfl], by rw [e84, if_pos rfl]⟩
    · obtain ⟨a, b⟩ := h3 c (by omega) hpc
      have := cnt_lt_of hpc (n := t) (by omega)
      exact ⟨by rw [e82, if_neg (by omega)]; exact a, by rw [e84, if_neg (by omega)]; exact b⟩
theorem xpI_cong (h : xpI B t M) (e3 : M' 81 3 = M 81 3) (e2 : M' 82 = M 82) (e8 : M' 83 = M 83) (e4 : M' 84 = M 84) : xpI B t M' := by
  obtain ⟨h1, h2, h3⟩ := h
  exact ⟨by rw [e3]; exact h1, by rw [e8]; exact h2, by rw [e2, e4]; exact h3⟩
theorem xpF_rf : xpF M M := ⟨fun _ _ => rfl, fun _ _ => rfl⟩
theorem xpF_tr {M1 M2 : (Nat → Int → Int)} (h : xpF M M1) (g : xpF M1 M2) : xpF M M2 := ⟨fun c a => (g.1 c a).trans (h.1 c a), fun j a => (g.2 j a).trans (h.2 j a)⟩
theorem xpF_R {M1 : (Nat → Int → Int)} (f : xpF M M1) (hg : xgb B M 2) (hc : chOK B M) : xgb B M1 2 ∧ chOK B M1 := ⟨xgb_eq hg (fun c _ _ => f.1 c (by omega)), chOK_cong hc (fun i _ => by rw [f.1 22 (by omega)]) (fun c a b => f.1 c (by omega))⟩
theorem x_isWhole (hW : gW B) (hg : xgb B M 2) (hc : chOK B M) {r : Nat} (hr : r < B 0) (h1 : gon B r = true → avb B (gK B) r (-1) → Q 1 M) (h0 : ¬ (gon B r = true ∧ avb B (gK B) r (-1)) → Q 0 M) : am_s am_P am_gg (d + 2) 28 [.inr (.inr 23), .inl (r : Int)] M Q := by
  have hn := hW.1
  refine (v_28_23 _ _ _ _).mpr (x_isOn hg hW.on (by omega) ?_ ?_)
  · intro ho
    rw [if_neg (by omega)]
    rw [if_pos (by omega)]
    rw [(hc.2.2.1 r hr ho).2.2]
    refine @p_if _ _ _ _ ?_ ?_
    · intro e; exact h1 ho (mis_all.mp (by omega))
    · intro e; exact h0 (fun z => e (by have := mis_all.mpr z.2; omega))
  · intro ho
    rw [if_pos (by omega)]
    exact h0 (fun z => by rw [z.1] at ho; cases ho)
theorem x_rowCost (hW : gW B) (hc : chOK B M) {r : Nat} (hr : r < B 0) (ho : gon B r = true) (hav : avb B (gK B) r (-1)) (hQ : Q (rc B (gK B) r : Int) M) : am_s am_P am_gg (d + 1) 29 [.inr (.inr 23), .inl (r : Int)] M Q := by
  have hn := hW.1
  refine (v_29_23 _ _ _ _).mpr ?_
  rw [(hc.2.2.1 r hr ho).1, (rcx_all hav).1]
  rw [if_pos (by omega)]
  exact hQ
theorem x_numberSeconds (hW : gW B) {M0 : (Nat → Int → Int)} (hg0 : xgb B M0 2) (hc0 : chOK B M0) {r i : Nat} (hr : r < B 0) (ho : gon B r = true) (hi : i < gsz B r) (h8 : gsg B r i < 8) (hX : gX B (gsy B r) ≠ NK) (hav : avb B (gK B) r (i : Int)) (f : xpF M0 M) (hI : xpI B (cde r i 0) M) (hQ : ∀ M', xpF M0 M' → M' 85 = M 85 → xpI B (cde r (i + 1) 0) M' → Q 0 M') : am_s am_P am_gg (d + 3) 86 [.inr (.inr 82), .inl ((r * 4 + i : Nat) : Int), .inl (gsg B r i : Int), .inl (xcc B (gK B) (gX B) r i : Int)] M Q := by
  have hn := hW.1
  have hNK := NK_eq
  obtain ⟨hsy, hz, hz4, -, hs⟩ := hW.2.2.2.1 r hr
  have small : xcc B (gK B) (gX B) r i ≤ 300000 := by
    have h1 := (gX_ok hW).2 _ hsy
    have h2 := rcx_small hW (K := gK B) (gK_ok hW).2 hr
    have h3 := (rcx_but hi hav).1
    unfold xcc; omega
  refine (v_86_82 _ _ _ _ _ _).mpr ?_
  refine p_for (S := (Nat → Int → Int)) (X := fun j M => am_x am_P am_gg (d + 2) am_k86 0 Q 3 [some (.inr (.inr 82)), some (.inl (((r * 4 + i : Nat) : Int))), some (.inl ((gsg B r i : Int))), some (.inl ((xcc B (gK B) (gX B) r i : Int))), some (.inl (j)), none, none] [] M 0 0) (B 0) (fun o M1 => xpF M0 M1 ∧ M1 85 = M 85 ∧ xpI B (cde r i o) M1) ?_ ?_ 0 M (by omega) ⟨f, rfl, hI⟩
  · intro M1 ⟨f1, e1, i1⟩
    obtain ⟨hg, hc⟩ := xpF_R f1 hg0 hc0
    refine (h_86_3_82 _ _ _ _ _ _ _).mpr ?_
    rw [xg_n hg]
    rw [if_neg (by omega)]
    refine hQ M1 f1 e1 (xpI_skip i1 (by unfold cde; omega) (fun c a b z => ?_))
    have e : c = cde r i (c % 16) := by unfold cde at a b ⊢; omega
    rw [e, isP_cde (by omega) (by omega) (by omega)] at z
    have := z.2.2.2.2.2.1
    clear e
    unfold cde at a b; omega
  · intro o M1 ho2 ⟨f1, e1, i1⟩ k
    obtain ⟨hg, hc⟩ := xpF_R f1 hg0 hc0
    have c4 := cde_lt (r := r) (i := i) (o := o) (by omega) (by omega) (by omega)
    have skip : ∀ (z1 z2 : Option am_v), ¬ isP B (gK B) (gX B) (cde r i o) → am_x am_P am_gg (d + 2) am_k86 0 Q 3 [some (.inr (.inr 82)), some (.inl (((r * 4 + i : Nat) : Int))), some (.inl ((gsg B r i : Int))), some (.inl ((xcc B (gK B) (gX B) r i : Int))), some (.inl (((o + 1 : Nat) : Int))), z1, z2] [] M1 0 0 := by
      intro z1 z2 no
      refine am_x_le [some (.inr (.inr 82)), some (.inl (((r * 4 + i : Nat) : Int))), some (.inl ((gsg B r i : Int))), some (.inl ((xcc B (gK B) (gX B) r i : Int))), some (.inl (((o + 1 : Nat) : Int))), none, none] (am_lb_le _ _ ⟨rfl, rfl, rfl, rfl, rfl, trivial⟩) ?_
      refine k M1 ⟨f1, e1, xpI_skip i1 (by unfold cde; omega) (fun c a b => ?_)⟩
      rw [show c = cde r i o by unfold cde at a b ⊢; omega]; exact no
    refine (h_86_3_82 _ _ _ _ _ _ _).mpr ?_
    rw [xg_n hg, xg_sy hg ho2, w32_s (i := o) (by omega)]
    rw [if_pos (by omega)]
    rw [if_pos (by omega)]
    refine @p_if _ _ _ _ ?_ ?_
    · intro e
      refine x_isWhole hW hg hc ho2 ?_ ?_
      · intro hoo hao
        rw [if_neg (by omega)]
        refine x_rowCost hW hc ho2 hoo hao ?_
        have rs : rc B (gK B) o ≤ 200000 := by
          have := rcx_small hW (K := gK B) (gK_ok hW).2 ho2
          have h3 := (rcx_all hao).1
          omega
        rw [w32_a (by omega)]
        refine @p_if _ _ _ _ ?_ ?_
        · intro q
          refine skip _ _ (fun z => ?_)
          rw [isP_cde (by omega) (by omega) (by omega)] at z
          have := z.2.2.2.2.2.2.2.2.2.2
          omega
        · intro q
          have yes : isP B (gK B) (gX B) (cde r i o) := (isP_cde (by omega) (by omega) (by omega)).mpr ⟨hr, ho, hX, hi, h8, ho2, by omega, hoo, hao, hav, by omega⟩
          have ck := cnt_le (p := gp B) (cde r i o)
          rw [i1.1, show w32 (((r * 4 + i : Nat) : Int) * 16) = ((r * 4 + i : Nat) : Int) * 16 from w32_i (by omega) (by omega), show w32 (((r * 4 + i : Nat) : Int) * 16 + (o : Int)) = (cde r i o : Int) by rw [w32_i (by omega) (by omega)]; unfold cde; omega, w32_s (i := cnt (gp B) (cde r i o)) (by omega)]
          rw [if_pos (by omega)]
          rw [if_pos (by omega)]
          rw [if_pos (by omega)]
          rw [if_pos (by omega)]
          refine am_x_le [some (.inr (.inr 82)), some (.inl (((r * 4 + i : Nat) : Int))), some (.inl ((gsg B r i : Int))), some (.inl ((xcc B (gK B) (gX B) r i : Int))), some (.inl (((o + 1 : Nat) : Int))), none, none] (am_lb_le _ _ ⟨rfl, rfl, rfl, rfl, rfl, trivial⟩) ?_
          refine k _ ⟨⟨fun c hc => ?_, fun j hj => ?_⟩, ?_, ?_⟩
          · rw [up_nc _ _ _ _ (by omega), up_nc _ _ _ _ (by omega), up_nc _ _ _ _ (by omega), up_nc _ _ _ _ (by omega)]; exact f1.1 c hc
          · rw [up_ni _ _ _ _ hj, up_nc _ _ _ _ (by decide), up_nc _ _ _ _ (by decide), up_nc _ _ _ _ (by decide)]; exact f1.2 j hj
          · rw [up_nc _ _ _ _ (by decide), up_nc _ _ _ _ (by decide), up_nc _ _ _ _ (by decide), up_nc _ _ _ _ (by decide)]; exact e1
          · have : cde r i (o + 1) = cde r i o + 1 := by unfold cde; omega
            rw [this]
            refine xpI_take i1 c4 yes (up_eq _ _ _ _) (fun j => ?_) (fun j => ?_) (fun j => ?_)
            · rw [up_nc _ _ _ _ (by decide), up_ci, up_nc _ _ _ _ (by decide), up_nc _ _ _ _ (by decide)]
            · rw [up_nc _ _ _ _ (by decide), up_nc _ _ _ _ (by decide), up_nc _ _ _ _ (by decide), up_ci]
            · rw [up_nc _ _ _ _ (by decide), up_nc _ _ _ _ (by decide), up_ci, up_nc _ _ _ _ (by decide)]
              have p1 : cde r i o / 64 = r := by unfold cde; omega
              have p2 : cde r i o / 16 % 4 = i := by unfold cde; omega
              have p3 : cde r i o % 16 = o := by unfold cde; omega
              have : ((xcc B (gK B) (gX B) r i + rc B (gK B) o : Nat) : Int) = (pco B (gK B) (gX B) (cde r i o) : Int) := by unfold pco; rw [p1, p2, p3]; omega
              rw [this]
      · intro hno
        rw [if_pos (by omega)]
        refine skip _ _ (fun z => hno ?_)
        rw [isP_cde (by omega) (by omega) (by omega)] at z
        exact ⟨z.2.2.2.2.2.2.2.1, z.2.2.2.2.2.2.2.2.1⟩
    · intro e
      refine skip _ _ (fun z => ?_)
      rw [isP_cde (by omega) (by omega) (by omega)] at z
      exact e (by have := z.2.2.2.2.2.2.1; omega)
/-- the pairs of a frame begin where they do -/
def xfF (B : Nat → Nat) (n : Nat) (M : (Nat → Int → Int)) : Prop := ∀ f : Nat, f < n → M 85 (f : Int) = (cnt (gp B) (16 * f) : Int)
theorem x_numberPairs (hW : gW B) (hg0 : xgb B M0 2) (hc0 : chOK B M0) (hQ : ∀ M', xpF M0 M' → xpI B 1024 M' → xfF B 65 M' → Q 0 M') : am_s am_P am_gg (d + 4) 85 [.inr (.inr 82)] M0 Q := by
  have hn := hW.1
  refine (v_85_82 _ _ _).mpr (x_fill_83 ?_)
  have f00 : xpF M0 (am_up (am_fil M0 83 0 1024 (-1)) 81 3 0) := ⟨fun c hc => by rw [up_nc _ _ _ _ (by omega), fil_nc _ _ _ _ _ (by omega)], fun i hi => by rw [up_ni _ _ _ _ hi, fil_nc _ _ _ _ _ (by decide)]⟩
  refine p_for (S := (Nat → Int → Int)) (X := fun j M => am_x am_P am_gg (d + 3) am_k85 0 Q 15 [some (.inr (.inr 82)), some (.inl (j)), none, none] [] M 0 0) 64 (fun f M1 => xpF M0 M1 ∧ xpI B (16 * f) M1 ∧ xfF B f M1) ?_ ?_ 0 _ (by omega) ⟨f00, ⟨up_eq _ _ _ _, fun c hc => ?_, fun c hc => absurd hc (by omega)⟩, fun f hf => absurd hf (Nat.not_lt_zero f)⟩
  · intro M1 ⟨f1, i1, x1⟩
    refine (h_85_15_82 _ _ _ _).mpr ?_
    rw [if_neg (by omega)]
    have e3 := i1.1
    refine hQ _ ⟨fun c hc => by rw [up_nc _ _ _ _ (by omega)]; exact f1.1 c hc, fun i hi => by rw [up_nc _ _ _ _ (by decide)]; exact f1.2 i hi⟩ (xpI_cong i1 (by rw [up_nc _ _ _ _ (by decide)]) (up_nc _ _ _ _ (by decide)) (up_nc _ _ _ _ (by decide)) (up_nc _ _ _ _ (by decide))) (fun f hf => ?_)
    rw [up_ci]
    by_cases e : f = 64
    · subst e; rw [if_pos (by omega)]; exact e3
    · rw [if_neg (by omega)]; exact x1 f (by omega)
  · intro f M1 hf ⟨f1, i1, x1⟩ k
    refine (h_85_15_82 _ _ _ _).mpr ?_
    have et : w32 (Int.tdiv (f : Int) 4) = ((f / 4 : Nat) : Int) := by rw [show Int.tdiv (f : Int) 4 = ((f / 4 : Nat) : Int) from rfl, w32_i (by omega) (by omega)]
    have em : w32 (Int.tmod (f : Int) 4) = ((f % 4 : Nat) : Int) := by rw [show Int.tmod (f : Int) 4 = ((f % 4 : Nat) : Int) from rfl, w32_i (by omega) (by omega)]
    rw [et, em, w32_s (i := f) (by omega), i1.1]
    generalize hM2 : am_up M1 85 (f : Int) (cnt (gp B) (16 * f) : Int) = M2
    have f2 : xpF M0 M2 := by rw [← hM2]; exact ⟨fun c hc => by rw [up_nc _ _ _ _ (by omega)]; exact f1.1 c hc, fun i hi => by rw [up_nc _ _ _ _ (by decide)]; exact f1.2 i hi⟩
    have i2 : xpI B (16 * f) M2 := by rw [← hM2]; exact xpI_cong i1 (by rw [up_nc _ _ _ _ (by decide)]) (up_nc _ _ _ _ (by decide)) (up_nc _ _ _ _ (by decide)) (up_nc _ _ _ _ (by decide))
    have x2 : xfF B (f + 1) M2 := fun g hg => by
      rw [← hM2, up_ci]
      by_cases e : g = f
      · subst e; rw [if_pos rfl]
      · rw [if_neg (by omega)]; exact x1 g (by omega)
    obtain ⟨hg, hc⟩ := xpF_R f2 hg0 hc0
    have hg1 := (xpF_R f1 hg0 hc0).1
    have skip : ∀ (z1 z2 : Option am_v), (∀ o, o < 16 → ¬ isP B (gK B) (gX B) (cde (f / 4) (f % 4) o)) → am_x am_P am_gg (d + 3) am_k85 0 Q 15 [some (.inr (.inr 82)), some (.inl (((f + 1 : Nat) : Int))), z1, z2] [] M2 0 0 := by
      intro z1 z2 no
      refine am_x_le [some (.inr (.inr 82)), some (.inl (((f + 1 : Nat) : Int))), none, none] (am_lb_le _ _ ⟨rfl, rfl, trivial⟩) ?_
      refine k M2 ⟨f2, xpI_skip i2 (by omega) (fun c a b => ?_), x2⟩
      rw [show c = cde (f / 4) (f % 4) (c % 16) by unfold cde; omega]
      exact no _ (by omega)
    rw [xg_n hg1]
    rw [if_pos (by omega)]
    rw [if_pos (by omega)]
    refine @p_if _ _ _ _ ?_ ?_
    · intro hr
      have hr : f / 4 < B 0 := by omega
      obtain ⟨hsy, hz, hz4, -, hs⟩ := hW.2.2.2.1 (f / 4) hr
      refine x_isOn hg hW.on (by omega) ?_ ?_
      · intro ho
        rw [if_neg (by omega)]
        rw [xg_sz hg hr]
        rw [if_pos (by omega)]
        refine @p_if _ _ _ _ ?_ ?_
        · intro hi
          have hi : f % 4 < gsz B (f / 4) := by omega
          refine x_signAt hg hW hr hi ?_
          refine @p_if _ _ _ _ ?_ ?_
          · intro h8
            have h8 : gsg B (f / 4) (f % 4) < 8 := by omega
            refine x_isFrame hW hg hc.1 hc.2.1 (hc.2.2.1 _ hr ho) hr hi h8 ?_ ?_
            · intro hav hX
              rw [if_neg (by omega)]
              refine x_signAt hg hW hr hi (x_frameCost hW hg hc.1 hc.2.1 (hc.2.2.1 _ hr ho) hr hi h8 hav ?_)
              have := x_numberSeconds (d := d) (Q := fun _ M6 => am_x am_P am_gg (d + 3) am_k85 0 Q 15 [some (.inr (.inr 82)), some (.inl (((f + 1 : Nat) : Int))), some (.inl (((f / 4 : Nat) : Int))), some (.inl (((f % 4 : Nat) : Int)))] [] M6 0 0) hW hg0 hc0 hr ho hi h8 hX hav f2 (by rw [show cde (f / 4) (f % 4) 0 = 16 * f by unfold cde; omega]; exact i2) (fun M3 f3 e3 i3 => ?_)
              · rw [show f / 4 * 4 + f % 4 = f by omega] at this; exact this
              · refine am_x_le [some (.inr (.inr 82)), some (.inl (((f + 1 : Nat) : Int))), none, none] (am_lb_le _ _ ⟨rfl, rfl, trivial⟩) ?_
                refine k M3 ⟨f3, ?_, fun g hg => by rw [e3]; exact x2 g hg⟩
                rw [show 16 * (f + 1) = cde (f / 4) (f % 4 + 1) 0 by unfold cde; omega]; exact i3
            · intro hno
              rw [if_pos (by omega)]
              refine skip _ _ (fun o ho z => hno ?_)
              rw [isP_cde (by omega) (by omega) ho] at z
              exact ⟨z.2.2.2.2.2.2.2.2.2.1, z.2.2.1⟩
          · intro h8
            refine skip _ _ (fun o ho z => ?_)
            rw [isP_cde (by omega) (by omega) ho] at z
            have := z.2.2.2.2.1; omega
        · intro hi
          refine skip _ _ (fun o ho z => ?_)
          rw [isP_cde (by omega) (by omega) ho] at z
          have := z.2.2.2.1; omega
      · intro ho
        rw [if_pos (by omega)]
        refine skip _ _ (fun o ho2 z => ?_)
        rw [isP_cde (by omega) (by omega) ho2] at z
        rw [z.2.1] at ho; cases ho
    · intro hr
      refine skip _ _ (fun o ho z => ?_)
      rw [isP_cde (by omega) (by omega) ho] at z
      have := z.1; omega
  · rw [up_nc _ _ _ _ (by decide), fil_at, if_pos (by omega), if_neg (by omega)]
end S91b
