/-! the class numbers the own tree -/
def exd (B x : Nat → Nat) : List nd → List nd
  | [] => []
  | t :: l => kdn B x (ru B x t.1 t.2.1 t.2.2) t.2.1 t.2.2 (gsz B (ru B x t.1 t.2.1 t.2.2)) ++ l
def sq (B x : Nat → Nat) (N : Nat) : Nat → List nd
  | 0 => [(B 2, 0, N)]
  | k + 1 => exd B x (sq B x N k)
def rkk (B x : Nat → Nat) (M : (Nat → Int → Int)) : List nd → Prop
  | [] => True
  | t :: l => M 107 (l.length : Int) = ((yT B x t.1 t.2.1 t.2.2).2 : Int) ∧ rkk B x M l
section Sa8
variable {B x o : Nat → Nat} {a n r i j s k c e f d m N : Nat} {T : Nat → Nat × Nat} {M M0 : (Nat → Int → Int)} {Q : Int → (Nat → Int → Int) → Prop} {st nl : List nd}
theorem sq_ok (hW : gW B) (hN1 : 1 ≤ N) (hN : N ≤ 16) (h : 0 < wT B x (B 2) 0 N) : ∀ k, fl B x (sq B x N k) = (yT B x (B 2) 0 N).1.drop k ∧ vld B x N (sq B x N k) ∧ tot (sq B x N k) ≤ N
  | 0 => by
    refine ⟨?_, ⟨⟨hW.2.2.1, gRch_0, hN1, by show 0 + N ≤ N; omega, h⟩, trivial⟩, by show N + 0 ≤ N; omega⟩
    show (yT B x (B 2) 0 N).1 ++ [] = _
    rw [List.append_nil]; rfl
  | k + 1 => by
    obtain ⟨h1, h2, h3⟩ := sq_ok hW hN1 hN h k
    show fl B x (exd B x (sq B x N k)) = _ ∧ vld B x N (exd B x (sq B x N k)) ∧ tot (exd B x (sq B x N k)) ≤ N
    cases e : sq B x N k with
    | nil =>
      rw [e] at h1
      refine ⟨?_, trivial, Nat.zero_le _⟩
      show [] = _
      have h1 : [] = (yT B x (B 2) 0 N).1.drop k := h1
      rw [← List.drop_drop, ← h1]; rfl
    | cons t l =>
      obtain ⟨s, a, m⟩ := t
      rw [e] at h1 h2 h3
      obtain ⟨⟨v1, v2, v3, v4, v5⟩, hvl⟩ := h2
      dsimp only at v1 v2 v3 v4 v5
      have h3 : m + tot l ≤ N := h3
      obtain ⟨c1, c2, c3, c4, c5⟩ := ru_ok hW v1 (by omega) v5
      have hus : gUsd B (ru B x s a m) := wR_usd c1 c2 (by rw [c3]; exact v2) c4
      have hkd := kdn_ok hW hus c4 v4 (gsz B (ru B x s a m)) 0 (by omega)
      rw [fl_exp hW v1 v2 (by omega) v5 l] at h1
      refine ⟨?_, vld_app hkd.2.1 hvl, ?_⟩
      · show fl B x (kdn B x (ru B x s a m) a m (gsz B (ru B x s a m)) ++ l) = _
        rw [← List.drop_drop, ← h1]; rfl
      · show tot (kdn B x (ru B x s a m) a m (gsz B (ru B x s a m)) ++ l) ≤ N
        rw [tot_app]
        have hc0 : ctp B x (ru B x s a m) a m 0 = a := rfl
        have := hkd.2.2
        omega
theorem q_sm_min {p : Nat → Nat} {G : Nat} : ∀ n, min (q_sm (fun k => min (p k) G) n) G = min (q_sm p n) G
  | 0 => rfl
  | n + 1 => by
    have := q_sm_min (p := p) (G := G) n
    show min (q_sm (fun k => min (p k) G) n + min (p n) G) G = min (q_sm p n + p n) G
    omega
/-- the trees that come ahead by one place -/
theorem x_ahead (hW : gW B) (hg : xgb B M 2) (hT : cT B f M) (hr : r < B 0) (ho : gon B r = true) (hi : i < gsz B r) (hn : n ≤ 16) (hf : n ≤ f) (hf24 : f ≤ 24) {cc w : Nat} (hc : cc < n) (hlast : i + 1 = gsz B r → cc + 1 = n) (hrest : gsz B r - (i + 1) ≤ n - (cc + 1)) (hw : w ≤ tG) (hQ : ∀ v : Nat, v ≤ tG → (∀ g, min (g + v) tG = min (g + (q_sm (ctm B r i n) cc + min (w * tR B r (i + 1) (n - (cc + 1))) tG)) tG) → Q (v : Int) M) : am_s am_P am_gg (d + 3) 158 [.inr (.inr 101), .inl (r : Int), .inl (i : Int), .inl (n : Int), .inl ((cc + 1 : Nat) : Int), .inr (.inl (w : Int))] M Q := by
  have hz := hW.2.2.2.1 r hr
  have hn16 := hW.1
  refine (v_158_101 _ _ _ _ _ _ _ _).mpr ?_
  rw [if_pos (by omega), xg_sz hg hr, show w32 ((gsz B r : Int) - 1) = ((gsz B r - 1 : Nat) : Int) by rw [w32_i (by omega) (by omega)]; omega]
  refine @p_if _ _ _ _ ?_ ?_
  · intro e
    have e : i + 1 = gsz B r := by omega
    refine hQ w hw (fun g => ?_)
    have e0 : q_sm (ctm B r i n) cc = 0 := by
      refine q_sm_0 (fun k hk => ?_)
      unfold ctm tb
      rw [e, tR_end, if_neg (by have := hlast e; omega), Nat.mul_zero]; rfl
    rw [e0, e, tR_end, if_pos (by have := hlast e; omega), Nat.mul_one]
    omega
  · intro e
    have e : i + 1 < gsz B r := by omega
    refine x_restCode hg hW hr e ?_
    refine x_signAt hg hW hr hi ?_
    have hs := sg_32 hW hr hi
    refine x_sumBelow (B := B) (by omega) (rsc_lt hW hr e) (by omega) (by omega) (fun k h1 h2 => ⟨tbl_sg hW hT hr hi h1 (by omega) (by omega), tbl_rsc hW hT hr ho e (by omega) (by omega) (by omega)⟩) ?_
    rw [show w32 ((n : Int) - ((cc + 1 : Nat) : Int)) = ((n - (cc + 1) : Nat) : Int) by rw [w32_i (by omega) (by omega)]; omega]
    refine x_of (rsc_lt hW hr e) (by omega) (tbl_rsc hW hT hr ho e (by omega) (by omega) (by omega)) ?_
    refine x_times hw cv_le ?_
    refine x_plus (Nat.min_le_right _ _) (Nat.min_le_right _ _) ?_
    refine hQ _ (Nat.min_le_right _ _) (fun g => ?_)
    rw [cv_rsc hW hr e (by omega), Nat.add_sub_cancel]
    have e1 : min (q_sm (fun k => cv B (gsg B r i) (k + 1) * cv B (rsc B r i) (n - (k + 1))) cc) tG = min (q_sm (ctm B r i n) cc) tG := by
      rw [← q_sm_min, ← q_sm_min (p := ctm B r i n)]
      rw [q_sm_cg (f := fun k => min (cv B (gsg B r i) (k + 1) * cv B (rsc B r i) (n - (k + 1))) tG) (g := fun k => min (ctm B r i n k) tG)]
      intro k hk
      try dsimp only
      rw [cv_sg hs.1, cv_rsc hW hr e (by omega)]
      unfold ctm tb
      omega
    rw [e1]
    generalize min (w * tR B r (i + 1) (n - (cc + 1))) tG = p
    omega
end Sa8
