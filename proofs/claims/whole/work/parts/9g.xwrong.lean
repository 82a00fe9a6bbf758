/-! wrong sentences: one letter of a sentence is changed -/
def bfr (B : Nat → Nat) (l : List Nat) (p a : Nat) : Prop := if p = 0 then gE B (e0 B) (B 2) a else gBes B (l.getD (p - 1) 0) a
def aft (B : Nat → Nat) (l : List Nat) (p a : Nat) : Prop := if p + 1 = l.length then gE B (e1 B) (B 2) a else gBes B a (l.getD (p + 1) 0)
def wrg (B : Nat → Nat) (l : List Nat) (p a : Nat) : Prop := (gUL B a ∧ a ≠ l.getD p 0) ∧ ¬ (bfr B l p a ∧ aft B l p a)
/-- the wrong ones, in their order -/
def wrq (B : Nat → Nat) (l : List Nat) (q : Nat) : Prop := wrg B l (q / 16) (q % 16)
theorem cnt_16 (p : Nat → Bool) (w : Nat) : cnt p (16 * (w + 1)) = cnt p (16 * w) + cnt (fun k => p (16 * w + k)) 16 := by
  have : ∀ m, cnt p (16 * w + m) = cnt p (16 * w) + cnt (fun k => p (16 * w + k)) m := by
    intro m
    induction m with
    | zero => rfl
    | succ m ih => rw [← Nat.add_assoc, cnt_s, ih, cnt_s]; omega
  exact this 16
theorem cnt_16' (p : Nat → Bool) (w t : Nat) : cnt p (16 * w + t) = cnt p (16 * w) + cnt (fun k => p (16 * w + k)) t := by
  induction t with
  | zero => rfl
  | succ m ih => rw [← Nat.add_assoc, cnt_s, ih, cnt_s]; omega
section S9g
variable {B : Nat → Nat} {M M0 : (Nat → Int → Int)} {d : Nat} {Q : Int → (Nat → Int → Int) → Prop} {l : List Nat}
theorem gUL_lt (hW : gW B) {a : Nat} (h : gUL B a) : a < 16 := by
  obtain ⟨r, i, h1, h2, h3⟩ := h
  have := (hW.2.2.2.1 r h1.1).2.2.2.2 i h2
  omega
theorem w16 (p : Nat) {P : Nat → Prop} (hP : ∀ a, P a → a < 16) : cnt (dc P) 32 = cnt (dc P) 16 := cnt_skip (by omega) (fun c a _ => dc_f (fun z => by have := hP c z; omega))
theorem x_spoilers (hg : xgb B M 2) (hW : gW B) (hs : sOK B M) (hl : lw l 91 M) (ht : lts l) (hn : l.length ≤ 200) {p : Nat} (hp : p < l.length) (hQ : ∀ v, bs v (wrg B l p) → Q v M) : am_s am_P am_gg (d + 2) 134 [.inr (.inr 17), .inr (.inr 92), .inl (p : Int)] M Q := by
  obtain ⟨s1, s2, s3, s4, s5, s6, s7, s8, s9⟩ := hs
  have L91 : ltB 91 = true := by decide
  have h28 := hW.2.2.1
  have e4 : M 2 4 = (B 2 : Int) := xg_rt hg
  have e1 : M 91 1 = (l.length : Int) := hl.1
  have at1 : ∀ {q : Nat} {Q : Int → (Nat → Int → Int) → Prop}, q < l.length → Q ((l.getD q 0 : Nat) : Int) M → am_s am_P am_gg (d + 1) 77 [.inr (.inr 92), .inl (q : Int)] M Q := fun hq h => x_ltat L91 hl hn hq h
  have here := ht p hp
  have fin : ∀ {x y : Int}, bs x (bfr B l p) → bs y (aft B l p) → am_s am_P am_gg (d + 1) 77 [.inr (.inr 92), .inl (p : Int)] M (fun r M1 => Q (i_and (i_and (M 16 6) (i_xor (i_shl 1 r) (-1))) (i_xor (i_and x y) (-1))) M1) := fun hx hy => at1 hp (hQ _ (bs_sub (bs_sub s5 (bs_one (by omega))) (bs_and hx hy)))
  have bz : p = 0 → bs (M 18 (B 2 : Int)) (bfr B l p) := fun z => bs_cong (s6 _ h28) (fun a => by unfold bfr; rw [if_pos z])
  have bn : p ≠ 0 → bs (M 20 ((l.getD (p - 1) 0 : Nat) : Int)) (bfr B l p) := fun z => bs_cong (s8 _ (ht _ (by omega))) (fun a => by unfold bfr; rw [if_neg z])
  have az : p + 1 = l.length → bs (M 19 (B 2 : Int)) (aft B l p) := fun z => bs_cong (s7 _ h28) (fun a => by unfold aft; rw [if_pos z])
  have an : p + 1 ≠ l.length → bs (M 21 ((l.getD (p + 1) 0 : Nat) : Int)) (aft B l p) := fun z => bs_cong (s9 _ (ht _ (by omega))) (fun a => by unfold aft; rw [if_neg z])
  have ep : w32 ((p : Int) + 1) = ((p + 1 : Nat) : Int) := w32_s (by omega)
  refine (w_134_17_92 _ _ _ _).mpr ?_
  rw [e1, e4, show w32 ((l.length : Int) - 1) = (l.length : Int) - 1 by rw [w32_i (by omega) (by omega)], ep]
  by_cases z : p = 0
  · rw [if_pos (by omega), if_pos (by omega)]
    by_cases y : p + 1 = l.length
    · rw [if_pos (by omega), if_pos (by omega)]
      exact fin (bz z) (az y)
    · rw [if_neg (by omega)]
      refine at1 (by omega) ?_
      have := ht (p + 1) (by omega)
      rw [if_pos (by omega)]
      exact fin (bz z) (an y)
  · rw [if_neg (by omega), show w32 ((p : Int) - 1) = ((p - 1 : Nat) : Int) by rw [w32_i (by omega) (by omega)]; omega]
    refine at1 (by omega) ?_
    have := ht (p - 1) (by omega)
    rw [if_pos (by omega), e1, e4, show w32 ((l.length : Int) - 1) = (l.length : Int) - 1 by rw [w32_i (by omega) (by omega)]]
    by_cases y : p + 1 = l.length
    · rw [if_pos (by omega), if_pos (by omega)]
      exact fin (bn z) (az y)
    · rw [if_neg (by omega)]
      refine at1 (by omega) ?_
      have := ht (p + 1) (by omega)
      rw [if_pos (by omega)]
      exact fin (bn z) (an y)
/-- the bit that has so many below it -/
theorem x_bitAt {v : Int} {P : Nat → Prop} (hv : bs v P) {a : Nat} (ha : a < cnt (dc P) 32) (hQ : ∀ t, t < 31 → P t → cnt (dc P) t = a → Q (t : Int) M) : am_s am_P am_gg (d + 2) 53 [.inl v, .inl (a : Int)] M Q := by
  have cl := cnt_le (p := dc P) 32
  have low : ∀ c, c ≤ a → ∀ t, (P t ∧ c ≤ cnt (dc P) t) → (∀ k, k < t → ¬ (P k ∧ c ≤ cnt (dc P) k)) → cnt (dc P) t = c := fun c hc t h1 h0 => by
    by_cases e : cnt (dc P) t = c
    · exact e
    · obtain ⟨x, x1, x2, x3⟩ := cnt_sel (p := dc P) (k := c) (n := t) (by have := h1.2; omega)
      exact absurd ⟨dc_iff.mp x2, by omega⟩ (h0 x x1)
  have pos : ∀ c, c ≤ a → 0 < cnt (dc (fun k => P k ∧ c ≤ cnt (dc P) k)) 32 := fun c hc => by
    obtain ⟨x, x1, x2, x3⟩ := cnt_sel (p := dc P) (k := c) (n := 32) (by omega)
    exact cnt_pos.mpr ⟨x, x1, dc_iff.mpr ⟨dc_iff.mp x2, by omega⟩⟩
  refine (w_53 _ _ _ _ _).mpr ?_
  refine am_x_le [none, some (.inl ((a : Int))), some (.inl (v)), some (.inl (((0 : Nat) : Int)))] (am_lb_le _ _ ⟨rfl, rfl, rfl, trivial⟩) ?_
  refine p_for (S := Int) (X := fun j x => am_x am_P am_gg (d + 1) am_k53 1 Q 4 [none, some (.inl ((a : Int))), some (.inl (x)), some (.inl (j))] [] M 0 0) a (fun c x => bs x (fun k => P k ∧ c ≤ cnt (dc P) k)) ?_ ?_ 0 v (by omega) (bs_cong hv (fun k => ⟨fun z => ⟨z, by omega⟩, fun z => z.1⟩))
  · intro x hx
    obtain ⟨t, t31, t1, t0, -, -, ln⟩ := bs_low hx (pos a (Nat.le_refl a))
    refine (g_53_4 _ _ _ _ _ _).mpr ?_
    rw [if_neg (by omega)]
    exact ln (hQ t t31 t1.1 (low a (Nat.le_refl a) t t1 t0))
  · intro c x hc hx k
    obtain ⟨t, t31, t1, t0, bv, -, -⟩ := bs_low hx (pos c (by omega))
    have et := low c (by omega) t t1 t0
    refine (g_53_4 _ _ _ _ _ _).mpr ?_
    rw [if_pos (by omega)]
    rw [w32_s (i := c) (by omega)]
    refine k _ (bs_cong bv (fun q => ⟨fun z => ⟨z.1.1, ?_⟩, fun z => ⟨⟨z.1, by omega⟩, fun e => by rw [e] at z; omega⟩⟩))
    have : t < q := by
      by_cases y : q < t
      · exact absurd z.1 (t0 q y)
      · have := z.2; omega
    have c2 := cnt_lt_of (p := dc P) (dc_iff.mpr t1.1) this
    omega
theorem wrq_dc {p k : Nat} (hk : k < 16) : dc (wrq B l) (16 * p + k) = dc (wrg B l p) k := by
  have e : wrq B l (16 * p + k) ↔ wrg B l p k := by unfold wrq; rw [show (16 * p + k) / 16 = p by omega, show (16 * p + k) % 16 = k by omega]
  by_cases z : wrg B l p k
  · rw [dc_iff.mpr z, dc_iff.mpr (e.mpr z)]
  · rw [dc_f z, dc_f (fun y => z (e.mp y))]
theorem wrq_row {p : Nat} : cnt (fun k => dc (wrq B l) (16 * p + k)) 16 = cnt (dc (wrg B l p)) 16 := cnt_congr (fun k hk => wrq_dc hk)
theorem wrq_part {p t : Nat} (ht : t ≤ 16) : cnt (dc (wrq B l)) (16 * p + t) = cnt (dc (wrq B l)) (16 * p) + cnt (dc (wrg B l p)) t := by
  rw [cnt_16', cnt_congr (p := fun k => dc (wrq B l) (16 * p + k)) (q := dc (wrg B l p)) (fun k hk => wrq_dc (by omega))]
theorem x_countSpoilt (hW : gW B) (hg : xgb B M 2) (hc : chOK B M) (hp : pOK B M) (hs : spI B M) (hS : sOK B M) {n : Nat} (hn : n < gN B) (hQ : ∀ M', spF M M' → lw (pW B n) 91 M' → M' 81 16 = (n : Int) → Q ((cnt (dc (wrq B (pW B n))) (16 * (pW B n).length) : Nat) : Int) M') : am_s am_P am_gg (d + 5) 51 [.inr (.inr 94), .inl (n : Int)] M Q := by
  have len := pW_len hW hn
  have ht : lts (pW B n) := pcW_lts hW (cdP hn).2.1
  refine (w_51_94 _ _ _ _).mpr ?_
  refine x_spell hW hg hc hp hs hn (fun M1 f1 l1 e1 => ?_)
  have hg1 : xgb B M1 2 := xgb_eq hg (fun c _ _ => f1.1 c (by omega) (by omega) (by omega))
  have hS1 : sOK B M1 := sOK_cong hS (fun i _ _ => by rw [f1.1 16 (by omega) (by omega) (by omega)]) (fun c a b => f1.1 c (by omega) (by omega) (by omega))
  have hQ1 := hQ M1 f1 l1 e1
  generalize pW B n = l at *
  refine am_x_le [some (.inr (.inr 94)), none, none, none, none] (am_lb_le _ _ ⟨rfl, trivial⟩) ?_
  refine (g_51_8_94_s92 _ _ _).mpr ?_
  have key := p_for (S := Int) (X := fun j x => am_x am_P am_gg (d + 4) am_k51 1 Q 14 [some (.inr (.inr 94)), none, some (.inr (.inr 92)), some (.inl (x)), some (.inl (j))] [] M1 0 0) l.length (fun p x => x = ((cnt (dc (wrq B l)) (16 * p) : Nat) : Int)) ?_ ?_ 0 (0 : Int) (by omega) rfl
  · exact key
  · intro x ex
    refine (g_51_14_94_92 _ _ _ _ _).mpr ?_
    rw [l1.1]
    rw [if_neg (by omega)]
    rw [ex]; exact hQ1
  · intro p x hpl ex k
    have cl := cnt_le (p := dc (wrq B l)) (16 * p)
    have cl2 := cnt_le (p := dc (wrg B l p)) 32
    refine (g_51_14_94_92 _ _ _ _ _).mpr ?_
    rw [l1.1]
    rw [if_pos (by omega)]
    refine x_spoilers hg1 hW hS1 l1 ht len hpl (fun v bv => ?_)
    refine x_bitsP bv ?_
    rw [w32_s (i := p) (by omega)]
    refine k _ ?_
    rw [ex, cnt_16, wrq_row, ← w16 p (fun a z => gUL_lt hW z.1.1), w32_i (by omega) (by omega)]
    omega
theorem x_findSpoilt (hW : gW B) (hg : xgb B M 2) (hc : chOK B M) (hp : pOK B M) (hs : spI B M) (hS : sOK B M) {n i : Nat} (hn : n < gN B) (hi : i < 2147483648) (hQ : ∀ M', spF M M' → lw (pW B n) 91 M' → M' 81 16 = (n : Int) → (∀ q, q < 16 * (pW B n).length → wrq B (pW B n) q → cnt (dc (wrq B (pW B n))) q = i → Q (q : Int) M') ∧ (cnt (dc (wrq B (pW B n))) (16 * (pW B n).length) ≤ i → Q (-1) M')) : am_s am_P am_gg (d + 5) 52 [.inr (.inr 94), .inl (n : Int), .inl (i : Int)] M Q := by
  have len := pW_len hW hn
  have ht : lts (pW B n) := pcW_lts hW (cdP hn).2.1
  refine (w_52_94 _ _ _ _ _).mpr ?_
  refine x_spell hW hg hc hp hs hn (fun M1 f1 l1 e1 => ?_)
  have hg1 : xgb B M1 2 := xgb_eq hg (fun c _ _ => f1.1 c (by omega) (by omega) (by omega))
  have hS1 : sOK B M1 := sOK_cong hS (fun i _ _ => by rw [f1.1 16 (by omega) (by omega) (by omega)]) (fun c a b => f1.1 c (by omega) (by omega) (by omega))
  obtain ⟨q1, q0⟩ := hQ M1 f1 l1 e1
  generalize pW B n = l at *
  refine am_x_le [some (.inr (.inr 94)), none, some (.inl ((i : Int))), none, none, none, none, none] (am_lb_le _ _ ⟨rfl, rfl, trivial⟩) ?_
  refine (g_52_8_94_s92 _ _ _ _).mpr ?_
  refine am_x_le [some (.inr (.inr 94)), none, none, some (.inr (.inr 92)), some (.inl ((i : Int))), some (.inl (((0 : Nat) : Int))), none, none] (am_lb_le _ _ ⟨rfl, rfl, rfl, rfl, trivial⟩) ?_
  have key := p_for (S := Int) (X := fun j x => am_x am_P am_gg (d + 4) am_k52 1 Q 15 [some (.inr (.inr 94)), none, none, some (.inr (.inr 92)), some (.inl (x)), some (.inl (j)), none, none] [] M1 0 0) l.length (fun p x => ∃ y : Nat, x = (y : Int) ∧ y + cnt (dc (wrq B l)) (16 * p) = i) ?_ ?_ 0 (i : Int) (by omega) ⟨i, rfl, rfl⟩
  · exact key
  · intro x ⟨y, ex, ey⟩
    refine (g_52_15_94_92 _ _ _ _ _).mpr ?_
    rw [l1.1]
    rw [if_neg (by omega)]
    exact q0 (by omega)
  · intro p x hpl ⟨y, ex, ey⟩ k
    have cl := cnt_le (p := dc (wrq B l)) (16 * p)
    have cl2 := cnt_le (p := dc (wrg B l p)) 32
    refine (g_52_15_94_92 _ _ _ _ _).mpr ?_
    rw [l1.1, ex]
    rw [if_pos (by omega)]
    refine x_spoilers hg1 hW hS1 l1 ht len hpl (fun v bv => ?_)
    refine x_bitsP bv ?_
    refine @p_if _ _ _ _ ?_ ?_
    · intro lt
      refine x_bitAt bv (a := y) (by omega) (fun t t31 t1 et => ?_)
      have t16 := gUL_lt hW t1.1.1
      rw [w32_i (x := (p : Int) * 16) (by omega) (by omega), w32_i (by omega) (by omega), show (p : Int) * 16 + (t : Int) = ((16 * p + t : Nat) : Int) by omega]
      refine q1 _ (by omega) ?_ (by rw [wrq_part (by omega)]; omega)
      unfold wrq
      rw [show (16 * p + t) / 16 = p by omega, show (16 * p + t) % 16 = t by omega]
      exact t1
    · intro ge
      rw [w32_s (i := p) (by omega)]
      refine am_x_le [some (.inr (.inr 94)), none, none, some (.inr (.inr 92)), some (.inl ((w32 ((y : Int) - ((cnt (dc (wrg B l p)) 32 : Nat) : Int))))), some (.inl (((p + 1 : Nat) : Int))), none, none] (am_lb_le _ _ ⟨rfl, rfl, rfl, rfl, trivial⟩) ?_
      refine k _ ⟨y - cnt (dc (wrg B l p)) 32, by rw [w32_i (by omega) (by omega)]; omega, ?_⟩
      rw [cnt_16, wrq_row, ← w16 p (fun a z => gUL_lt hW z.1.1)]
      omega
end S9g
