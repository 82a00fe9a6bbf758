/-! the reference makes a text shorter -/
def tx0 (B x : Nat → Nat) (N : Nat) (M : (Nat → Int → Int)) : Prop := rb (M 174) 0 B ∧ M 173 42 = (N : Int) ∧ N ≤ 16 ∧ ∀ j : Nat, j < N → M 195 (j : Int) = (x j : Int) ∧ x j < 16
section Sd6
variable {s s' : sS} {B B' x : Nat → Nat} {k k' d n N ρ l f : Nat} {M M' M0 : (Nat → Int → Int)} {Q : Int → (Nat → Int → Int) → Prop}
theorem wI_0 (h : wI B x N M) : tx0 B x N M := ⟨h.1, h.2.1, h.2.2.1, h.2.2.2.1⟩
/-- the reference finds the own tree of its text -/
theorem rj_order' (h : rJ s M) {x : Nat → Nat} {N : Nat} (hN : 1 ≤ N) (hw : wI s.B x N M) (hp : 0 < wT s.B x (s.B 2) 0 N) (hQ : ∀ M', rJ s M' → loF M M' → wI s.B x N M' → oI M' (nds (yT s.B x (s.B 2) 0 N).1) → M' 198 = M 198 → Q 0 M') : am_s am_P am_gg (d + 1001) 343 [.inr (.inr 174)] M Q := by
  have hW := rJ_W h
  have hN16 := hw.2.2.1
  have hl := yT_len hW (by omega) hN hp
  refine (v_343_174 _ _ _).mpr ?_
  rw [show M 174 2 = (s.B 2 : Int) from (rb_of h).at (k := 2) (by omega), hw.2.1]
  have hw' : wI s.B x N (am_up M 173 44 0) := by
    obtain ⟨y1, y2, y3, y4, y5⟩ := hw
    exact ⟨by rw [up_nc _ _ _ _ (by decide)]; exact y1, by rw [up_ni _ _ _ _ (by decide)]; exact y2, y3, by rw [up_nc _ _ _ _ (by decide)]; exact y4, by rw [up_nc _ _ _ _ (by decide)]; exact y5⟩
  have q := pTO_mono (d' := d + 1000) (m_parse (x := x) (N := N) (s := s.B 2) (a := 0) (n := N) hW hN16 hW.2.2.1 (by omega) hp) (by omega) (am_up M 173 44 0) (fun r1 M1 => Q 0 M1) [] hw' ⟨up_eq _ _ _ _, fun j hj => absurd hj (Nat.not_lt_zero j)⟩ (by show 0 + _ ≤ _; omega) (fun M1 g1 g2 g3 => ?_)
  · rw [Nat.zero_add] at q; exact q
  · have fr : ∀ c, c ≠ 173 → c ≠ 196 → c ≠ 197 → M1 c = M c := fun c a1 a2 a3 => by rw [g3.1 c a1 a2 a3, up_nc _ _ _ _ a1]
    have fi : ∀ i : Int, i ≠ 44 → M1 173 i = M 173 i := fun i hi => by rw [g3.2 i hi, up_ni _ _ _ _ hi]
    exact hQ M1 (rJ_gen h (fun c a1 a2 a3 => fr c a2 (by omega) (by omega)) (fun i _ _ _ a4 => fi i a4) (fun t => tI_M t (by rw [fr 174 (by decide) (by decide) (by decide)]; exact t.1) (fr 193 (by decide) (by decide) (by decide)) (fr 194 (by decide) (by decide) (by decide)))) (fun c hc => fr c (by omega) (by omega) (by omega)) g1 g2 (fr 198 (by decide) (by decide) (by decide))
theorem rj_isShow (h : rJ s M) (hN : 1 ≤ N) (hw : wI s.B x N M) (h1 : shw s.B x N ρ → ∀ M', rJ s M' → loF M M' → wI s.B x N M' → M' 198 = M 198 → Q 1 M') (h0 : ¬ shw s.B x N ρ → ∀ M', rJ s M' → loF M M' → wI s.B x N M' → M' 198 = M 198 → Q 0 M') : am_s am_P am_gg (d + 1100) 346 [.inr (.inr 174), .inl (ρ : Int)] M Q := by
  have hW := rJ_W h
  have hN16 := hw.2.2.1
  refine (v_346_174 _ _ _ _).mpr (rj_isSent (d := d + 299) h hN hw (fun hp M1 h1' f1 w1 => ?_) (fun hz M1 h1' f1 w1 => ?_))
  · rw [if_neg (by decide)]
    have hl := yT_len hW (by omega) hN hp
    have elen : (nds (yT s.B x (s.B 2) 0 N).1).length = (yT s.B x (s.B 2) 0 N).1.length := by unfold nds; rw [List.length_map]
    refine rj_order' (d := d + 98) h1' hN w1 hp (fun M2 h2 f2 w2 o2 e2 => ?_)
    have hlo : loF M M2 := loF_tr (fun c hc => f1 c (by omega)) f2
    have e198 : M2 198 = M 198 := by rw [e2, f1 198 (by decide)]
    refine p_for (S := Unit) (X := fun b _ => am_x am_P am_gg (d + 1099) am_k346 4 Q 15 [some (.inr (.inr 174)), some (.inl ((ρ : Int))), some (.inl (b))] [] M2 0 0) (nds (yT s.B x (s.B 2) 0 N).1).length (fun b _ => ∀ j, j < b → (nds (yT s.B x (s.B 2) 0 N).1).getD j 0 ≠ ρ) ?_ ?_ 0 () (by omega) (fun j hj => absurd hj (Nat.not_lt_zero j))
    · intro _ hI
      refine (h_346_15_174 _ _ _ _ _).mpr ?_
      rw [o2.1, if_neg (by omega)]
      refine h0 (fun z => ?_) M2 h2 hlo w2 e198
      obtain ⟨i, hi, e⟩ := List.getElem_of_mem z.2
      exact hI i hi (by rw [List.getD_eq_getElem?_getD, List.getElem?_eq_getElem hi]; exact e)
    · intro b _ hb hI go
      refine (h_346_15_174 _ _ _ _ _).mpr ?_
      rw [o2.1, if_pos (by omega), if_pos (by omega), o2.2 b hb]
      refine @p_if _ _ _ _ ?_ ?_
      · intro e
        refine h1 ⟨hp, ?_⟩ M2 h2 hlo w2 e198
        have e : (nds (yT s.B x (s.B 2) 0 N).1).getD b 0 = ρ := by omega
        rw [← e, List.getD_eq_getElem?_getD, List.getElem?_eq_getElem hb]
        exact List.getElem_mem hb
      · intro e
        rw [w32_s (by omega)]
        refine go () (fun j hj => ?_)
        by_cases q : j = b
        · subst q; omega
        · exact hI j (by omega)
  · rw [if_pos rfl]
    exact h0 (fun z => by have := z.1; omega) M1 h1' (fun c hc => f1 c (by omega)) w1 (f1 198 (by decide))
/-- the text without a part -/
theorem rj_without (h : rJ s M) (hx : tx0 s.B x N M) (hl : 1 ≤ l) (hlN : l < N) (hf : f + l ≤ N) (h1 : goC s.B x N ρ l f → ∀ M', rJ s M' → loF M M' → tx0 s.B (cutx x f l) (N - l) M' → Q 1 M') (h0 : ¬ goC s.B x N ρ l f → ∀ M', rJ s M' → loF M M' → tx0 s.B x N M' → Q 0 M') : am_s am_P am_gg (d + 1110) 347 [.inr (.inr 174), .inl (f : Int), .inl (l : Int), .inl (ρ : Int)] M Q := by
  obtain ⟨x1, x2, x3, x4⟩ := hx
  refine (v_347_174 _ _ _ _ _ _).mpr ?_
  rw [x2]
  refine p_for (S := (Nat → Int → Int)) (X := fun b M => am_x am_P am_gg (d + 1109) am_k347 4 Q 9 [some (.inr (.inr 174)), some (.inl ((f : Int))), some (.inl ((l : Int))), some (.inl ((ρ : Int))), some (.inl ((N : Int))), some (.inl (b))] [] M 0 0) N (fun b M1 => (∀ c, c ≠ 198 → M1 c = M c) ∧ ∀ j : Nat, j < b → M1 198 (j : Int) = (x j : Int)) ?_ ?_ 0 M (by omega) ⟨fun _ _ => rfl, fun j hj => absurd hj (Nat.not_lt_zero j)⟩
  · rintro M1 ⟨a1, a2⟩
    refine (h_347_9_174 _ _ _ _ _ _ _ _).mpr ?_
    rw [if_neg (by omega), show w32 ((f : Int) + (l : Int)) = ((f + l : Nat) : Int) by rw [w32_i (by omega) (by omega)]; omega]
    refine am_x_le [some (.inr (.inr 174)), none, some (.inl ((l : Int))), some (.inl ((ρ : Int))), some (.inl ((N : Int))), some (.inl (((f + l : Nat) : Int)))] (am_lb_le _ _ ⟨rfl, rfl, rfl, rfl, rfl, trivial⟩) ?_
    refine p_for (S := (Nat → Int → Int)) (X := fun b M => am_x am_P am_gg (d + 1109) am_k347 4 Q 41 [some (.inr (.inr 174)), none, some (.inl ((l : Int))), some (.inl ((ρ : Int))), some (.inl ((N : Int))), some (.inl (b))] [] M 0 0) N (fun b M2 => f + l ≤ b ∧ (∀ c, c ≠ 195 → M2 c = M1 c) ∧ ∀ j : Nat, j < N → M2 195 (j : Int) = if f ≤ j ∧ j < b - l then (x (j + l) : Int) else (x j : Int)) ?_ ?_ (f + l) M1 hf ⟨Nat.le_refl _, fun _ _ => rfl, fun j hj => by rw [if_neg (by omega), a1 195 (by decide)]; exact (x4 j hj).1⟩
    · rintro M2 ⟨_, b1, b2⟩
      refine (h_347_41_174 _ _ _ _ _ _ _).mpr ?_
      rw [if_neg (by omega), show w32 ((N : Int) - (l : Int)) = ((N - l : Nat) : Int) by rw [w32_i (by omega) (by omega)]; omega]
      refine m_forgetsW (fun M3 c1 c2 => ?_)
      have fr : ∀ c, c ≠ 173 → c ≠ 195 → c ≠ 196 → c ≠ 198 → M3 c = M c := fun c e1 e2 e3 e4 => by rw [c1 c e3, up_nc _ _ _ _ e1, b1 c e2]; exact a1 c e4
      have fi : ∀ i : Int, i ≠ 42 → M3 173 i = M 173 i := fun i hi => by rw [c1 173 (by decide), up_ni _ _ _ _ hi, b1 173 (by decide), a1 173 (by decide)]
      have h3 : rJ s M3 := rJ_gen h (fun c e1 e2 e3 => fr c e2 (by omega) (by omega) (by omega)) (fun i _ _ e3 _ => fi i e3) (fun t => tI_M t (by rw [fr 174 (by decide) (by decide) (by decide) (by decide)]; exact t.1) (fr 193 (by decide) (by decide) (by decide) (by decide)) (fr 194 (by decide) (by decide) (by decide) (by decide)))
      have w3 : wI s.B (cutx x f l) (N - l) M3 := by
        refine wI_new (rb_of h3) (by rw [c1 173 (by decide), up_eq]) (by omega) (fun j hj => ?_) c2
        rw [c1 195 (by decide), up_nc _ _ _ _ (by decide), b2 j (by omega)]
        unfold cutx
        by_cases q : j < f
        · rw [if_neg (by omega), if_pos q]; exact ⟨rfl, (x4 j (by omega)).2⟩
        · rw [if_pos (by omega), if_neg q]; exact ⟨rfl, (x4 (j + l) (by omega)).2⟩
      have lo3 : loF M M3 := fun c hc => fr c (by omega) (by omega) (by omega) (by omega)
      refine rj_isShow (d := d + 9) h3 (by omega) w3 (fun hs M4 h4 f4 w4 e4 => ?_) (fun hs M4 h4 f4 w4 e4 => ?_)
      · rw [if_neg (by decide)]
        exact h1 ⟨hl, hlN, hf, hs⟩ M4 h4 (loF_tr lo3 f4) (wI_0 w4)
      · rw [if_pos rfl]
        have e198 : ∀ j : Nat, j < N → M4 198 (j : Int) = (x j : Int) := fun j hj => by rw [e4, c1 198 (by decide), up_nc _ _ _ _ (by decide), b1 198 (by decide)]; exact a2 j hj
        refine am_x_le [some (.inr (.inr 174)), none, none, none, some (.inl ((N : Int))), some (.inl (((0 : Nat) : Int)))] (am_lb_le _ _ ⟨rfl, rfl, rfl, trivial⟩) ?_
        refine p_for (S := (Nat → Int → Int)) (X := fun b M => am_x am_P am_gg (d + 1109) am_k347 4 Q 95 [some (.inr (.inr 174)), none, none, none, some (.inl ((N : Int))), some (.inl (b))] [] M 0 0) N (fun b M5 => (∀ c, c ≠ 195 → M5 c = M4 c) ∧ ∀ j : Nat, j < b → M5 195 (j : Int) = (x j : Int)) ?_ ?_ 0 M4 (by omega) ⟨fun _ _ => rfl, fun j hj => absurd hj (Nat.not_lt_zero j)⟩
        · rintro M5 ⟨g1, g2⟩
          refine (h_347_95_174 _ _ _ _ _).mpr ?_
          rw [if_neg (by omega)]
          have h5 : rJ s (am_up M5 173 42 (N : Int)) := rJ_gen h4 (fun c e1 e2 e3 => by rw [up_nc _ _ _ _ e2]; exact g1 c (by omega)) (fun i _ _ e3 _ => by rw [up_ni _ _ _ _ e3, g1 173 (by decide)]) (fun t => tI_M t (by rw [up_nc _ _ _ _ (by decide), g1 174 (by decide)]; exact t.1) (by rw [up_nc _ _ _ _ (by decide), g1 193 (by decide)]) (by rw [up_nc _ _ _ _ (by decide), g1 194 (by decide)]))
          exact h0 (fun z => hs z.2.2.2) _ h5 (loF_tr lo3 (loF_tr f4 (fun c hc => by rw [up_nc _ _ _ _ (by omega)]; exact g1 c (by omega)))) ⟨rb_of h5, up_eq _ _ _ _, x3, fun j hj => by rw [up_nc _ _ _ _ (by decide)]; exact ⟨g2 j hj, (x4 j hj).2⟩⟩
        · rintro b M5 hb ⟨g1, g2⟩ go
          refine (h_347_95_174 _ _ _ _ _).mpr ?_
          rw [if_pos (by omega), if_pos (by omega), if_pos (by omega), g1 198 (by decide), e198 b hb, w32_s (by omega)]
          refine go _ ⟨fun c hc => by rw [up_nc _ _ _ _ hc]; exact g1 c hc, fun j hj => ?_⟩
          rw [up_ci]
          by_cases q : j = b
          · rw [if_pos (by omega), q]
          · rw [if_neg (by omega)]; exact g2 j (by omega)
    · rintro b M2 hb ⟨b0, b1, b2⟩ go
      refine (h_347_41_174 _ _ _ _ _ _ _).mpr ?_
      rw [if_pos (by omega), if_pos (by omega), show w32 ((b : Int) - (l : Int)) = ((b - l : Nat) : Int) by rw [w32_i (by omega) (by omega)]; omega, if_pos (by omega), b2 b hb, if_neg (by omega), w32_s (by omega)]
      refine go _ ⟨by omega, fun c hc => by rw [up_nc _ _ _ _ hc]; exact b1 c hc, fun j hj => ?_⟩
      rw [up_ci, b2 j hj]
      by_cases q : j = b - l
      · rw [if_pos (by omega), if_pos (by omega), q, show b - l + l = b by omega]
      · rw [if_neg (by omega)]
        by_cases q2 : f ≤ j ∧ j < b - l
        · rw [if_pos q2, if_pos (by omega)]
        · rw [if_neg q2, if_neg (by omega)]
  · rintro b M1 hb ⟨a1, a2⟩ go
    refine (h_347_9_174 _ _ _ _ _ _ _ _).mpr ?_
    rw [if_pos (by omega), if_pos (by omega), if_pos (by omega), a1 195 (by decide), (x4 b hb).1, w32_s (by omega)]
    refine go _ ⟨fun c hc => by rw [up_nc _ _ _ _ hc]; exact a1 c hc, fun j hj => ?_⟩
    rw [up_ci]
    by_cases q : j = b
    · rw [if_pos (by omega), q]
    · rw [if_neg (by omega)]; exact a2 j (by omega)
end Sd6
