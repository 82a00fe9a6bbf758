/-! the reference settles YIELDS, the cheapest first -/
/-- what is settled; the latest had weight F -/
def dI (B pos K : Nat → Nat) (F : Nat) : Prop := ybd pos K ∧ (∀ s, s < 8 → K s ≠ NK → ∃ r, yOK B K r ∧ gsy B r = s ∧ K s = ky B K r) ∧ (∀ r, yOK B K r → K (gsy B r) ≠ NK → K (gsy B r) ≤ ky B K r) ∧ (∀ r, yOK B K r → K (gsy B r) = NK → F ≤ ky B K r / 16) ∧ ∀ s, s < 8 → K s ≠ NK → K s / 16 ≤ F
section S70
variable {B K pos : Nat → Nat} {F : Nat}
theorem dI_0 : dI B pos (fun _ => NK) 0 := ⟨fun s _ h => absurd rfl h, fun s _ h => absurd rfl h, fun r _ h => absurd rfl h, fun r _ _ => Nat.zero_le _, fun s _ h => absurd rfl h⟩
theorem dI_end (h : dI B pos K F) (hn : ∀ r, yOK B K r → K (gsy B r) ≠ NK) : ySol B pos K := ⟨h.1, h.2.1, fun r q => h.2.2.1 r q (hn r q)⟩
theorem dI_step (hW : gW B) (hp : ypos B pos) (h : dI B pos K F) {r0 : Nat} (ok0 : yOK B K r0) (hN0 : K (gsy B r0) = NK) (hmin : ∀ r, yOK B K r → K (gsy B r) = NK → ky B K r0 ≤ ky B K r) : dI B pos (gU K (gsy B r0) (ky B K r0)) (ky B K r0 / 16) := by
  obtain ⟨hb, ha, hc, hf, hx⟩ := h
  obtain ⟨b16, bm⟩ := yOK_b hW hp hb ok0
  obtain ⟨d1, d2, d3⟩ := ky_dec b16 bm
  have dl := ky_lt b16 bm ok0.2.2.2
  have hNK := NK_eq
  have hs0 := (hW.2.2.2.1 r0 ok0.1).1
  generalize hs : gsy B r0 = s0 at *
  generalize hv : ky B K r0 = v at *
  have hF : F ≤ v / 16 := by have := hf r0 ok0 (by rw [hs]; exact hN0); rw [hv] at this; exact this
  -- the same row, if the new symbol isn't in it
  have same : ∀ r, (∀ i, i < gsz B r → gsg B r i < 8 → gsg B r i ≠ s0) → rc B (gU K s0 v) r = rc B K r ∧ rm B (gU K s0 v) r = rm B K r := fun r q => row_congr (fun i hi h8 => gU_ne (q i hi h8))
  have notin : ∀ r, avb B K r (-1) → ∀ i, i < gsz B r → gsg B r i < 8 → gsg B r i ≠ s0 := fun r q i hi h8 e => q i hi (by omega) h8 (by rw [e]; exact hN0)
  have key' : ∀ r, (∀ i, i < gsz B r → gsg B r i < 8 → gsg B r i ≠ s0) → ky B (gU K s0 v) r = ky B K r := fun r q => by unfold ky; rw [(same r q).1, (same r q).2]
  have ok' : ∀ r, (∀ i, i < gsz B r → gsg B r i < 8 → gsg B r i ≠ s0) → (yOK B (gU K s0 v) r ↔ yOK B K r) := by
    intro r q
    unfold yOK
    rw [(same r q).1]
    refine and_congr Iff.rfl (and_congr Iff.rfl (and_congr ?_ Iff.rfl))
    constructor
    · intro z i hi hb h8; have := z i hi hb h8; rwa [gU_ne (q i hi h8)] at this
    · intro z i hi hb h8; rw [gU_ne (q i hi h8)]; exact z i hi hb h8
  have big : ∀ r, (∃ i, i < gsz B r ∧ gsg B r i < 8 ∧ gsg B r i = s0) → v / 16 + 1 ≤ ky B (gU K s0 v) r / 16 := by
    intro r ⟨i, hi, h8, e⟩
    have := rq_comp (K := gU K s0 v) hi h8
    rw [e, gU_eq] at this
    unfold ky
    omega
  have cases2 : ∀ r, (∀ i, i < gsz B r → gsg B r i < 8 → gsg B r i ≠ s0) ∨ (∃ i, i < gsz B r ∧ gsg B r i < 8 ∧ gsg B r i = s0) := by
    intro r
    by_cases q : ∃ i, i < gsz B r ∧ gsg B r i < 8 ∧ gsg B r i = s0
    · exact Or.inr q
    · exact Or.inl (fun i a b e => q ⟨i, a, b, e⟩)
  have mx' : ∀ s, s < 8 → gU K s0 v s ≠ NK → gU K s0 v s / 16 ≤ v / 16 := by
    intro s hs8 q
    by_cases e : s = s0
    · subst e; rw [gU_eq]; exact Nat.le_refl _
    · rw [gU_ne e] at q ⊢; have := hx s hs8 q; omega
  refine ⟨?_, ?_, ?_, ?_, mx'⟩
  · intro s hs8 q
    by_cases e : s = s0
    · subst e
      rw [gU_eq, d1, d2]
      have := yb_row hW hp hb ok0.1 ok0.2.2.1
      rw [hs] at this
      exact ⟨this.1, ok0.2.2.2, this.2⟩
    · rw [gU_ne e] at q ⊢; exact hb s hs8 q
  · intro s hs8 q
    by_cases e : s = s0
    · subst e
      have ni := notin r0 ok0.2.2.1
      exact ⟨r0, (ok' r0 ni).mpr ok0, hs, by rw [gU_eq, key' r0 ni, hv]⟩
    · rw [gU_ne e] at q ⊢
      obtain ⟨r, o, sy, k⟩ := ha s hs8 q
      have ni := notin r o.2.2.1
      exact ⟨r, (ok' r ni).mpr o, sy, by rw [key' r ni]; exact k⟩
  · intro r o q
    have hr8 := (hW.2.2.2.1 r o.1).1
    rcases cases2 r with ni | bi
    · have o' := (ok' r ni).mp o
      rw [key' r ni]
      by_cases e : gsy B r = s0
      · rw [e, gU_eq]; exact hmin r o' (by rw [e]; exact hN0)
      · rw [gU_ne e] at q ⊢; exact hc r o' q
    · have := big r bi
      have := mx' _ hr8 q
      omega
  · intro r o q
    rcases cases2 r with ni | bi
    · have o' := (ok' r ni).mp o
      rw [key' r ni]
      have e : gsy B r ≠ s0 := fun e => by rw [e, gU_eq] at q; omega
      rw [gU_ne e] at q
      have := hmin r o' q
      omega
    · have := big r bi; omega
end S70
section S70b
variable {B K pos : Nat → Nat} {M : (Nat → Int → Int)} {d : Nat} {Q : Int → (Nat → Int → Int) → Prop} {r : Nat}
/-- the best rule of those below e -/
def dB (B K : Nat → Nat) (e : Nat) (a b c : Int) : Prop := (a = -1 ∧ b = 201 ∧ c = 0 ∧ ∀ r, r < e → yOK B K r → K (gsy B r) ≠ NK) ∨ ∃ r0, r0 < e ∧ a = (r0 : Int) ∧ yOK B K r0 ∧ K (gsy B r0) = NK ∧ b = (rc B K r0 : Int) ∧ c = (rm B K r0 : Int) ∧ ∀ r, r < e → yOK B K r → K (gsy B r) = NK → ky B K r0 ≤ ky B K r
theorem dB_skip {e : Nat} {a b c : Int} (h : dB B K e a b c) (hs : ¬ (yOK B K e ∧ K (gsy B e) = NK)) : dB B K (e + 1) a b c := by
  rcases h with ⟨h1, h2, h3, h4⟩ | ⟨r0, h1, h2, h3, h4, h5, h6, h7⟩
  · refine Or.inl ⟨h1, h2, h3, fun r hr o => ?_⟩
    by_cases q : r = e
    · subst q; exact fun z => hs ⟨o, z⟩
    · exact h4 r (by omega) o
  · refine Or.inr ⟨r0, by omega, h2, h3, h4, h5, h6, fun r hr o z => ?_⟩
    by_cases q : r = e
    · subst q; exact absurd ⟨o, z⟩ hs
    · exact h7 r (by omega) o z
theorem dB_take {e : Nat} {a b c : Int} (h : dB B K e a b c) (ok : yOK B K e) (hN : K (gsy B e) = NK) (hk : ∀ r0, r0 < e → yOK B K r0 → a = (r0 : Int) → b = (rc B K r0 : Int) → c = (rm B K r0 : Int) → ky B K e ≤ ky B K r0) : dB B K (e + 1) (e : Int) (rc B K e : Int) (rm B K e : Int) := by
  refine Or.inr ⟨e, by omega, rfl, ok, hN, rfl, rfl, fun r hr o z => ?_⟩
  by_cases q : r = e
  · subst q; exact Nat.le_refl _
  · rcases h with ⟨h1, h2, h3, h4⟩ | ⟨r0, h1, h2, h3, h4, h5, h6, h7⟩
    · exact absurd z (h4 r (by omega) o)
    · exact Nat.le_trans (hk r0 h1 h3 h2 h5 h6) (h7 r (by omega) o z)
theorem dB_keep {e : Nat} {a b c : Int} (h : dB B K e a b c) (hk : yOK B K e → K (gsy B e) = NK → a ≠ -1 ∧ ∀ r0, r0 < e → yOK B K r0 → a = (r0 : Int) → b = (rc B K r0 : Int) → c = (rm B K r0 : Int) → ky B K r0 ≤ ky B K e) : dB B K (e + 1) a b c := by
  rcases h with ⟨h1, h2, h3, h4⟩ | ⟨r0, h1, h2, h3, h4, h5, h6, h7⟩
  · refine Or.inl ⟨h1, h2, h3, fun r hr o z => ?_⟩
    by_cases q : r = e
    · subst q; exact (hk o z).1 h1
    · exact h4 r (by omega) o z
  · refine Or.inr ⟨r0, by omega, h2, h3, h4, h5, h6, fun r hr o z => ?_⟩
    by_cases q : r = e
    · subst q; exact (hk o z).2 r0 h1 h3 h2 h5 h6
    · exact h7 r (by omega) o z
theorem yR_eq {M M' : (Nat → Int → Int)} (h : yR K M) (e1 : M' 179 = M 179) (e2 : M' 180 = M 180) (e3 : M' 181 = M 181) : yR K M' := by
  intro s hs; rw [e1, e2, e3]; exact h s hs
theorem yR_neg (h : yR K M) {s : Nat} (hs : s < 8) : M 179 (s : Int) < 0 ↔ K s = NK := by
  have := NK_eq
  rcases h s hs with ⟨a, b⟩ | ⟨a, b, c, e⟩
  · rw [b]; exact ⟨fun _ => a, fun _ => by omega⟩
  · rw [b]; exact ⟨fun z => by omega, fun z => by omega⟩
theorem ly_pass (hW : gW B) (hp : ypos B pos) {M0 : (Nat → Int → Int)} (hB0 : rb (M0 174) 0 B) (hy0 : yR K M0) (hb : ybd pos K) (hk0 : ∀ M', fr3 26 27 M0 M' → (∀ r, yOK B K r → K (gsy B r) ≠ NK) → Q 0 M') (hk1 : ∀ M' r0, fr3 26 27 M0 M' → r0 < B 0 → yOK B K r0 → K (gsy B r0) = NK → (∀ r, yOK B K r → K (gsy B r) = NK → ky B K r0 ≤ ky B K r) → am_x am_P am_gg (d + 2) am_k265 0 Q 23 [some (.inr (.inr 174)), some (.inl (1)), none, none, none, none] [] (am_up (am_up (am_up M' 179 (gsy B r0 : Int) (rc B K r0 : Int)) 180 (gsy B r0 : Int) (rm B K r0 : Int)) 181 (gsy B r0 : Int) (r0 : Int)) 0 0) : am_x am_P am_gg (d + 2) am_k265 0 Q 39 [some (.inr (.inr 174)), none, some (.inl ((-1))), some (.inl (201)), some (.inl (0)), some (.inl (((0 : Nat) : Int)))] [] M0 0 0 := by
  have hn := hW.1
  refine p_for (S := Int × Int × Int × (Nat → Int → Int)) (X := fun i x => am_x am_P am_gg (d + 2) am_k265 0 Q 39 [some (.inr (.inr 174)), none, some (.inl (x.1)), some (.inl (x.2.1)), some (.inl (x.2.2.1)), some (.inl (i))] [] x.2.2.2 0 0) (B 0) (fun e x => fr3 26 27 M0 x.2.2.2 ∧ dB B K e x.1 x.2.1 x.2.2.1) ?_ ?_ 0 (-1, 201, 0, M0) (by omega) ⟨fr3_rf, Or.inl ⟨rfl, rfl, rfl, fun r hr => absurd hr (Nat.not_lt_zero r)⟩⟩
  · intro x ⟨f, hd⟩
    obtain ⟨a, b, c, M1⟩ := x
    dsimp only at f hd ⊢
    have hB : rb (M1 174) 0 B := by rw [f.1 174 (by decide)]; exact hB0
    refine (h_265_39_174 _ _ _ _ _ _ _).mpr (m_rules hB ?_)
    rw [if_neg (by omega)]
    rcases hd with ⟨h1, h2, h3, h4⟩ | ⟨r0, h1, h2, h3, h4, h5, h6, h7⟩
    · rw [if_pos (by omega)]
      exact hk0 M1 f (fun r o => h4 r o.1 o)
    · rw [if_neg (by omega)]
      subst h2; subst h5; subst h6
      have hsy := (hW.2.2.2.1 r0 h1).1
      refine m_sym hB (by omega) ?_
      rw [if_pos (by omega)]
      rw [if_pos (by omega)]
      rw [if_pos (by omega)]
      refine am_x_le [some (.inr (.inr 174)), some (.inl (1)), none, none, none, none] (am_lb_le _ _ ⟨rfl, rfl, trivial⟩) ?_
      exact hk1 M1 r0 f h1 h3 h4 (fun r o => h7 r o.1 o)
  · intro e x he ⟨f, hd⟩ k
    obtain ⟨a, b, c, M1⟩ := x
    dsimp only at f hd ⊢
    have hB : rb (M1 174) 0 B := by rw [f.1 174 (by decide)]; exact hB0
    have hy : yR K M1 := yR_eq hy0 (f.1 179 (by decide)) (f.1 180 (by decide)) (f.1 181 (by decide))
    have hsy := (hW.2.2.2.1 e he).1
    have nx : ∀ M2 (a b c : Int), fr3 26 27 M0 M2 → dB B K (e + 1) a b c → am_x am_P am_gg (d + 2) am_k265 0 Q 39 [some (.inr (.inr 174)), none, some (.inl (a)), some (.inl (b)), some (.inl (c)), some (.inl (((e + 1 : Nat) : Int)))] [] M2 0 0 := fun M2 a b c f2 h2 => k (a, b, c, M2) ⟨f2, h2⟩
    refine (h_265_39_174 _ _ _ _ _ _ _).mpr (m_rules hB ?_)
    rw [w32_s (by omega)]
    rw [if_pos (by omega)]
    refine m_isOn hB hW.on (by omega) ?_ ?_
    · intro ho
      rw [if_neg (by omega)]
      refine m_sym hB (by omega) ?_
      rw [if_pos (by omega)]
      refine @p_if _ _ _ _ ?_ ?_
      · intro hneg
        have hN := (yR_neg hy hsy).mp hneg
        refine m_sums hW hB hy he ?_ ?_
        · intro M2 f2 hav
          rw [if_pos (by omega)]
          exact nx _ _ _ _ (fr3_tr f f2) (dB_skip hd (fun z => hav z.1.2.2.1))
        · intro M2 f2 hav e26 e27
          rw [if_neg (by omega)]
          rw [e26, e27]
          have yb := yb_row hW hp hb he hav
          have hp1 := hp.1 (gsy B e)
          have hrc : rcb B K e (-1) = rc B K e := rfl
          have hrm : rmb B K e (-1) = rm B K e := rfl
          rw [hrc, hrm]
          have f' := fr3_tr f f2
          have bnd : ∀ r0, yOK B K r0 → rm B K r0 < 4096 := fun r0 o => (yOK_b hW hp hb o).2
          refine @p_if _ _ _ _ ?_ ?_
          · intro q
            refine nx _ _ _ _ f' (dB_keep hd (fun o z => ?_))
            have o4 := o.2.2.2
            refine ⟨fun ea => ?_, fun r0 h0 o0 ea eb ec => ?_⟩
            · rcases hd with ⟨h1, h2, h3, h4⟩ | ⟨r0, h1, h2, h3, h4, h5, h6, h7⟩
              · omega
              · omega
            · have := bnd r0 o0; unfold ky; omega
          · intro q
            refine @p_if _ _ _ _ ?_ ?_
            · intro q2
              refine @p_if _ _ _ _ ?_ ?_
              · intro q3
                refine nx _ _ _ _ f' (dB_skip hd (fun z => ?_))
                have o4 := z.1.2.2.2
                rcases hd with ⟨h1, h2, h3, h4⟩ | ⟨r0, h1, h2, h3, h4, h5, h6, h7⟩
                · omega
                · omega
              · intro q3
                have hle : rc B K e ≤ 200 := by
                  rcases hd with ⟨h1, h2, h3, h4⟩ | ⟨r0, h1, h2, h3, h4, h5, h6, h7⟩
                  · omega
                  · have := h3.2.2.2; omega
                have ok : yOK B K e := ⟨he, ho, hav, hle⟩
                have be := bnd e ok
                refine @p_if _ _ _ _ ?_ ?_
                · intro q4
                  refine nx _ _ _ _ f' (dB_take hd ok hN (fun r0 h0 o0 ea eb ec => ?_))
                  unfold ky; omega
                · intro q4
                  refine nx _ _ _ _ f' (dB_keep hd (fun o z => ⟨by omega, fun r0 h0 o0 ea eb ec => ?_⟩))
                  unfold ky; omega
            · intro q2
              have hle : rc B K e ≤ 200 := by
                rcases hd with ⟨h1, h2, h3, h4⟩ | ⟨r0, h1, h2, h3, h4, h5, h6, h7⟩
                · omega
                · have := h3.2.2.2; omega
              have ok : yOK B K e := ⟨he, ho, hav, hle⟩
              have be := bnd e ok
              refine nx _ _ _ _ f' (dB_take hd ok hN (fun r0 h0 o0 ea eb ec => ?_))
              unfold ky; omega
      · intro hneg
        exact nx _ _ _ _ f (dB_skip hd (fun z => hneg ((yR_neg hy hsy).mpr z.2)))
    · intro ho
      rw [if_pos (by omega)]
      exact nx _ _ _ _ f (dB_skip hd (fun z => by rw [z.1.2.1] at ho; cases ho))
def yF (M M' : (Nat → Int → Int)) : Prop := (∀ c, c ≠ 173 → c ≠ 179 → c ≠ 180 → c ≠ 181 → M' c = M c) ∧ ∀ i : Int, i < 26 ∨ 27 < i → M' 173 i = M 173 i
theorem m_laysYields (hW : gW B) (hp : ypos B pos) {M0 : (Nat → Int → Int)} (hB0 : rb (M0 174) 0 B) (hQ : ∀ M' K, yF M0 M' → ySol B pos K → (∀ s, s < 8 → K s ≤ NK) → yR K M' → Q 0 M') : am_s am_P am_gg (d + 3) 265 [.inr (.inr 174)] M0 Q := by
  have hNK := NK_eq
  refine (v_265_174 _ _ _).mpr ?_
  refine p_for (S := (Nat → Int → Int)) (X := fun i M => am_x am_P am_gg (d + 2) am_k265 0 Q 2 [some (.inr (.inr 174)), some (.inl (i)), none, none, none, none] [] M 0 0) 8 (fun b M => (∀ c, c ≠ 179 → M c = M0 c) ∧ ∀ s : Nat, s < b → M 179 (s : Int) = -1) ?_ ?_ 0 M0 (by omega) ⟨fun _ _ => rfl, fun s hs => absurd hs (Nat.not_lt_zero s)⟩
  · intro M1 ⟨f1, z⟩
    refine (h_265_2_174 _ _ _ _).mpr ?_
    rw [if_neg (by omega)]
    refine p_whi (S := (Nat → Nat) × (Nat → Int → Int)) (X := fun x => am_x am_P am_gg (d + 2) am_k265 0 Q 23 [some (.inr (.inr 174)), some (.inl (1)), none, none, none, none] [] x.2 0 0) (fun n x => yF M0 x.2 ∧ yR x.1 x.2 ∧ (∀ s, x.1 s ≤ NK) ∧ (∃ F, dI B pos x.1 F) ∧ n = cnt (fun s => decide (x.1 s = NK)) 8) ?_ _ (fun _ => NK, M1) ⟨⟨fun c _ b _ _ => f1 c b, fun i _ => by show M1 173 i = _; rw [f1 173 (by decide)]⟩, fun s hs => Or.inl ⟨rfl, z s hs⟩, fun s => Nat.le_refl _, ⟨0, dI_0⟩, rfl⟩
    intro n x hx k
    obtain ⟨K, M2⟩ := x
    obtain ⟨f2, y2, n2, ⟨F, dd⟩, hm⟩ := hx
    dsimp only at f2 y2 n2 dd hm ⊢
    refine (h_265_23_174 _ _ _ _).mpr ?_
    rw [if_neg (by omega)]
    have hB2 : rb (M2 174) 0 B := by rw [f2.1 174 (by decide) (by decide) (by decide) (by decide)]; exact hB0
    refine am_x_le [some (.inr (.inr 174)), none, some (.inl ((-1))), some (.inl (201)), some (.inl (0)), some (.inl (((0 : Nat) : Int)))] (am_lb_le _ _ ⟨rfl, rfl, rfl, rfl, rfl, trivial⟩) ?_
    have yf : ∀ M', fr3 26 27 M2 M' → yF M0 M' := fun M' g => ⟨fun c a b e f => by rw [g.1 c a]; exact f2.1 c a b e f, fun i hi => by rw [g.2 i hi]; exact f2.2 i hi⟩
    refine ly_pass hW hp hB2 y2 dd.1 (fun M' f' hn => ?_) (fun M' r0 f' hr0 ok hN hmin => ?_)
    · exact hQ M' K (yf M' f') (dI_end dd hn) (fun s _ => n2 s) (yR_eq y2 (f'.1 179 (by decide)) (f'.1 180 (by decide)) (f'.1 181 (by decide)))
    · obtain ⟨b16, bm⟩ := yOK_b hW hp dd.1 ok
      obtain ⟨d1, d2, d3⟩ := ky_dec b16 bm
      have dl := ky_lt b16 bm ok.2.2.2
      have hsy := (hW.2.2.2.1 r0 hr0).1
      refine k _ (gU K (gsy B r0) (ky B K r0), am_up (am_up (am_up M' 179 (gsy B r0 : Int) (rc B K r0 : Int)) 180 (gsy B r0 : Int) (rm B K r0 : Int)) 181 (gsy B r0 : Int) (r0 : Int)) ?_ ⟨?_, ?_, ?_, ⟨_, dI_step hW hp dd ok hN hmin⟩, rfl⟩
      · dsimp only
        rw [hm]
        have := cnt_lt (p := fun s => decide (gU K (gsy B r0) (ky B K r0) s = NK)) (q := fun s => decide (K s = NK)) (n := 8) (t := gsy B r0) (fun j hj z => by
          by_cases e : j = gsy B r0
          · subst e; rw [hN]; simp
          · rw [gU_ne e] at z; exact z) hsy (by simp [hN]) (by rw [gU_eq]; simp; omega)
        omega
      · have g := yf M' f'
        dsimp only
        refine ⟨fun c a b e f => ?_, fun i hi => ?_⟩
        · rw [up_nc _ _ _ _ f, up_nc _ _ _ _ e, up_nc _ _ _ _ b]; exact g.1 c a b e f
        · rw [up_nc _ _ _ _ (by decide), up_nc _ _ _ _ (by decide), up_nc _ _ _ _ (by decide)]; exact g.2 i hi
      · have y3 := yR_eq y2 (f'.1 179 (by decide)) (f'.1 180 (by decide)) (f'.1 181 (by decide))
        intro s hs
        dsimp only
        rw [up_nc _ _ _ _ (show (179 : Nat) ≠ 181 by decide), up_nc _ _ _ _ (show (179 : Nat) ≠ 180 by decide), up_ci, up_nc _ _ _ _ (show (180 : Nat) ≠ 181 by decide), up_ci, up_ci, up_nc _ _ _ _ (show (180 : Nat) ≠ 179 by decide), up_nc _ _ _ _ (show (181 : Nat) ≠ 180 by decide), up_nc _ _ _ _ (show (181 : Nat) ≠ 179 by decide)]
        by_cases e : s = gsy B r0
        · subst e
          rw [if_pos rfl, if_pos rfl, if_pos rfl, gU_eq, d1, d2, d3]
          exact Or.inr ⟨by omega, rfl, rfl, rfl⟩
        · rw [if_neg (by omega), if_neg (by omega), if_neg (by omega), gU_ne e]; exact y3 s hs
      · intro s
        dsimp only
        by_cases e : s = gsy B r0
        · subst e; rw [gU_eq]; omega
        · rw [gU_ne e]; exact n2 s
  · intro i M2 hi ⟨f2, z⟩ k
    refine (h_265_2_174 _ _ _ _).mpr ?_
    rw [if_pos (by omega)]
    rw [if_pos (by omega)]
    rw [w32_s (by omega)]
    refine k _ ⟨fun c hc => by rw [up_nc _ _ _ _ hc]; exact f2 c hc, fun s hs => ?_⟩
    rw [up_ci]
    by_cases q : s = i
    · rw [if_pos (by omega)]
    · rw [if_neg (by omega)]; exact z s (by omega)
end S70b
