/-! the reference settles CONTEXTS -/
/-- the reference's rows of CONTEXTS -/
def xR (B X : Nat → Nat) (M : (Nat → Int → Int)) : Prop := ∀ s : Nat, s < 8 → (X s = NK ∧ M 182 (s : Int) = -1) ∨ (X s < NK ∧ M 182 (s : Int) = ((X s / 262144 : Nat) : Int) ∧ M 183 (s : Int) = ((X s / 64 % 4096 : Nat) : Int) ∧ (s ≠ B 2 → M 184 (s : Int) = ((X s / 4 % 16 : Nat) : Int) ∧ M 185 (s : Int) = ((X s % 4 : Nat) : Int)) ∧ (s = B 2 → M 184 (s : Int) = -1 ∧ M 185 (s : Int) = -1))
section S72
variable {B K X pos : Nat → Nat} {M : (Nat → Int → Int)} {d : Nat} {Q : Int → (Nat → Int → Int) → Prop} {r : Nat}
theorem xR_eq {M M' : (Nat → Int → Int)} (h : xR B X M) (e1 : M' 182 = M 182) (e2 : M' 183 = M 183) (e3 : M' 184 = M 184) (e4 : M' 185 = M 185) : xR B X M' := by
  intro s hs; rw [e1, e2, e3, e4]; exact h s hs
theorem xR_neg (h : xR B X M) {s : Nat} (hs : s < 8) : M 182 (s : Int) < 0 ↔ X s = NK := by
  have := NK_eq
  rcases h s hs with ⟨a, b⟩ | ⟨a, b, c⟩
  · rw [b]; exact ⟨fun _ => a, fun _ => by omega⟩
  · rw [b]; exact ⟨fun z => by omega, fun z => by omega⟩
/-- one row -/
theorem lx_row (hW : gW B) (hp : ypos B pos) {M0 : (Nat → Int → Int)} (hB0 : rb (M0 174) 0 B) (hy0 : yR K M0) (hx0 : xR B X M0) (hb : ybd pos K) (hx : xbd pos X) (h02 : X (B 2) = 0) {f : Nat} (hf : f < B 0) (hk : ∀ M' a b c e, fr3 26 27 M0 M' → xB B K X ((f + 1) * 4) a b c e → am_x am_P am_gg (d + 2) am_k266 0 Q 78 [some (.inr (.inr 174)), none, none, some (.inl (a)), some (.inl (b)), some (.inl (c)), some (.inl (e)), some (.inl (((f + 1 : Nat) : Int))), none, none, none, none] [] M' 0 0) {a b c e : Int} (fM : fr3 26 27 M0 M) (hI : xB B K X (f * 4) a b c e) : am_x am_P am_gg (d + 2) am_k266 0 Q 90 [some (.inr (.inr 174)), none, none, some (.inl (a)), some (.inl (b)), some (.inl (c)), some (.inl (e)), some (.inl ((f : Int))), some (.inl (((0 : Nat) : Int))), none, none, none] [] M 0 0 := by
  have hn := hW.1
  have hNK := NK_eq
  obtain ⟨hsy, hz, hz4, -, hs⟩ := hW.2.2.2.1 f hf
  -- the rest of a row that has nothing
  have out : ∀ (M1 : (Nat → Int → Int)) (a b c e : Int) (i : Nat) (g : Int), fr3 26 27 M0 M1 → xB B K X (f * 4 + i) a b c e → i ≤ 4 → (∀ j, xOK B K X f j → i ≤ j → X (gsg B f j) ≠ NK) → am_x am_P am_gg (d + 2) am_k266 0 Q 78 [some (.inr (.inr 174)), none, none, some (.inl (a)), some (.inl (b)), some (.inl (c)), some (.inl (e)), some (.inl (((f + 1 : Nat) : Int))), some (.inl (g)), none, none, none] [] M1 0 0 := by
    intro M1 a b c e i g f1 h1 hi4 hno
    refine am_x_le [some (.inr (.inr 174)), none, none, some (.inl (a)), some (.inl (b)), some (.inl (c)), some (.inl (e)), some (.inl (((f + 1 : Nat) : Int))), none, none, none, none] (am_lb_le _ _ ⟨rfl, rfl, rfl, rfl, rfl, rfl, trivial⟩) ?_
    refine hk M1 a b c e f1 (xB_skip h1 (by omega) (fun r j h2 h3 o => ?_))
    have z1 := (hW.2.2.2.1 r o.1).2.2.1
    have z2 := o.2.2.1
    have e : r = f := by omega
    subst e
    exact hno j o (by omega)
  refine p_for (S := Int × Int × Int × Int × (Nat → Int → Int)) (X := fun i x => am_x am_P am_gg (d + 2) am_k266 0 Q 90 [some (.inr (.inr 174)), none, none, some (.inl (x.1)), some (.inl (x.2.1)), some (.inl (x.2.2.1)), some (.inl (x.2.2.2.1)), some (.inl ((f : Int))), some (.inl (i)), none, none, none] [] x.2.2.2.2 0 0) (gsz B f) (fun i x => fr3 26 27 M0 x.2.2.2.2 ∧ xB B K X (f * 4 + i) x.1 x.2.1 x.2.2.1 x.2.2.2.1) ?_ ?_ 0 (a, b, c, e, M) (by omega) ⟨fM, hI⟩
  · intro x ⟨f1, hd⟩
    obtain ⟨a, b, c, e, M1⟩ := x
    dsimp only at f1 hd ⊢
    have hB : rb (M1 174) 0 B := by rw [f1.1 174 (by decide)]; exact hB0
    refine (h_266_90_174 _ _ _ _ _ _ _ _ _).mpr (m_size hB (by omega) ?_)
    rw [w32_s (by omega)]
    rw [if_neg (by omega)]
    exact out M1 a b c e _ _ f1 hd (by omega) (fun j o hj => absurd o.2.2.1 (by omega))
  · intro i x hi ⟨f1, hd⟩ k
    obtain ⟨a, b, c, e, M1⟩ := x
    dsimp only at f1 hd ⊢
    have hB : rb (M1 174) 0 B := by rw [f1.1 174 (by decide)]; exact hB0
    have hy : yR K M1 := yR_eq hy0 (f1.1 179 (by decide)) (f1.1 180 (by decide)) (f1.1 181 (by decide))
    have hxx : xR B X M1 := xR_eq hx0 (f1.1 182 (by decide)) (f1.1 183 (by decide)) (f1.1 184 (by decide)) (f1.1 185 (by decide))
    have hsi := hs i hi
    have nx : ∀ M2 (a b c e : Int) (z1 z2 z3 : Option am_v), fr3 26 27 M0 M2 → xB B K X (f * 4 + (i + 1)) a b c e → am_x am_P am_gg (d + 2) am_k266 0 Q 90 [some (.inr (.inr 174)), none, none, some (.inl (a)), some (.inl (b)), some (.inl (c)), some (.inl (e)), some (.inl ((f : Int))), some (.inl (((i + 1 : Nat) : Int))), z1, z2, z3] [] M2 0 0 := by
      intro M2 a b c e z1 z2 z3 f2 h2
      refine am_x_le [some (.inr (.inr 174)), none, none, some (.inl (a)), some (.inl (b)), some (.inl (c)), some (.inl (e)), some (.inl ((f : Int))), some (.inl (((i + 1 : Nat) : Int))), none, none, none] (am_lb_le _ _ ⟨rfl, rfl, rfl, rfl, rfl, rfl, rfl, trivial⟩) ?_
      exact k (a, b, c, e, M2) ⟨f2, h2⟩
    have no : ∀ (hno : xOK B K X f i → X (gsg B f i) ≠ NK), xB B K X (f * 4 + (i + 1)) a b c e := fun hno => xB_keep hW (by omega) hd (fun o z => absurd z (hno o))
    refine (h_266_90_174 _ _ _ _ _ _ _ _ _).mpr (m_size hB (by omega) ?_)
    rw [w32_s (i := i) (by omega), w32_s (i := f) (by omega)]
    rw [if_pos (by omega)]
    refine m_isOn hB hW.on (by omega) ?_ ?_
    · intro ho
      rw [if_neg (by omega)]
      refine m_sym hB (by omega) ?_
      rw [if_pos (by omega)]
      refine @p_if _ _ _ _ ?_ ?_
      · intro hneg
        have hN := (xR_neg hxx hsy).mp hneg
        exact out M1 a b c e i _ f1 hd (by omega) (fun j o _ => absurd hN o.2.2.2.2.2.1)
      · intro hneg
        have hX : X (gsy B f) ≠ NK := fun z => hneg ((xR_neg hxx hsy).mpr z)
        refine m_sign hB (by omega) (by omega) ?_
        refine @p_if _ _ _ _ ?_ ?_
        · intro h8
          have h8 : gsg B f i < 8 := by omega
          rw [if_pos (by omega)]
          refine @p_if _ _ _ _ ?_ ?_
          · intro hneg2
            have hN := (xR_neg hxx h8).mp hneg2
            refine m_sums hW hB hy hf ?_ ?_
            · intro M2 f2 hav
              rw [if_pos (by omega)]
              exact nx _ _ _ _ _ _ _ _ (fr3_tr f1 f2) (no (fun o => absurd o.2.2.2.2.2.2.1 hav))
            · intro M2 f2 hav e26 e27
              have f' := fr3_tr f1 f2
              have hB2 : rb (M2 174) 0 B := by rw [f2.1 174 (by decide)]; exact hB
              have hx2 : xR B X M2 := xR_eq hxx (f2.1 182 (by decide)) (f2.1 183 (by decide)) (f2.1 184 (by decide)) (f2.1 185 (by decide))
              rw [if_neg (by omega)]
              refine m_sym hB2 (by omega) ?_
              rw [if_pos (by omega)]
              refine m_sym hB2 (by omega) ?_
              rw [if_pos (by omega)]
              obtain ⟨q0, q1, q2, q3⟩ := (hx2 _ hsy).resolve_left (fun z => hX z.1)
              have row := xb_row hW hp hb hx hf hi h8 hX hav
              have p0 := hp.1 (gsg B f i)
              have bc : rcb B K f (i : Int) ≤ 200000 := by
                unfold rcb
                have a1 := sm_le (f := fun j => if (j : Int) = (i : Int) then 0 else cq K (gsg B f j)) (a := 32768) (n := gsz B f) (fun j hj => by
                  split
                  · omega
                  · unfold cq; split
                    · rename_i g8
                      rcases hy _ g8 with q | q <;> omega
                    · omega)
                have := (hW.2.2.2.1 f hf).2.2.2.1
                omega
              have hxc : xcc B K X f i = X (gsy B f) / 262144 + rcb B K f i := rfl
              have hxm : xmm B K X f i = X (gsy B f) / 64 % 4096 + rmb B K f i := rfl
              rw [e26, e27, q1, q2, show w32 ((rcb B K f (i : Int) : Int) + ((X (gsy B f) / 262144 : Nat) : Int)) = (xcc B K X f i : Int) by rw [w32_i (by omega) (by omega)]; omega, show w32 ((rmb B K f (i : Int) : Int) + ((X (gsy B f) / 64 % 4096 : Nat) : Int)) = (xmm B K X f i : Int) by rw [w32_i (by omega) (by omega)]; omega]
              have ne2 : gsg B f i ≠ B 2 := fun z => by rw [z, h02] at hN; omega
              have mk : xcc B K X f i ≤ 200 → xOK B K X f i := fun hc => ⟨hf, ho, hi, h8, ne2, hX, hav, hc⟩
              have bnd : ∀ r0 i0, xOK B K X r0 i0 → xmm B K X r0 i0 < 4096 := fun r0 i0 o => (xOK_b hW hp hb hx o).2.2
              refine @p_if _ _ _ _ ?_ ?_
              · intro q
                refine nx _ _ _ _ _ _ _ _ f' (xB_keep hW (by omega) hd (fun o z => ?_))
                have o4 := o.2.2.2.2.2.2.2
                refine ⟨fun ea => ?_, fun r0 i0 h0 o0 ea ec ee => ?_⟩
                · rcases hd with ⟨h1, h2, h3⟩ | ⟨r0, i0, h1, h2, h3⟩
                  · omega
                  · omega
                · have := bnd r0 i0 o0; unfold xky; omega
              · intro q
                refine @p_if _ _ _ _ ?_ ?_
                · intro q2
                  refine @p_if _ _ _ _ ?_ ?_
                  · intro q3
                    refine nx _ _ _ _ _ _ _ _ f' (no (fun o => ?_))
                    have o4 := o.2.2.2.2.2.2.2
                    rcases hd with ⟨h1, h2, h3⟩ | ⟨r0, i0, h1, h2, h3⟩
                    · omega
                    · omega
                  · intro q3
                    have hle : xcc B K X f i ≤ 200 := by
                      rcases hd with ⟨h1, h2, h3⟩ | ⟨r0, i0, h1, h2, h3, h4, h5, h6, h7⟩
                      · omega
                      · have := h4.2.2.2.2.2.2.2; omega
                    have ok := mk hle
                    have be := bnd f i ok
                    refine @p_if _ _ _ _ ?_ ?_
                    · intro q4
                      refine nx _ _ _ _ _ _ _ _ f' (xB_take hW hd ok hN (fun r0 i0 h0 o0 ea eb ec => ?_))
                      unfold xky; omega
                    · intro q4
                      refine nx _ _ _ _ _ _ _ _ f' (xB_keep hW (by omega) hd (fun o z => ⟨by omega, fun r0 i0 h0 o0 ea eb ec => ?_⟩))
                      unfold xky; omega
                · intro q2
                  have hle : xcc B K X f i ≤ 200 := by
                    rcases hd with ⟨h1, h2, h3⟩ | ⟨r0, i0, h1, h2, h3, h4, h5, h6, h7⟩
                    · omega
                    · have := h4.2.2.2.2.2.2.2; omega
                  have ok := mk hle
                  have be := bnd f i ok
                  refine nx _ _ _ _ _ _ _ _ f' (xB_take hW hd ok hN (fun r0 i0 h0 o0 ea eb ec => ?_))
                  unfold xky; omega
          · intro hneg2
            exact nx _ _ _ _ _ _ _ _ f1 (no (fun o z => hneg2 ((xR_neg hxx h8).mpr z)))
        · intro h8
          exact nx _ _ _ _ _ _ _ _ f1 (no (fun o => absurd o.2.2.2.1 (by omega)))
    · intro ho
      rw [if_pos (by omega)]
      exact out M1 a b c e i _ f1 hd (by omega) (fun j o _ => by rw [o.2.1] at ho; cases ho)
theorem lx_pass (hW : gW B) (hp : ypos B pos) {M0 : (Nat → Int → Int)} (hB0 : rb (M0 174) 0 B) (hy0 : yR K M0) (hx0 : xR B X M0) (hb : ybd pos K) (hx : xbd pos X) (h02 : X (B 2) = 0) (hk0 : ∀ M', fr3 26 27 M0 M' → (∀ r i, xOK B K X r i → X (gsg B r i) ≠ NK) → Q 0 M') (hk1 : ∀ M' r0 i0, fr3 26 27 M0 M' → xOK B K X r0 i0 → X (gsg B r0 i0) = NK → (∀ r i, xOK B K X r i → X (gsg B r i) = NK → xky B K X r0 i0 ≤ xky B K X r i) → am_x am_P am_gg (d + 2) am_k266 0 Q 58 [some (.inr (.inr 174)), none, some (.inl (1)), none, none, none, none, none, none, none, none, none] [] (am_up (am_up (am_up (am_up M' 182 (gsg B r0 i0 : Int) (xcc B K X r0 i0 : Int)) 183 (gsg B r0 i0 : Int) (xmm B K X r0 i0 : Int)) 184 (gsg B r0 i0 : Int) (r0 : Int)) 185 (gsg B r0 i0 : Int) (i0 : Int)) 0 0) : am_x am_P am_gg (d + 2) am_k266 0 Q 78 [some (.inr (.inr 174)), none, none, some (.inl ((-1))), some (.inl ((-1))), some (.inl (201)), some (.inl (0)), some (.inl (((0 : Nat) : Int))), none, none, none, none] [] M0 0 0 := by
  have hn := hW.1
  refine p_for (S := Int × Int × Int × Int × (Nat → Int → Int)) (X := fun i x => am_x am_P am_gg (d + 2) am_k266 0 Q 78 [some (.inr (.inr 174)), none, none, some (.inl (x.1)), some (.inl (x.2.1)), some (.inl (x.2.2.1)), some (.inl (x.2.2.2.1)), some (.inl (i)), none, none, none, none] [] x.2.2.2.2 0 0) (B 0) (fun f x => fr3 26 27 M0 x.2.2.2.2 ∧ xB B K X (f * 4) x.1 x.2.1 x.2.2.1 x.2.2.2.1) ?_ ?_ 0 (-1, -1, 201, 0, M0) (by omega) ⟨fr3_rf, Or.inl ⟨rfl, rfl, fun r i hr => absurd hr (by omega)⟩⟩
  · intro x ⟨f, hd⟩
    obtain ⟨a, b, c, e, M1⟩ := x
    dsimp only at f hd ⊢
    have hB : rb (M1 174) 0 B := by rw [f.1 174 (by decide)]; exact hB0
    have all4 : ∀ r i, xOK B K X r i → r * 4 + i < B 0 * 4 := fun r i o => by
      have z1 := (hW.2.2.2.1 r o.1).2.2.1
      have z2 := o.2.2.1
      have z3 := o.1
      omega
    refine (h_266_78_174 _ _ _ _ _ _ _ _).mpr (m_rules hB ?_)
    rw [if_neg (by omega)]
    rcases hd with ⟨h1, h2, h3⟩ | ⟨r0, i0, h1, h2, h3, h4, h5, h6, h7, h8⟩
    · rw [if_pos (by omega)]
      exact hk0 M1 f (fun r i o => h3 r i (all4 r i o) o)
    · rw [if_neg (by omega)]
      subst h2; subst h3; subst h6; subst h7
      have g8 := h4.2.2.2.1
      have z1 := (hW.2.2.2.1 r0 h4.1).2.2.1
      have z2 := h4.2.2.1
      have z3 := h4.1
      refine m_sign hB (by omega) (by omega) ?_
      rw [if_pos (by omega)]
      rw [if_pos (by omega)]
      rw [if_pos (by omega)]
      rw [if_pos (by omega)]
      refine am_x_le [some (.inr (.inr 174)), none, some (.inl (1)), none, none, none, none, none, none, none, none, none] (am_lb_le _ _ ⟨rfl, rfl, trivial⟩) ?_
      exact hk1 M1 r0 i0 f h4 h5 (fun r i o => h8 r i (all4 r i o) o)
  · intro f x hf ⟨f1, hd⟩ k
    obtain ⟨a, b, c, e, M1⟩ := x
    dsimp only at f1 hd ⊢
    have hB : rb (M1 174) 0 B := by rw [f1.1 174 (by decide)]; exact hB0
    refine (h_266_78_174 _ _ _ _ _ _ _ _).mpr (m_rules hB ?_)
    rw [if_pos (by omega)]
    exact lx_row hW hp hB0 hy0 hx0 hb hx h02 hf (fun M' a b c e f' h' => k (a, b, c, e, M') ⟨f', h'⟩) f1 hd
def xF (M M' : (Nat → Int → Int)) : Prop := (∀ c, c ≠ 173 → c ≠ 182 → c ≠ 183 → c ≠ 184 → c ≠ 185 → M' c = M c) ∧ ∀ i : Int, i < 26 ∨ 27 < i → M' 173 i = M 173 i
theorem m_laysContexts (hW : gW B) (hp : ypos B pos) {M0 : (Nat → Int → Int)} (hB0 : rb (M0 174) 0 B) (hy0 : yR K M0) (hb : ybd pos K) (hQ : ∀ M' X, xF M0 M' → xSol B pos K X → (∀ s, s < 8 → X s ≤ NK) → xR B X M' → Q 0 M') : am_s am_P am_gg (d + 3) 266 [.inr (.inr 174)] M0 Q := by
  have hNK := NK_eq
  have h28 := hW.2.2.1
  refine (v_266_174 _ _ _).mpr ?_
  refine p_for (S := (Nat → Int → Int)) (X := fun i M => am_x am_P am_gg (d + 2) am_k266 0 Q 2 [some (.inr (.inr 174)), some (.inl (i)), none, none, none, none, none, none, none, none, none, none] [] M 0 0) 8 (fun b M => (∀ c, c ≠ 182 → M c = M0 c) ∧ ∀ s : Nat, s < b → M 182 (s : Int) = -1) ?_ ?_ 0 M0 (by omega) ⟨fun _ _ => rfl, fun s hs => absurd hs (Nat.not_lt_zero s)⟩
  · intro M1 ⟨f1, z⟩
    have hB1 : rb (M1 174) 0 B := by rw [f1 174 (by decide)]; exact hB0
    refine (h_266_2_174 _ _ _ _).mpr ?_
    rw [show M1 174 2 = (B 2 : Int) from hB1.at (k := 2) (by omega)]
    rw [if_neg (by omega)]
    rw [if_pos (by omega)]
    rw [if_pos (by omega)]
    rw [if_pos (by omega)]
    rw [if_pos (by omega)]
    refine am_x_le [some (.inr (.inr 174)), none, some (.inl (1)), none, none, none, none, none, none, none, none, none] (am_lb_le _ _ ⟨rfl, rfl, trivial⟩) ?_
    refine p_whi (S := (Nat → Nat) × (Nat → Int → Int)) (X := fun x => am_x am_P am_gg (d + 2) am_k266 0 Q 58 [some (.inr (.inr 174)), none, some (.inl (1)), none, none, none, none, none, none, none, none, none] [] x.2 0 0) (fun n x => xF M0 x.2 ∧ xR B x.1 x.2 ∧ (∀ s, x.1 s ≤ NK) ∧ (∃ F, dX B pos K x.1 F) ∧ n = cnt (fun s => decide (x.1 s = NK)) 8) ?_ _ (gU (fun _ => NK) (B 2) 0, am_up (am_up (am_up (am_up M1 182 (B 2 : Int) 0) 183 (B 2 : Int) 0) 184 (B 2 : Int) (-1)) 185 (B 2 : Int) (-1)) ⟨?_, ?_, ?_, ⟨0, dX_0 hp⟩, rfl⟩
    · intro n x hx k
      obtain ⟨X, M2⟩ := x
      obtain ⟨f2, y2, n2, ⟨F, dd⟩, hm⟩ := hx
      dsimp only at f2 y2 n2 dd hm ⊢
      refine (h_266_58_174 _ _ _ _).mpr ?_
      rw [if_neg (by omega)]
      have hB2 : rb (M2 174) 0 B := by rw [f2.1 174 (by decide) (by decide) (by decide) (by decide) (by decide)]; exact hB0
      have hy2 : yR K M2 := yR_eq hy0 (f2.1 179 (by decide) (by decide) (by decide) (by decide) (by decide)) (f2.1 180 (by decide) (by decide) (by decide) (by decide) (by decide)) (f2.1 181 (by decide) (by decide) (by decide) (by decide) (by decide))
      refine am_x_le [some (.inr (.inr 174)), none, none, some (.inl ((-1))), some (.inl ((-1))), some (.inl (201)), some (.inl (0)), some (.inl (((0 : Nat) : Int))), none, none, none, none] (am_lb_le _ _ ⟨rfl, rfl, rfl, rfl, rfl, rfl, trivial⟩) ?_
      have yf : ∀ M', fr3 26 27 M2 M' → xF M0 M' := fun M' g => ⟨fun c a b e f h => by rw [g.1 c a]; exact f2.1 c a b e f h, fun i hi => by rw [g.2 i hi]; exact f2.2 i hi⟩
      have keep : ∀ M', fr3 26 27 M2 M' → xR B X M' := fun M' f' => xR_eq y2 (f'.1 182 (by decide)) (f'.1 183 (by decide)) (f'.1 184 (by decide)) (f'.1 185 (by decide))
      refine lx_pass hW hp hB2 hy2 y2 hb dd.1 dd.2.1 (fun M' f' hn => ?_) (fun M' r0 i0 f' ok hN hmin => ?_)
      · exact hQ M' X (yf M' f') (dX_end dd hn) (fun s _ => n2 s) (keep M' f')
      · obtain ⟨b16, b4, bm⟩ := xOK_b hW hp hb dd.1 ok
        obtain ⟨d1, d2, d3, d4⟩ := xky_dec b16 b4 bm
        have dl := xky_lt b16 b4 bm ok.2.2.2.2.2.2.2
        have hsy := ok.2.2.2.1
        have ne2 := ok.2.2.2.2.1
        refine k _ (gU X (gsg B r0 i0) (xky B K X r0 i0), am_up (am_up (am_up (am_up M' 182 (gsg B r0 i0 : Int) (xcc B K X r0 i0 : Int)) 183 (gsg B r0 i0 : Int) (xmm B K X r0 i0 : Int)) 184 (gsg B r0 i0 : Int) (r0 : Int)) 185 (gsg B r0 i0 : Int) (i0 : Int)) ?_ ⟨?_, ?_, ?_, ⟨_, dX_step hW hp hb dd ok hN hmin⟩, rfl⟩
        · dsimp only
          rw [hm]
          have := cnt_lt (p := fun s => decide (gU X (gsg B r0 i0) (xky B K X r0 i0) s = NK)) (q := fun s => decide (X s = NK)) (n := 8) (t := gsg B r0 i0) (fun j hj z => by
            by_cases e : j = gsg B r0 i0
            · subst e; rw [hN]; simp
            · rw [gU_ne e] at z; exact z) hsy (by simp [hN]) (by rw [gU_eq]; simp; omega)
          omega
        · have g := yf M' f'
          dsimp only
          refine ⟨fun c a b e f h => ?_, fun i hi => ?_⟩
          · rw [up_nc _ _ _ _ h, up_nc _ _ _ _ f, up_nc _ _ _ _ e, up_nc _ _ _ _ b]; exact g.1 c a b e f h
          · rw [up_nc _ _ _ _ (by decide), up_nc _ _ _ _ (by decide), up_nc _ _ _ _ (by decide), up_nc _ _ _ _ (by decide)]; exact g.2 i hi
        · have y3 := keep M' f'
          intro s hs
          dsimp only
          rw [up_nc _ _ _ _ (show (182 : Nat) ≠ 185 by decide), up_nc _ _ _ _ (show (182 : Nat) ≠ 184 by decide), up_nc _ _ _ _ (show (182 : Nat) ≠ 183 by decide), up_ci, up_nc _ _ _ _ (show (183 : Nat) ≠ 185 by decide), up_nc _ _ _ _ (show (183 : Nat) ≠ 184 by decide), up_ci, up_nc _ _ _ _ (show (183 : Nat) ≠ 182 by decide), up_nc _ _ _ _ (show (184 : Nat) ≠ 185 by decide), up_ci, up_nc _ _ _ _ (show (184 : Nat) ≠ 183 by decide), up_nc _ _ _ _ (show (184 : Nat) ≠ 182 by decide), up_ci, up_nc _ _ _ _ (show (185 : Nat) ≠ 184 by decide), up_nc _ _ _ _ (show (185 : Nat) ≠ 183 by decide), up_nc _ _ _ _ (show (185 : Nat) ≠ 182 by decide)]
          by_cases e : s = gsg B r0 i0
          · subst e
            rw [if_pos rfl, if_pos rfl, if_pos rfl, if_pos rfl, gU_eq, d1, d2, d3, d4]
            exact Or.inr ⟨by omega, rfl, rfl, fun _ => ⟨rfl, rfl⟩, fun z => absurd z ne2⟩
          · rw [if_neg (by omega), if_neg (by omega), if_neg (by omega), if_neg (by omega), gU_ne e]; exact y3 s hs
        · intro s
          dsimp only
          by_cases e : s = gsg B r0 i0
          · subst e; rw [gU_eq]; omega
          · rw [gU_ne e]; exact n2 s
    · refine ⟨fun c a b e f h => ?_, fun i hi => ?_⟩
      · dsimp only
        rw [up_nc _ _ _ _ h, up_nc _ _ _ _ f, up_nc _ _ _ _ e, up_nc _ _ _ _ b]; exact f1 c b
      · dsimp only
        rw [up_nc _ _ _ _ (by decide), up_nc _ _ _ _ (by decide), up_nc _ _ _ _ (by decide), up_nc _ _ _ _ (by decide), f1 173 (by decide)]
    · intro s hs
      dsimp only
      rw [up_nc _ _ _ _ (show (182 : Nat) ≠ 185 by decide), up_nc _ _ _ _ (show (182 : Nat) ≠ 184 by decide), up_nc _ _ _ _ (show (182 : Nat) ≠ 183 by decide), up_ci, up_nc _ _ _ _ (show (183 : Nat) ≠ 185 by decide), up_nc _ _ _ _ (show (183 : Nat) ≠ 184 by decide), up_ci, up_nc _ _ _ _ (show (184 : Nat) ≠ 185 by decide), up_ci, up_ci]
      by_cases e : s = B 2
      · subst e
        rw [if_pos rfl, if_pos rfl, if_pos rfl, if_pos rfl, gU_eq]
        exact Or.inr ⟨by omega, rfl, rfl, fun z => absurd rfl z, fun _ => ⟨rfl, rfl⟩⟩
      · rw [if_neg (by omega), gU_ne e]
        exact Or.inl ⟨rfl, z s hs⟩
    · intro s
      dsimp only
      by_cases e : s = B 2
      · subst e; rw [gU_eq]; omega
      · rw [gU_ne e]; exact Nat.le_refl _
  · intro i M2 hi ⟨f2, z⟩ k
    refine (h_266_2_174 _ _ _ _).mpr ?_
    rw [if_pos (by omega)]
    rw [if_pos (by omega)]
    rw [w32_s (by omega)]
    refine k _ ⟨fun c hc => by rw [up_nc _ _ _ _ hc]; exact f2 c hc, fun s hs => ?_⟩
    rw [up_ci]
    by_cases q : s = i
    · rw [if_pos (by omega)]
    · rw [if_neg (by omega)]; exact z s (by omega)
end S72
