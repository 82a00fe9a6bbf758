/-! the reference: GOOD, COME TO, USED -/
def bp (v : Int) (k : Nat) : Prop := v.toNat.testBit k = true
theorem bs_bp {v : Int} {p : Nat → Prop} (h : bs v p) : bs v (bp v) := by
  obtain ⟨n, h1, h2, h3⟩ := h
  exact ⟨n, h1, h2, fun k => by unfold bp; rw [h2]; exact Iff.rfl⟩
theorem bp_iff {v : Int} {p : Nat → Prop} (h : bs v p) (k : Nat) : bp v k ↔ p k := by
  obtain ⟨n, h1, h2, h3⟩ := h
  unfold bp; rw [h2]; exact h3 k
/-- of the reference's own cell some fields alone change -/
def fr3 (lo hi : Int) (M M' : (Nat → Int → Int)) : Prop := (∀ c, c ≠ 173 → M' c = M c) ∧ ∀ i : Int, i < lo ∨ hi < i → M' 173 i = M 173 i
theorem fr3_rf {lo hi : Int} {M : (Nat → Int → Int)} : fr3 lo hi M M := ⟨fun _ _ => rfl, fun _ _ => rfl⟩
theorem fr3_up {lo hi : Int} {M M' : (Nat → Int → Int)} (h : fr3 lo hi M M') {i v : Int} (hi' : lo ≤ i ∧ i ≤ hi) : fr3 lo hi M (am_up M' 173 i v) :=
  ⟨fun c a => by rw [up_nc _ _ _ _ a]; exact h.1 c a, fun j hj => by rw [up_ni _ _ _ _ (by omega)]; exact h.2 j hj⟩
theorem fr3_tr {lo hi : Int} {M1 M2 M3 : (Nat → Int → Int)} (h : fr3 lo hi M1 M2) (g : fr3 lo hi M2 M3) : fr3 lo hi M1 M3 :=
  ⟨fun c a => (g.1 c a).trans (h.1 c a), fun j hj => (g.2 j hj).trans (h.2 j hj)⟩
theorem fr3_w {lo hi lo' hi' : Int} {M1 M2 : (Nat → Int → Int)} (h : fr3 lo hi M1 M2) (hl : lo' ≤ lo) (hh : hi ≤ hi') : fr3 lo' hi' M1 M2 :=
  ⟨h.1, fun j hj => h.2 j (by omega)⟩
section S67
variable {B : Nat → Nat} {M : (Nat → Int → Int)} {d : Nat} {Q : Int → (Nat → Int → Int) → Prop}
theorem m_bs {v : Int} {p : Nat → Prop} {k : Nat} (h : bs v p) (hk : k < 32) (h1 : p k → Q 1 M) (h0 : ¬ p k → Q 0 M) : am_s am_P am_gg (d + 1) 226 [.inl v, .inl (k : Int)] M Q := by
  obtain ⟨n, n1, n2, n3⟩ := h
  subst n2
  refine m_bitn n1 hk ?_ ?_
  · intro q; exact h1 ((n3 k).mp q)
  · intro q; exact h0 (fun z => by rw [(n3 k).mpr z] at q; cases q)
theorem m_isGood {P : Nat → Prop} {r : Nat} (hW : gW B) (hB : rb (M 174) 0 B) (hg : bs (M 173 12) P) (hr : r < B 0) (h1 : gon B r = true → gAll B P r → Q 1 M) (h0 : ¬ (gon B r = true ∧ gAll B P r) → Q 0 M) : am_s am_P am_gg (d + 3) 259 [.inr (.inr 174), .inl (r : Int)] M Q := by
  have hn := hW.1
  obtain ⟨-, hz, hz4, -, hs⟩ := hW.2.2.2.1 r hr
  refine (v_259_174 _ _ _ _).mpr ?_
  refine p_for (S := Unit) (X := fun i _ => am_x am_P am_gg (d + 2) am_k259 4 Q 2 [some (.inr (.inr 174)), some (.inl ((r : Int))), some (.inl (i))] [] M 0 0) (gsz B r) (fun i _ => ∀ j, j < i → gsg B r j < 8 → P (gsg B r j)) ?_ ?_ 0 () (by omega) (fun j hj => absurd hj (Nat.not_lt_zero j))
  · intro _ hI
    refine (h_259_2_174 _ _ _ _ _).mpr (m_size hB (by omega) ?_)
    rw [if_neg (by omega)]
    refine m_isOn hB hW.on (by omega) ?_ ?_
    · intro ho; rw [if_pos (by omega)]; exact h1 ho hI
    · intro ho; rw [if_pos (by omega)]; exact h0 (fun q => by rw [q.1] at ho; cases ho)
  · intro i _ hi hI k
    refine (h_259_2_174 _ _ _ _ _).mpr (m_size hB (by omega) ?_)
    rw [if_pos (by omega)]
    refine m_sign hB (by omega) (by omega) ?_
    refine @p_if _ _ _ _ ?_ ?_
    · intro h8
      refine m_sign hB (by omega) (by omega) ?_
      refine m_bs hg (by omega) ?_ ?_
      · intro hp
        rw [if_neg (by omega)]
        rw [w32_s (by omega)]
        refine k () (fun j hj hj8 => ?_)
        by_cases q : j = i
        · subst q; exact hp
        · exact hI j (by omega) hj8
      · intro hp
        rw [if_pos (by omega)]
        exact h0 (fun q => hp (q.2 i hi (by omega)))
    · intro h8
      rw [w32_s (by omega)]
      refine k () (fun j hj hj8 => ?_)
      by_cases q : j = i
      · subst q; omega
      · exact hI j (by omega) hj8
/-- a rule that is sound, as GOOD stands there -/
theorem m_isSnd {r : Nat} (hW : gW B) (hB : rb (M 174) 0 B) (hg : bs (M 173 12) (gGood B)) (hr : r < B 0) (h1 : gSnd B r → Q 1 M) (h0 : ¬ gSnd B r → Q 0 M) : am_s am_P am_gg (d + 3) 259 [.inr (.inr 174), .inl (r : Int)] M Q :=
  m_isGood hW hB hg hr (fun a b => h1 ⟨a, b⟩) (fun a => h0 a)
/-- GOOD -/
def lgI (B : Nat → Nat) (M0 M : (Nat → Int → Int)) (a : Int) (b : Nat) : Prop := fr3 12 15 M0 M ∧ bs (M 173 12) (bp (M 173 12)) ∧ (∀ s, bp (M 173 12) s → gGood B s) ∧ a ≤ M 173 12 ∧ (M 173 12 = a → ∀ r, r < b → gon B r = true → gAll B (bp (M 173 12)) r → bp (M 173 12) (gsy B r))
theorem bs_256 (hW : gW B) {v : Int} {P : Nat → Prop} (h : bs v (bp v)) (hs : ∀ s, bp v s → P s) (hP : ∀ s, P s → s < 8) : v < 256 := by
  have := bs_lt (n := 8) h (fun j q => hP j (hs j q))
  exact this
theorem lg_pass (hW : gW B) {M0 : (Nat → Int → Int)} (hB0 : rb (M0 174) 0 B) {a : Int} (hk : ∀ M', lgI B M0 M' a (B 0) → am_x am_P am_gg (d + 3) am_k260 0 Q 7 [some (.inr (.inr 174)), some (.inl (a)), none, none] [] M' 0 0) (hI : lgI B M0 M a 0) : am_x am_P am_gg (d + 3) am_k260 0 Q 22 [some (.inr (.inr 174)), some (.inl (a)), some (.inl (((0 : Nat) : Int))), none] [] M 0 0 := by
  have hn := hW.1
  refine p_for (S := (Nat → Int → Int)) (X := fun i M => am_x am_P am_gg (d + 3) am_k260 0 Q 22 [some (.inr (.inr 174)), some (.inl (a)), some (.inl (i)), none] [] M 0 0) (B 0) (fun b M => lgI B M0 M a b) ?_ ?_ 0 M (by omega) hI
  · intro M1 h1
    have hB : rb (M1 174) 0 B := by rw [h1.1.1 174 (by decide)]; exact hB0
    refine (h_260_22_174 _ _ _ _ _).mpr (m_rules hB ?_)
    rw [if_neg (by omega)]
    refine am_x_le [some (.inr (.inr 174)), some (.inl (a)), none, none] (am_lb_le _ _ ⟨rfl, rfl, trivial⟩) ?_
    exact hk M1 h1
  · intro b M1 hb h1 k
    have hB : rb (M1 174) 0 B := by rw [h1.1.1 174 (by decide)]; exact hB0
    obtain ⟨f, g1, g2, g3, g4⟩ := h1
    refine (h_260_22_174 _ _ _ _ _).mpr (m_rules hB ?_)
    rw [if_pos (by omega)]
    refine m_isGood hW hB g1 hb ?_ ?_
    · intro ho hA
      rw [if_neg (by omega)]
      refine m_sym hB (by omega) ?_
      rw [w32_s (by omega)]
      have hsy := (hW.2.2.2.1 b hb).1
      have g1' := bs_add (k := gsy B b) g1 (by omega)
      have le : M1 173 12 ≤ i_or (M1 173 12) (i_shl 1 (gsy B b : Int)) := bs_le g1 g1' (fun j q => Or.inl q)
      refine k _ ⟨fr3_up f (by omega), ?_, ?_, ?_, ?_⟩
      · rw [up_eq]; exact bs_bp g1'
      · rw [up_eq]; intro s q
        rcases (bp_iff g1' s).mp q with q | q
        · exact g2 s q
        · rw [q]; exact gGood_in hb ⟨ho, gAll_mono g2 hA⟩
      · rw [up_eq]; omega
      · rw [up_eq]; intro e r hr hro hrA
        have e2 : M1 173 12 = a := by omega
        have e3 : i_or (M1 173 12) (i_shl 1 (gsy B b : Int)) = M1 173 12 := by omega
        rw [e3] at hrA ⊢
        by_cases q : r = b
        · subst q; rw [← e3]; exact (bp_iff g1' _).mpr (Or.inr rfl)
        · exact g4 e2 r (by omega) hro hrA
    · intro hno
      rw [if_pos (by omega)]
      rw [w32_s (by omega)]
      refine k _ ⟨f, g1, g2, g3, fun e r hr hro hrA => ?_⟩
      by_cases q : r = b
      · subst q; exact absurd ⟨hro, hrA⟩ hno
      · exact g4 e r (by omega) hro hrA
theorem lg_good (hW : gW B) {M0 : (Nat → Int → Int)} (hB0 : rb (M0 174) 0 B) (hk : ∀ M', fr3 12 15 M0 M' → bs (M' 173 12) (gGood B) → am_x am_P am_gg (d + 3) am_k260 0 Q 77 [some (.inr (.inr 174)), some (.inl (0)), none, none] [] (am_up M' 173 13 (i_shl 1 (M' 174 2))) 0 0) : am_s am_P am_gg (d + 4) 260 [.inr (.inr 174)] M0 Q := by
  refine (v_260_174 _ _ _).mpr ?_
  refine p_whi (S := Int × (Nat → Int → Int)) (X := fun x => am_x am_P am_gg (d + 3) am_k260 0 Q 7 [some (.inr (.inr 174)), some (.inl (x.1)), none, none] [] x.2 0 0) (fun n x => fr3 12 15 M0 x.2 ∧ bs (x.2 173 12) (bp (x.2 173 12)) ∧ (∀ s, bp (x.2 173 12) s → gGood B s) ∧ (x.1 = x.2 173 12 → ∀ r, r < B 0 → gon B r = true → gAll B (bp (x.2 173 12)) r → bp (x.2 173 12) (gsy B r)) ∧ n = (512 - 2 * x.2 173 12 + (if x.1 = x.2 173 12 then 0 else 1)).toNat) ?_ 513 (-1, am_up M0 173 12 0) ?_
  · intro n x h k
    obtain ⟨a, M1⟩ := x
    obtain ⟨f, g1, g2, g3, hm⟩ := h
    dsimp only at f g1 g2 g3 hm ⊢
    have r1 := bs_rng g1
    have r2 := bs_256 hW g1 g2 (fun s q => gGood_lt hW q)
    refine (h_260_7_174 _ _ _ _).mpr ?_
    refine @p_if _ _ _ _ ?_ ?_
    · intro e
      refine hk M1 f (bs_cong g1 (fun j => ⟨g2 j, fun ⟨n, q⟩ => gGood_least (g3 e) q⟩))
    · intro e
      refine lg_pass hW hB0 (fun M' h' => ?_) ⟨f, g1, g2, by omega, fun _ r hr => absurd hr (Nat.not_lt_zero r)⟩
      obtain ⟨f', g1', g2', g3', g4'⟩ := h'
      have r1' := bs_rng g1'
      have r2' := bs_256 hW g1' g2' (fun s q => gGood_lt hW q)
      refine k _ (M1 173 12, M') ?_ ⟨f', g1', g2', fun e => g4' e.symm, rfl⟩
      dsimp only
      rw [hm, if_neg e]
      split <;> omega
  · dsimp only
    refine ⟨fr3_up fr3_rf (by omega), ?_, ?_, ?_, ?_⟩
    · rw [up_eq]; exact bs_bp bs_0
    · rw [up_eq]; intro s q; exact ((bp_iff bs_0 s).mp q).elim
    · rw [up_eq]; intro e; omega
    · simp [up_eq]
/-- COME TO -/
def lrI (B : Nat → Nat) (M0 M : (Nat → Int → Int)) (a : Int) (b : Nat) : Prop := fr3 12 15 M0 M ∧ bs (M 173 12) (gGood B) ∧ bs (M 173 13) (bp (M 173 13)) ∧ (∀ s, bp (M 173 13) s → gRch B s) ∧ bp (M 173 13) (B 2) ∧ a ≤ M 173 13 ∧ (M 173 13 = a → ∀ r, r < b → gSnd B r → bp (M 173 13) (gsy B r) → ∀ i, i < gsz B r → gsg B r i < 8 → bp (M 173 13) (gsg B r i))
theorem bs_or_l {v w : Int} {p q : Nat → Prop} (h : bs v p) (g : bs w q) : v ≤ i_or v w := bs_le h (bs_or h g) (fun _ z => Or.inl z)
theorem lr_row (hW : gW B) {M0 : (Nat → Int → Int)} (hB0 : rb (M0 174) 0 B) {a : Int} {b : Nat} (hb : b < B 0) (hS : gSnd B b) (hR : gRch B (gsy B b)) (hk : ∀ M', lrI B M0 M' a (b + 1) → am_x am_P am_gg (d + 3) am_k260 0 Q 92 [some (.inr (.inr 174)), some (.inl (a)), some (.inl (((b + 1 : Nat) : Int))), none] [] M' 0 0) (hI : lrI B M0 M a b) : am_x am_P am_gg (d + 3) am_k260 0 Q 128 [some (.inr (.inr 174)), some (.inl (a)), some (.inl ((b : Int))), some (.inl (((0 : Nat) : Int)))] [] M 0 0 := by
  have hn := hW.1
  obtain ⟨-, hz, hz4, -, hs⟩ := hW.2.2.2.1 b hb
  refine p_for (S := (Nat → Int → Int)) (X := fun i M => am_x am_P am_gg (d + 3) am_k260 0 Q 128 [some (.inr (.inr 174)), some (.inl (a)), some (.inl ((b : Int))), some (.inl (i))] [] M 0 0) (gsz B b) (fun c M => lrI B M0 M a b ∧ (M 173 13 = a → ∀ i, i < c → gsg B b i < 8 → bp (M 173 13) (gsg B b i))) ?_ ?_ 0 M (by omega) ⟨hI, fun _ i hi => absurd hi (Nat.not_lt_zero i)⟩
  · intro M1 h1
    obtain ⟨⟨f, g0, g1, g2, g3, g4, g5⟩, h2⟩ := h1
    have hB : rb (M1 174) 0 B := by rw [f.1 174 (by decide)]; exact hB0
    refine (h_260_128_174 _ _ _ _ _ _).mpr (m_size hB (by omega) ?_)
    rw [if_neg (by omega)]
    rw [w32_s (by omega)]
    refine am_x_le [some (.inr (.inr 174)), some (.inl (a)), some (.inl (((b + 1 : Nat) : Int))), none] (am_lb_le _ _ ⟨rfl, rfl, rfl, trivial⟩) ?_
    refine hk M1 ⟨f, g0, g1, g2, g3, g4, fun e r hr hrS hrb i hi h8 => ?_⟩
    by_cases q : r = b
    · subst q; exact h2 e i hi h8
    · exact g5 e r (by omega) hrS hrb i hi h8
  · intro c M1 hc h1 k
    obtain ⟨⟨f, g0, g1, g2, g3, g4, g5⟩, h2⟩ := h1
    have hB : rb (M1 174) 0 B := by rw [f.1 174 (by decide)]; exact hB0
    refine (h_260_128_174 _ _ _ _ _ _).mpr (m_size hB (by omega) ?_)
    rw [if_pos (by omega)]
    refine m_sign hB (by omega) (by omega) ?_
    refine @p_if _ _ _ _ ?_ ?_
    · intro h8
      refine m_sign hB (by omega) (by omega) ?_
      rw [w32_s (by omega)]
      have g1' := bs_add (k := gsg B b c) g1 (by omega)
      have le : M1 173 13 ≤ i_or (M1 173 13) (i_shl 1 (gsg B b c : Int)) := bs_le g1 g1' (fun j q => Or.inl q)
      refine k _ ⟨⟨fr3_up f (by omega), ?_, ?_, ?_, ?_, ?_, ?_⟩, ?_⟩
      · rw [up_ni _ _ _ _ (by decide)]; exact g0
      · rw [up_eq]; exact bs_bp g1'
      · rw [up_eq]; intro s q
        rcases (bp_iff g1' s).mp q with q | q
        · exact g2 s q
        · rw [q]; exact gRch_in hb hS hR hc (by omega)
      · rw [up_eq]; exact (bp_iff g1' _).mpr (Or.inl g3)
      · rw [up_eq]; omega
      · rw [up_eq]; intro e r hr hrS hrb i hi h8'
        have e2 : M1 173 13 = a := by omega
        have e3 : i_or (M1 173 13) (i_shl 1 (gsg B b c : Int)) = M1 173 13 := by omega
        rw [e3] at hrb ⊢
        exact g5 e2 r hr hrS hrb i hi h8'
      · rw [up_eq]; intro e i hi h8'
        have e2 : M1 173 13 = a := by omega
        have e3 : i_or (M1 173 13) (i_shl 1 (gsg B b c : Int)) = M1 173 13 := by omega
        by_cases q : i = c
        · subst q; exact (bp_iff g1' _).mpr (Or.inr rfl)
        · rw [e3]; exact h2 e2 i (by omega) h8'
    · intro h8
      rw [w32_s (by omega), bs_or0 g1]
      refine k _ ⟨⟨fr3_up f (by omega), ?_, ?_, ?_, ?_, ?_, ?_⟩, ?_⟩
      · rw [up_ni _ _ _ _ (by decide)]; exact g0
      · rw [up_eq]; exact g1
      · rw [up_eq]; exact g2
      · rw [up_eq]; exact g3
      · rw [up_eq]; exact g4
      · rw [up_eq]; exact g5
      · rw [up_eq]; intro e i hi h8'
        by_cases q : i = c
        · subst q; omega
        · exact h2 e i (by omega) h8'
theorem lr_pass (hW : gW B) {M0 : (Nat → Int → Int)} (hB0 : rb (M0 174) 0 B) {a : Int} (hk : ∀ M', lrI B M0 M' a (B 0) → am_x am_P am_gg (d + 3) am_k260 0 Q 77 [some (.inr (.inr 174)), some (.inl (a)), none, none] [] M' 0 0) (hI : lrI B M0 M a 0) : am_x am_P am_gg (d + 3) am_k260 0 Q 92 [some (.inr (.inr 174)), some (.inl (a)), some (.inl (((0 : Nat) : Int))), none] [] M 0 0 := by
  have hn := hW.1
  refine p_for (S := (Nat → Int → Int)) (X := fun i M => am_x am_P am_gg (d + 3) am_k260 0 Q 92 [some (.inr (.inr 174)), some (.inl (a)), some (.inl (i)), none] [] M 0 0) (B 0) (fun b M => lrI B M0 M a b) ?_ ?_ 0 M (by omega) hI
  · intro M1 h1
    have hB : rb (M1 174) 0 B := by rw [h1.1.1 174 (by decide)]; exact hB0
    refine (h_260_92_174 _ _ _ _ _).mpr (m_rules hB ?_)
    rw [if_neg (by omega)]
    refine am_x_le [some (.inr (.inr 174)), some (.inl (a)), none, none] (am_lb_le _ _ ⟨rfl, rfl, trivial⟩) ?_
    exact hk M1 h1
  · intro b M1 hb h1 k
    have hB : rb (M1 174) 0 B := by rw [h1.1.1 174 (by decide)]; exact hB0
    have hI1 := h1
    obtain ⟨f, g0, g1, g2, g3, g4, g5⟩ := h1
    have hsy := (hW.2.2.2.1 b hb).1
    refine (h_260_92_174 _ _ _ _ _).mpr (m_rules hB ?_)
    rw [if_pos (by omega)]
    refine m_sym hB (by omega) (m_bs g1 (by omega) ?_ ?_)
    · intro hbit
      rw [if_neg (by omega)]
      refine m_isSnd hW hB g0 hb ?_ ?_
      · intro hS
        rw [if_neg (by omega)]
        exact lr_row hW hB0 hb hS (g2 _ hbit) (fun M' h' => k M' h') hI1
      · intro hS
        rw [if_pos (by omega)]
        rw [w32_s (by omega)]
        refine k _ ⟨f, g0, g1, g2, g3, g4, fun e r hr hrS hrb i hi h8 => ?_⟩
        by_cases q : r = b
        · subst q; exact absurd hrS hS
        · exact g5 e r (by omega) hrS hrb i hi h8
    · intro hbit
      rw [if_pos (by omega)]
      rw [w32_s (by omega)]
      refine k _ ⟨f, g0, g1, g2, g3, g4, fun e r hr hrS hrb i hi h8 => ?_⟩
      by_cases q : r = b
      · subst q; exact absurd hrb hbit
      · exact g5 e r (by omega) hrS hrb i hi h8
theorem lr_rch (hW : gW B) {M0 : (Nat → Int → Int)} (hB0 : rb (M0 174) 0 B) (hk : ∀ M' a, fr3 12 15 M0 M' → bs (M' 173 12) (gGood B) → bs (M' 173 13) (gRch B) → am_x am_P am_gg (d + 3) am_k260 0 Q 196 [some (.inr (.inr 174)), some (.inl (a)), some (.inl (0)), none] [] (am_up (am_up M' 173 14 0) 173 15 0) 0 0) (hf : fr3 12 15 M0 M) (hg : bs (M 173 12) (gGood B)) : am_x am_P am_gg (d + 3) am_k260 0 Q 77 [some (.inr (.inr 174)), some (.inl (0)), none, none] [] (am_up M 173 13 (i_shl 1 (M 174 2))) 0 0 := by
  have hB : rb (M 174) 0 B := by rw [hf.1 174 (by decide)]; exact hB0
  rw [show M 174 2 = (B 2 : Int) from hB.at (k := 2) (by omega)]
  have h2 := hW.2.2.1
  have o1 := bs_one (k := B 2) (by omega)
  refine p_whi (S := Int × (Nat → Int → Int)) (X := fun x => am_x am_P am_gg (d + 3) am_k260 0 Q 77 [some (.inr (.inr 174)), some (.inl (x.1)), none, none] [] x.2 0 0) (fun n x => lrI B M0 x.2 (if x.1 = x.2 173 13 then x.1 else -1) (B 0) ∧ n = (512 - 2 * x.2 173 13 + (if x.1 = x.2 173 13 then 0 else 1)).toNat) ?_ _ (0, am_up M 173 13 (i_shl 1 (B 2 : Int))) ⟨?_, rfl⟩
  · intro n x h k
    obtain ⟨a, M1⟩ := x
    obtain ⟨⟨f, g0, g1, g2, g3, g4, g5⟩, hm⟩ := h
    dsimp only at f g0 g1 g2 g3 g4 g5 hm ⊢
    have r1 := bs_rng g1
    have r2 := bs_256 hW g1 g2 (fun s q => gRch_lt hW q)
    refine (h_260_77_174 _ _ _ _).mpr ?_
    refine @p_if _ _ _ _ ?_ ?_
    · intro e
      rw [if_pos e] at g5
      exact hk M1 a f g0 (bs_cong g1 (fun j => ⟨g2 j, fun ⟨n, q⟩ => gRch_least g3 (fun r i h1 h2 h3 h4 h5 => g5 e.symm r h1 h2 h3 i h4 h5) q⟩))
    · intro e
      refine lr_pass hW hB0 (fun M' h' => ?_) ⟨f, g0, g1, g2, g3, by omega, fun _ r hr => absurd hr (Nat.not_lt_zero r)⟩
      have h'2 := h'
      obtain ⟨f', g0', g1', g2', g3', g4', g5'⟩ := h'
      have r1' := bs_rng g1'
      have r2' := bs_256 hW g1' g2' (fun s q => gRch_lt hW q)
      refine k _ (M1 173 13, M') ?_ ⟨?_, rfl⟩
      · dsimp only
        rw [hm, if_neg e]
        split <;> omega
      · dsimp only
        refine ⟨f', g0', g1', g2', g3', ?_, ?_⟩
        · split <;> omega
        · intro q
          split at q
          · exact g5' q
          · omega
  · dsimp only
    have ne : ¬ ((0 : Int) = am_up M 173 13 (i_shl 1 (B 2 : Int)) 173 13) := by
      rw [up_eq]; intro e
      exact ((bs_z o1).mp e.symm) (B 2) rfl
    rw [if_neg ne]
    refine ⟨fr3_up hf (by omega), ?_, ?_, ?_, ?_, ?_, ?_⟩
    · rw [up_ni _ _ _ _ (by decide)]; exact hg
    · rw [up_eq]; exact bs_bp o1
    · rw [up_eq]; intro s q; rw [(bp_iff o1 s).mp q]; exact gRch_0
    · rw [up_eq]; exact (bp_iff o1 _).mpr rfl
    · rw [up_eq]; have := bs_rng o1; omega
    · rw [up_eq]; intro e; have := bs_rng o1; omega
/-- USED -/
theorem m_laysGood (hW : gW B) {M0 : (Nat → Int → Int)} (hB0 : rb (M0 174) 0 B) (hQ : ∀ M', fr3 12 15 M0 M' → bs (M' 173 12) (gGood B) → bs (M' 173 13) (gRch B) → bs (M' 173 14) (gUsd B) → bs (M' 173 15) (gUL B) → Q 0 M') : am_s am_P am_gg (d + 4) 260 [.inr (.inr 174)] M0 Q := by
  have hn := hW.1
  refine lg_good hW hB0 (fun M1 f1 g1 => lr_rch hW hB0 (fun M2 a f2 g2 r2 => ?_) f1 g1)
  refine am_x_le [some (.inr (.inr 174)), none, some (.inl (((0 : Nat) : Int))), none] (am_lb_le _ _ ⟨rfl, rfl, trivial⟩) ?_
  refine p_for (S := (Nat → Int → Int)) (X := fun i M => am_x am_P am_gg (d + 3) am_k260 0 Q 196 [some (.inr (.inr 174)), none, some (.inl (i)), none] [] M 0 0) (B 0) (fun b M => fr3 12 15 M0 M ∧ bs (M 173 12) (gGood B) ∧ bs (M 173 13) (gRch B) ∧ bs (M 173 14) (fun r => r < b ∧ gUsd B r) ∧ bs (M 173 15) (fun l => ∃ r i, r < b ∧ gUsd B r ∧ i < gsz B r ∧ gsg B r i = 16 + l)) ?_ ?_ 0 _ (by omega) ?_
  · intro M3 h3
    obtain ⟨f, g, rr, u, ul⟩ := h3
    have hB : rb (M3 174) 0 B := by rw [f.1 174 (by decide)]; exact hB0
    refine (h_260_196_174 _ _ _ _).mpr (m_rules hB ?_)
    rw [if_neg (by omega)]
    refine hQ M3 f g rr (bs_cong u (fun j => ⟨fun q => q.2, fun q => ⟨q.1, q⟩⟩)) (bs_cong ul (fun l => ⟨fun ⟨r, i, _, a, b, c⟩ => ⟨r, i, a, b, c⟩, fun ⟨r, i, a, b, c⟩ => ⟨r, i, a.1, a, b, c⟩⟩))
  · intro b M3 hb h3 k
    obtain ⟨f, g, rr, u, ul⟩ := h3
    have hB : rb (M3 174) 0 B := by rw [f.1 174 (by decide)]; exact hB0
    obtain ⟨hsy, hz, hz4, -, hs⟩ := hW.2.2.2.1 b hb
    refine (h_260_196_174 _ _ _ _).mpr (m_rules hB ?_)
    rw [if_pos (by omega)]
    have skip : ¬ gUsd B b → am_x am_P am_gg (d + 3) am_k260 0 Q 196 [some (.inr (.inr 174)), none, some (.inl ((w32 ((b : Int) + 1)))), none] [] M3 0 0 := by
      intro nu
      rw [w32_s (by omega)]
      refine k M3 ⟨f, g, rr, bs_cong u (fun j => ⟨fun q => ⟨by omega, q.2⟩, fun q => ⟨?_, q.2⟩⟩), bs_cong ul (fun l => ⟨fun ⟨r, i, h, q⟩ => ⟨r, i, by omega, q⟩, fun ⟨r, i, h, q⟩ => ⟨r, i, ?_, q⟩⟩)⟩
      · by_cases e : j = b
        · subst e; exact absurd q.2 nu
        · omega
      · by_cases e : r = b
        · subst e; exact absurd q.1 nu
        · omega
    refine m_sym hB (by omega) (m_bs rr (by omega) ?_ ?_)
    · intro hbit
      rw [if_neg (by omega)]
      refine m_isSnd hW hB g hb ?_ ?_
      · intro hS
        rw [if_neg (by omega)]
        have hU : gUsd B b := ⟨hb, hS, hbit⟩
        refine p_for (S := (Nat → Int → Int)) (X := fun i M => am_x am_P am_gg (d + 3) am_k260 0 Q 244 [some (.inr (.inr 174)), none, some (.inl ((b : Int))), some (.inl (i))] [] M 0 0) (gsz B b) (fun c M => fr3 12 15 M0 M ∧ bs (M 173 12) (gGood B) ∧ bs (M 173 13) (gRch B) ∧ bs (M 173 14) (fun r => r < b + 1 ∧ gUsd B r) ∧ bs (M 173 15) (fun l => (∃ r i, r < b ∧ gUsd B r ∧ i < gsz B r ∧ gsg B r i = 16 + l) ∨ ∃ i, i < c ∧ gsg B b i = 16 + l)) ?_ ?_ 0 _ (by omega) ?_
        · intro M4 h4
          obtain ⟨f, g, rr, u, ul⟩ := h4
          have hB : rb (M4 174) 0 B := by rw [f.1 174 (by decide)]; exact hB0
          refine (h_260_244_174 _ _ _ _ _).mpr (m_size hB (by omega) ?_)
          rw [if_neg (by omega)]
          rw [w32_s (by omega)]
          refine am_x_le [some (.inr (.inr 174)), none, some (.inl (((b + 1 : Nat) : Int))), none] (am_lb_le _ _ ⟨rfl, rfl, trivial⟩) ?_
          refine k M4 ⟨f, g, rr, u, bs_cong ul (fun l => ⟨?_, ?_⟩)⟩
          · rintro (⟨r, i, h, q⟩ | ⟨i, h, q⟩)
            · exact ⟨r, i, by omega, q⟩
            · exact ⟨b, i, by omega, hU, h, q⟩
          · rintro ⟨r, i, h, q1, q2, q3⟩
            by_cases e : r = b
            · subst e; exact Or.inr ⟨i, q2, q3⟩
            · exact Or.inl ⟨r, i, by omega, q1, q2, q3⟩
        · intro c M4 hc h4 k2
          obtain ⟨f, g, rr, u, ul⟩ := h4
          have hB : rb (M4 174) 0 B := by rw [f.1 174 (by decide)]; exact hB0
          have hsc := hs c hc
          refine (h_260_244_174 _ _ _ _ _).mpr (m_size hB (by omega) ?_)
          rw [if_pos (by omega)]
          refine m_sign hB (by omega) (by omega) ?_
          refine @p_if _ _ _ _ ?_ ?_
          · intro h8
            rw [w32_s (by omega), bs_or0 ul]
            refine k2 _ ⟨fr3_up f (by omega), ?_, ?_, ?_, ?_⟩
            · rw [up_ni _ _ _ _ (by decide)]; exact g
            · rw [up_ni _ _ _ _ (by decide)]; exact rr
            · rw [up_ni _ _ _ _ (by decide)]; exact u
            · rw [up_eq]; refine bs_cong ul (fun l => or_congr Iff.rfl ⟨fun ⟨i, h, q⟩ => ⟨i, by omega, q⟩, fun ⟨i, h, q⟩ => ⟨i, ?_, q⟩⟩)
              by_cases e : i = c
              · subst e; omega
              · omega
          · intro h8
            refine m_sign hB (by omega) (by omega) ?_
            rw [w32_s (by omega), show w32 ((gsg B b c : Int) - 16) = ((gsg B b c - 16 : Nat) : Int) by rw [w32_i (by omega) (by omega)]; omega]
            refine k2 _ ⟨fr3_up f (by omega), ?_, ?_, ?_, ?_⟩
            · rw [up_ni _ _ _ _ (by decide)]; exact g
            · rw [up_ni _ _ _ _ (by decide)]; exact rr
            · rw [up_ni _ _ _ _ (by decide)]; exact u
            · rw [up_eq]; refine bs_cong (bs_add ul (by omega)) (fun l => ⟨?_, ?_⟩)
              · rintro ((q | ⟨i, h, q⟩) | q)
                · exact Or.inl q
                · exact Or.inr ⟨i, by omega, q⟩
                · exact Or.inr ⟨c, by omega, by omega⟩
              · rintro (q | ⟨i, h, q⟩)
                · exact Or.inl (Or.inl q)
                · by_cases e : i = c
                  · subst e; exact Or.inr (by omega)
                  · exact Or.inl (Or.inr ⟨i, by omega, q⟩)
        · refine ⟨fr3_up f (by omega), ?_, ?_, ?_, ?_⟩
          · rw [up_ni _ _ _ _ (by decide)]; exact g
          · rw [up_ni _ _ _ _ (by decide)]; exact rr
          · rw [up_eq]; refine bs_cong (bs_add u (by omega)) (fun j => ⟨?_, ?_⟩)
            · rintro (q | q)
              · exact ⟨by omega, q.2⟩
              · subst q; exact ⟨by omega, hU⟩
            · intro q
              by_cases e : j = b
              · exact Or.inr e
              · exact Or.inl ⟨by omega, q.2⟩
          · rw [up_ni _ _ _ _ (by decide)]; exact bs_cong ul (fun l => ⟨Or.inl, fun q => q.elim id (fun ⟨i, h, _⟩ => absurd h (Nat.not_lt_zero i))⟩)
      · intro hS
        rw [if_pos (by omega)]
        exact skip (fun q => hS q.2.1)
    · intro hbit
      rw [if_pos (by omega)]
      exact skip (fun q => hbit q.2.2)
  · refine ⟨fr3_up (fr3_up f2 (by omega)) (by omega), ?_, ?_, ?_, ?_⟩
    · rw [up_ni _ _ _ _ (by decide), up_ni _ _ _ _ (by decide)]; exact g2
    · rw [up_ni _ _ _ _ (by decide), up_ni _ _ _ _ (by decide)]; exact r2
    · rw [up_ni _ _ _ _ (by decide), up_eq]; exact bs_cong bs_0 (fun j => ⟨fun q => q.elim, fun q => absurd q.1 (Nat.not_lt_zero j)⟩)
    · rw [up_eq]; exact bs_cong bs_0 (fun j => ⟨fun q => q.elim, fun ⟨r, i, h, _⟩ => absurd h (Nat.not_lt_zero r)⟩)
end S67
