/-! the reference: FIRST, LAST, BESIDE -/
/-- what a sign can begin (end) with, by a row of sets -/
def sv (f : Int → Int) (g : Nat) : Int := if g < 8 then f (g : Int) else i_shl 1 ((g - 16 : Nat) : Int)
theorem sv_bs {f : Int → Int} {g : Nat} (hg : g < 8 ∨ (16 ≤ g ∧ g < 32)) {p : Nat → Prop} (h : g < 8 → bs (f (g : Int)) p) : bs (sv f g) (fun l => g = 16 + l ∨ g < 8 ∧ p l) := by
  unfold sv
  by_cases q : g < 8
  · rw [if_pos q]; exact bs_cong (h q) (fun l => ⟨fun z => Or.inr ⟨q, z⟩, fun z => z.elim (fun z => absurd z (by omega)) (fun z => z.2)⟩)
  · rw [if_neg q]; exact bs_cong (bs_one (by omega)) (fun l => ⟨fun z => Or.inl (by omega), fun z => z.elim (fun z => by omega) (fun z => absurd z.1 q)⟩)
/-- sets of letters, n rounds grown -/
def eS (B : Nat → Nat) (e : Nat → Nat) (f : Int → Int) (n : Nat) : Prop := ∀ s : Nat, s < 8 → bs (f (s : Int)) (bp (f (s : Int))) ∧ (∀ l, bp (f (s : Int)) l → gE B e s l) ∧ (∀ l, geN B e n s l → bp (f (s : Int)) l)
/-- the same, and the rules below b have grown theirs -/
def eP (B : Nat → Nat) (e : Nat → Nat) (f : Int → Int) (n b : Nat) : Prop := eS B e f n ∧ ∀ r, r < b → gSnd B r → ∀ l, (gsg B r (e r) = 16 + l ∨ gsg B r (e r) < 8 ∧ geN B e n (gsg B r (e r)) l) → bp (f (gsy B r : Int)) l
section S68
variable {B : Nat → Nat} {M : (Nat → Int → Int)} {d : Nat} {Q : Int → (Nat → Int → Int) → Prop} {e : Nat → Nat} {f f' : Int → Int} {n b : Nat}
theorem eS_0 (h : ∀ s : Nat, s < 8 → f (s : Int) = 0) : eS B e f 0 := fun s hs => by
  rw [h s hs]
  exact ⟨bs_bp bs_0, fun l q => ((bp_iff bs_0 l).mp q).elim, fun l q => q.elim⟩
theorem eP_0 (h : eS B e f n) : eP B e f n 0 := ⟨h, fun r hr => absurd hr (Nat.not_lt_zero r)⟩
theorem eP_full (h : eP B e f n (B 0)) : eS B e f (n + 1) := fun s hs => by
  obtain ⟨h1, h2, h3⟩ := h.1 s hs
  refine ⟨h1, h2, fun l q => ?_⟩
  obtain ⟨r, a, b, c, q⟩ := q
  rw [← c]
  exact h.2 r a b l q
theorem eP_skip (h : eP B e f n b) (hs : ¬ gSnd B b) : eP B e f n (b + 1) := ⟨h.1, fun r hr hS l q => by
  by_cases e : r = b
  · subst e; exact absurd hS hs
  · exact h.2 r (by omega) hS l q⟩
theorem eP_step (hW : gW B) (he : ∀ r, r < B 0 → e r < gsz B r) (hb : b < B 0) (hS : gSnd B b) (h : eP B e f n b) (hf : ∀ j : Int, f' j = if j = (gsy B b : Int) then i_or (f (gsy B b : Int)) (sv f (gsg B b (e b))) else f j) : eP B e f' n (b + 1) := by
  obtain ⟨hsy, -, -, -, hsg⟩ := hW.2.2.2.1 b hb
  have hg := hsg (e b) (he b hb)
  obtain ⟨h1, h2, h3⟩ := h.1 (gsy B b) hsy
  have hx := sv_bs (f := f) hg (p := bp (f (gsg B b (e b) : Int))) (fun q => (h.1 _ q).1)
  have hor := bs_or h1 hx
  have up : ∀ s : Nat, s < 8 → ∀ l, bp (f (s : Int)) l → bp (f' (s : Int)) l := by
    intro s hs l q
    rw [hf]
    by_cases c : s = gsy B b
    · subst c; rw [if_pos rfl]; exact (bp_iff hor l).mpr (Or.inl q)
    · rw [if_neg (by omega)]; exact q
  have at_b : f' (gsy B b : Int) = i_or (f (gsy B b : Int)) (sv f (gsg B b (e b))) := by rw [hf, if_pos rfl]
  refine ⟨fun s hs => ?_, fun r hr hrS l q => ?_⟩
  · obtain ⟨k1, k2, k3⟩ := h.1 s hs
    refine ⟨?_, fun l q => ?_, fun l q => up s hs l (k3 l q)⟩
    · rw [hf]
      by_cases c : s = gsy B b
      · subst c; rw [if_pos rfl]; exact bs_bp hor
      · rw [if_neg (by omega)]; exact k1
    · by_cases c : s = gsy B b
      · subst c
        rw [at_b] at q
        rcases (bp_iff hor l).mp q with q | q
        · exact k2 l q
        · refine gE_in hb hS ?_
          rcases q with q | q
          · exact Or.inl q
          · exact Or.inr ⟨q.1, (h.1 _ q.1).2.1 l q.2⟩
      · rw [hf, if_neg (by omega)] at q; exact k2 l q
  · by_cases c : r = b
    · subst c
      rw [at_b]
      refine (bp_iff hor l).mpr (Or.inr ?_)
      rcases q with q | q
      · exact Or.inl q
      · exact Or.inr ⟨q.1, (h.1 _ q.1).2.2 l q.2⟩
    · exact up _ (hW.2.2.2.1 r (by omega)).1 l (h.2 r (by omega) hrS l q)
theorem eS_fin (hW : gW B) (h8 : 8 ≤ n) (h : eS B e f n) {s : Nat} (hs : s < 8) : bs (f (s : Int)) (gE B e s) := by
  obtain ⟨h1, h2, h3⟩ := h s hs
  refine bs_cong h1 (fun l => ⟨h2 l, fun ⟨m, q⟩ => h3 l ?_⟩)
  have q8 := geN_8 hW q
  have : ∀ j, geN B e (8 + j) s l := by
    intro j
    induction j with
    | zero => exact q8
    | succ j ih => exact geN_mono ih
  have := this (n - 8)
  rwa [show 8 + (n - 8) = n by omega] at this
/-- what a sign can begin with, once all has grown -/
theorem sv_fin {g : Nat} (hg : g < 8 ∨ (16 ≤ g ∧ g < 32)) (h : ∀ s : Nat, s < 8 → bs (f (s : Int)) (gE B e s)) : bs (sv f g) (gEs B e g) := sv_bs hg (fun q => h g q)
theorem m_firstBy {g : Nat} (hg : g < 8 ∨ (16 ≤ g ∧ g < 32)) (hQ : Q (sv (M 176) g) M) : am_s am_P am_gg (d + 1) 261 [.inr (.inr 174), .inl (g : Int)] M Q := by
  refine (v_261_174 _ _ _ _).mpr ?_
  unfold sv at hQ
  by_cases q : g < 8
  · rw [if_pos (by omega)]
    rw [if_pos (by omega)]
    rw [if_pos q] at hQ; exact hQ
  · rw [if_neg (by omega)]
    rw [if_neg q] at hQ
    rw [show w32 ((g : Int) - 16) = ((g - 16 : Nat) : Int) by rw [w32_i (by omega) (by omega)]; omega]
    exact hQ
theorem m_lastBy {g : Nat} (hg : g < 8 ∨ (16 ≤ g ∧ g < 32)) (hQ : Q (sv (M 177) g) M) : am_s am_P am_gg (d + 1) 262 [.inr (.inr 174), .inl (g : Int)] M Q := by
  refine (v_262_174 _ _ _ _).mpr ?_
  unfold sv at hQ
  by_cases q : g < 8
  · rw [if_pos (by omega)]
    rw [if_pos (by omega)]
    rw [if_pos q] at hQ; exact hQ
  · rw [if_neg (by omega)]
    rw [if_neg q] at hQ
    rw [show w32 ((g : Int) - 16) = ((g - 16 : Nat) : Int) by rw [w32_i (by omega) (by omega)]; omega]
    exact hQ
def eF (M M' : (Nat → Int → Int)) : Prop := ∀ c, c ≠ 176 → c ≠ 177 → c ≠ 178 → M' c = M c
theorem eF_up {M0 : (Nat → Int → Int)} (h : eF M0 M) {c : Nat} (hc : c = 176 ∨ c = 177 ∨ c = 178) {i v : Int} : eF M0 (am_up M c i v) := fun k a b g => by rw [up_nc _ _ _ _ (by omega)]; exact h k a b g
/-- one round -/
theorem le_pass (hW : gW B) {M0 : (Nat → Int → Int)} (hB0 : rb (M0 174) 0 B) (hg0 : bs (M0 173 12) (gGood B)) {a : Int} (hk : ∀ M', eF M0 M' → eS B (e0 B) (M' 176) (n + 1) → eS B (e1 B) (M' 177) (n + 1) → am_x am_P am_gg (d + 3) am_k263 0 Q 30 [some (.inr (.inr 174)), some (.inl ((w32 (a + 1)))), none, none] [] M' 0 0) (hf : eF M0 M) (h1 : eS B (e0 B) (M 176) n) (h2 : eS B (e1 B) (M 177) n) : am_x am_P am_gg (d + 3) am_k263 0 Q 38 [some (.inr (.inr 174)), some (.inl (a)), some (.inl (((0 : Nat) : Int))), none] [] M 0 0 := by
  have hn := hW.1
  refine p_for (S := (Nat → Int → Int)) (X := fun i M => am_x am_P am_gg (d + 3) am_k263 0 Q 38 [some (.inr (.inr 174)), some (.inl (a)), some (.inl (i)), none] [] M 0 0) (B 0) (fun b M => eF M0 M ∧ eP B (e0 B) (M 176) n b ∧ eP B (e1 B) (M 177) n b) ?_ ?_ 0 M (by omega) ⟨hf, eP_0 h1, eP_0 h2⟩
  · intro M1 q
    obtain ⟨f, p1, p2⟩ := q
    have hB : rb (M1 174) 0 B := by rw [f 174 (by decide) (by decide) (by decide)]; exact hB0
    refine (h_263_38_174 _ _ _ _ _).mpr (m_rules hB ?_)
    rw [if_neg (by omega)]
    refine am_x_le [some (.inr (.inr 174)), some (.inl ((w32 (a + 1)))), none, none] (am_lb_le _ _ ⟨rfl, rfl, trivial⟩) ?_
    exact hk M1 f (eP_full p1) (eP_full p2)
  · intro b M1 hb q k
    obtain ⟨f, p1, p2⟩ := q
    have hB : rb (M1 174) 0 B := by rw [f 174 (by decide) (by decide) (by decide)]; exact hB0
    have hg : bs (M1 173 12) (gGood B) := by rw [f 173 (by decide) (by decide) (by decide)]; exact hg0
    obtain ⟨hsy, hz, hz4, -, hs⟩ := hW.2.2.2.1 b hb
    refine (h_263_38_174 _ _ _ _ _).mpr (m_rules hB ?_)
    rw [if_pos (by omega)]
    refine m_isSnd hW hB hg hb ?_ ?_
    · intro hS
      rw [if_neg (by omega)]
      refine m_sym hB (by omega) ?_
      rw [if_pos (by omega)]
      refine m_sign (i := 0) hB (by omega) (by omega) (m_firstBy (hs 0 (by omega)) ?_)
      rw [if_pos (by omega)]
      have hB2 : rb (am_up M1 176 (gsy B b : Int) (i_or (M1 176 (gsy B b : Int)) (sv (M1 176) (gsg B b 0))) 174) 0 B := by rw [up_nc _ _ _ _ (by decide)]; exact hB
      refine m_sym hB2 (by omega) ?_
      rw [if_pos (by omega)]
      refine m_size hB2 (by omega) ?_
      rw [show w32 ((gsz B b : Int) - 1) = ((gsz B b - 1 : Nat) : Int) by rw [w32_i (by omega) (by omega)]; omega]
      refine m_sign hB2 (by omega) (by omega) (m_lastBy (hs _ (by omega)) ?_)
      rw [if_pos (by omega)]
      rw [w32_s (by omega)]
      refine k _ ⟨eF_up (eF_up f (by omega)) (by omega), ?_, ?_⟩
      · refine eP_step hW (e0_lt hW) hb hS p1 (fun j => ?_)
        rw [up_nc _ _ _ _ (by decide), up_ci]; rfl
      · refine eP_step hW (e1_lt hW) hb hS p2 (fun j => ?_)
        rw [up_ci, up_nc _ _ _ _ (by decide)]; rfl
    · intro hS
      rw [if_pos (by omega)]
      rw [w32_s (by omega)]
      exact k _ ⟨f, eP_skip p1 hS, eP_skip p2 hS⟩
/-- both rows of ends -/
theorem le_ends (hW : gW B) {M0 : (Nat → Int → Int)} (hB0 : rb (M0 174) 0 B) (hg0 : bs (M0 173 12) (gGood B)) (hk : ∀ M', eF M0 M' → (∀ s : Nat, s < 8 → bs (M' 176 (s : Int)) (gE B (e0 B) s)) → (∀ s : Nat, s < 8 → bs (M' 177 (s : Int)) (gE B (e1 B) s)) → am_x am_P am_gg (d + 3) am_k263 0 Q 123 [some (.inr (.inr 174)), some (.inl (((0 : Nat) : Int))), none, none] [] M' 0 0) : am_s am_P am_gg (d + 4) 263 [.inr (.inr 174)] M0 Q := by
  refine (v_263_174 _ _ _).mpr ?_
  refine p_for (S := (Nat → Int → Int)) (X := fun i M => am_x am_P am_gg (d + 3) am_k263 0 Q 2 [some (.inr (.inr 174)), some (.inl (i)), none, none] [] M 0 0) 8 (fun b M => eF M0 M ∧ ∀ s : Nat, s < b → M 176 (s : Int) = 0 ∧ M 177 (s : Int) = 0) ?_ ?_ 0 M0 (by omega) ⟨fun _ _ _ _ => rfl, fun s hs => absurd hs (Nat.not_lt_zero s)⟩
  · intro M1 ⟨f, z⟩
    refine (h_263_2_174 _ _ _ _).mpr ?_
    rw [if_neg (by omega)]
    refine p_for (S := (Nat → Int → Int)) (X := fun i M => am_x am_P am_gg (d + 3) am_k263 0 Q 30 [some (.inr (.inr 174)), some (.inl (i)), none, none] [] M 0 0) 8 (fun n M => eF M0 M ∧ eS B (e0 B) (M 176) n ∧ eS B (e1 B) (M 177) n) ?_ ?_ 0 M1 (by omega) ⟨f, eS_0 (fun s hs => (z s hs).1), eS_0 (fun s hs => (z s hs).2)⟩
    · intro M2 ⟨f, s1, s2⟩
      refine (h_263_30_174 _ _ _ _).mpr ?_
      rw [if_neg (by omega)]
      exact hk M2 f (fun s hs => eS_fin hW (by omega) s1 hs) (fun s hs => eS_fin hW (by omega) s2 hs)
    · intro n M2 hn8 ⟨f, s1, s2⟩ k
      refine (h_263_30_174 _ _ _ _).mpr ?_
      rw [if_pos (by omega)]
      refine le_pass hW hB0 hg0 (fun M' f' s1' s2' => ?_) f s1 s2
      rw [w32_s (by omega)]
      exact k M' ⟨f', s1', s2'⟩
  · intro i M1 hi ⟨f, z⟩ k
    refine (h_263_2_174 _ _ _ _).mpr ?_
    rw [if_pos (by omega)]
    rw [if_pos (by omega)]
    rw [if_pos (by omega)]
    rw [w32_s (by omega)]
    refine k _ ⟨eF_up (eF_up f (by omega)) (by omega), fun s hs => ?_⟩
    rw [up_nc _ _ _ _ (by decide), up_ci, up_ci, up_nc _ _ _ _ (by decide)]
    by_cases q : s = i
    · rw [if_pos (by omega), if_pos (by omega)]; exact ⟨rfl, rfl⟩
    · rw [if_neg (by omega), if_neg (by omega)]; exact z s (by omega)
/-- what stands behind a letter, by the rules below a -/
def bsd (B : Nat → Nat) (a l l' : Nat) : Prop := ∃ r i, r < a ∧ gUsd B r ∧ i + 1 < gsz B r ∧ gEs B (e1 B) (gsg B r i) l ∧ gEs B (e0 B) (gsg B r (i + 1)) l'
def bse (B : Nat → Nat) (a b l l' : Nat) : Prop := bsd B a l l' ∨ ∃ i, i < b ∧ gUsd B a ∧ i + 1 < gsz B a ∧ gEs B (e1 B) (gsg B a i) l ∧ gEs B (e0 B) (gsg B a (i + 1)) l'
theorem bse_0 {a l l' : Nat} : bsd B a l l' ↔ bse B a 0 l l' := ⟨Or.inl, fun q => q.elim id (fun ⟨i, h, _⟩ => absurd h (Nat.not_lt_zero i))⟩
theorem bse_full {a b l l' : Nat} (hb : ¬ gUsd B a ∨ gsz B a ≤ b + 1) : bse B a b l l' ↔ bsd B (a + 1) l l' := by
  constructor
  · rintro (⟨r, i, h, q⟩ | ⟨i, h, q1, q2, q3⟩)
    · exact ⟨r, i, by omega, q⟩
    · exact ⟨a, i, by omega, q1, q2, q3⟩
  · rintro ⟨r, i, h, q1, q2, q3⟩
    by_cases e : r = a
    · subst e
      rcases hb with hb | hb
      · exact absurd q1 hb
      · exact Or.inr ⟨i, by omega, q1, q2, q3⟩
    · exact Or.inl ⟨r, i, by omega, q1, q2, q3⟩
theorem bse_s {a b l l' : Nat} (hU : gUsd B a) (hb : b + 1 < gsz B a) : bse B a (b + 1) l l' ↔ bse B a b l l' ∨ (gEs B (e1 B) (gsg B a b) l ∧ gEs B (e0 B) (gsg B a (b + 1)) l') := by
  constructor
  · rintro (q | ⟨i, h, q1, q2, q3⟩)
    · exact Or.inl (Or.inl q)
    · by_cases e : i = b
      · subst e; exact Or.inr q3
      · exact Or.inl (Or.inr ⟨i, by omega, q1, q2, q3⟩)
  · rintro ((q | ⟨i, h, q⟩) | q)
    · exact Or.inl q
    · exact Or.inr ⟨i, by omega, q⟩
    · exact Or.inr ⟨b, by omega, hU, hb, q⟩
theorem bsd_fin {l l' : Nat} : bsd B (B 0) l l' ↔ gBes B l l' := ⟨fun ⟨r, i, _, q⟩ => ⟨r, i, q⟩, fun ⟨r, i, q⟩ => ⟨r, i, q.1.1, q⟩⟩
theorem m_laysEnds (hW : gW B) {M0 : (Nat → Int → Int)} (hB0 : rb (M0 174) 0 B) (hg0 : bs (M0 173 12) (gGood B)) (hu0 : bs (M0 173 14) (gUsd B)) (hQ : ∀ M', eF M0 M' → (∀ s : Nat, s < 8 → bs (M' 176 (s : Int)) (gE B (e0 B) s)) → (∀ s : Nat, s < 8 → bs (M' 177 (s : Int)) (gE B (e1 B) s)) → (∀ l : Nat, l < 16 → bs (M' 178 (l : Int)) (gBes B l)) → Q 0 M') : am_s am_P am_gg (d + 4) 263 [.inr (.inr 174)] M0 Q := by
  have hn := hW.1
  refine le_ends hW hB0 hg0 (fun M1 f1 a1 b1 => ?_)
  have keep : ∀ M', (∀ c, c ≠ 178 → M' c = M1 c) → eF M0 M' ∧ rb (M' 174) 0 B ∧ bs (M' 173 14) (gUsd B) ∧ (∀ s : Nat, s < 8 → bs (M' 176 (s : Int)) (gE B (e0 B) s)) ∧ (∀ s : Nat, s < 8 → bs (M' 177 (s : Int)) (gE B (e1 B) s)) := by
    intro M' h
    refine ⟨fun c x y z => by rw [h c z]; exact f1 c x y z, ?_, ?_, ?_, ?_⟩
    · rw [h 174 (by decide), f1 174 (by decide) (by decide) (by decide)]; exact hB0
    · rw [h 173 (by decide), f1 173 (by decide) (by decide) (by decide)]; exact hu0
    · rw [h 176 (by decide)]; exact a1
    · rw [h 177 (by decide)]; exact b1
  have upk : ∀ (M' : (Nat → Int → Int)) (i v : Int), (∀ c, c ≠ 178 → M' c = M1 c) → ∀ c, c ≠ 178 → am_up M' 178 i v c = M1 c := fun M' i v h c hc => by rw [up_nc _ _ _ _ hc]; exact h c hc
  refine p_for (S := (Nat → Int → Int)) (X := fun i M => am_x am_P am_gg (d + 3) am_k263 0 Q 123 [some (.inr (.inr 174)), some (.inl (i)), none, none] [] M 0 0) 16 (fun b M => (∀ c, c ≠ 178 → M c = M1 c) ∧ ∀ s : Nat, s < b → M 178 (s : Int) = 0) ?_ ?_ 0 M1 (by omega) ⟨fun _ _ => rfl, fun s hs => absurd hs (Nat.not_lt_zero s)⟩
  · intro M2 ⟨f2, z⟩
    refine (h_263_123_174 _ _ _ _).mpr ?_
    rw [if_neg (by omega)]
    refine p_for (S := (Nat → Int → Int)) (X := fun i M => am_x am_P am_gg (d + 3) am_k263 0 Q 144 [some (.inr (.inr 174)), some (.inl (i)), none, none] [] M 0 0) (B 0) (fun a M => (∀ c, c ≠ 178 → M c = M1 c) ∧ ∀ l : Nat, l < 16 → bs (M 178 (l : Int)) (bsd B a l)) ?_ ?_ 0 M2 (by omega) ⟨f2, fun l hl => by rw [z l hl]; exact bs_cong bs_0 (fun j => ⟨fun q => q.elim, fun ⟨r, i, h, _⟩ => absurd h (Nat.not_lt_zero r)⟩)⟩
    · intro M3 ⟨f3, z3⟩
      obtain ⟨k1, k2, k3, k4, k5⟩ := keep M3 f3
      refine (h_263_144_174 _ _ _ _).mpr (m_rules k2 ?_)
      rw [if_neg (by omega)]
      exact hQ M3 k1 k4 k5 (fun l hl => bs_cong (z3 l hl) (fun j => bsd_fin))
    · intro a M3 ha ⟨f3, z3⟩ k
      obtain ⟨k1, k2, k3, k4, k5⟩ := keep M3 f3
      obtain ⟨hsy, hz, hz4, -, hs⟩ := hW.2.2.2.1 a ha
      refine (h_263_144_174 _ _ _ _).mpr (m_rules k2 ?_)
      rw [if_pos (by omega)]
      refine p_for (S := (Nat → Int → Int)) (X := fun i M => am_x am_P am_gg (d + 3) am_k263 0 Q 154 [some (.inr (.inr 174)), some (.inl ((a : Int))), some (.inl (i)), none] [] M 0 0) (gsz B a - 1) (fun b M => (∀ c, c ≠ 178 → M c = M1 c) ∧ ∀ l : Nat, l < 16 → bs (M 178 (l : Int)) (bse B a b l)) ?_ ?_ 0 M3 (by omega) ⟨f3, fun l hl => bs_cong (z3 l hl) (fun j => bse_0)⟩
      · intro M4 ⟨f4, z4⟩
        obtain ⟨k1, k2, k3, k4, k5⟩ := keep M4 f4
        refine (h_263_154_174 _ _ _ _ _).mpr (m_bs k3 (by omega) ?_ ?_)
        · intro hU
          rw [if_neg (by omega)]
          refine m_size k2 (by omega) ?_
          rw [w32_s (by omega)]
          rw [if_neg (by omega)]
          rw [w32_s (by omega)]
          refine am_x_le [some (.inr (.inr 174)), some (.inl (((a + 1 : Nat) : Int))), none, none] (am_lb_le _ _ ⟨rfl, rfl, trivial⟩) ?_
          exact k M4 ⟨f4, fun l hl => bs_cong (z4 l hl) (fun j => bse_full (Or.inr (by omega)))⟩
        · intro hU
          rw [if_pos (by omega)]
          rw [w32_s (by omega)]
          refine am_x_le [some (.inr (.inr 174)), some (.inl (((a + 1 : Nat) : Int))), none, none] (am_lb_le _ _ ⟨rfl, rfl, trivial⟩) ?_
          exact k M4 ⟨f4, fun l hl => bs_cong (z4 l hl) (fun j => bse_full (Or.inl hU))⟩
      · intro b M4 hb ⟨f4, z4⟩ k'
        obtain ⟨k1, k2, k3, k4, k5⟩ := keep M4 f4
        refine (h_263_154_174 _ _ _ _ _).mpr (m_bs k3 (by omega) ?_ ?_)
        · intro hU
          rw [if_neg (by omega)]
          refine m_size k2 (by omega) ?_
          rw [w32_s (by omega)]
          rw [if_pos (by omega)]
          refine p_for (S := (Nat → Int → Int)) (X := fun i M => am_x am_P am_gg (d + 3) am_k263 0 Q 178 [some (.inr (.inr 174)), some (.inl ((a : Int))), some (.inl ((b : Int))), some (.inl (i))] [] M 0 0) 16 (fun c M => (∀ c, c ≠ 178 → M c = M1 c) ∧ ∀ l : Nat, l < 16 → bs (M 178 (l : Int)) (fun l' => bse B a b l l' ∨ l < c ∧ gEs B (e1 B) (gsg B a b) l ∧ gEs B (e0 B) (gsg B a (b + 1)) l')) ?_ ?_ 0 M4 (by omega) ⟨f4, fun l hl => bs_cong (z4 l hl) (fun j => ⟨Or.inl, fun q => q.elim id (fun q => absurd q.1 (Nat.not_lt_zero l))⟩)⟩
          · intro M5 ⟨f5, z5⟩
            refine (h_263_178_174 _ _ _ _ _ _).mpr ?_
            rw [if_neg (by omega)]
            rw [w32_s (by omega)]
            refine am_x_le [some (.inr (.inr 174)), some (.inl ((a : Int))), some (.inl (((b + 1 : Nat) : Int))), none] (am_lb_le _ _ ⟨rfl, rfl, rfl, trivial⟩) ?_
            exact k' M5 ⟨f5, fun l hl => bs_cong (z5 l hl) (fun j => ⟨fun q => (bse_s hU (by omega)).mpr (q.elim Or.inl (fun q => Or.inr q.2)), fun q => ((bse_s hU (by omega)).mp q).elim Or.inl (fun q => Or.inr ⟨hl, q⟩)⟩)⟩
          · intro c M5 hc ⟨f5, z5⟩ k2'
            obtain ⟨k1, k2, k3, k4, k5⟩ := keep M5 f5
            refine (h_263_178_174 _ _ _ _ _ _).mpr ?_
            rw [if_pos (by omega)]
            refine m_sign k2 (by omega) (by omega) (m_lastBy (hs b (by omega)) (m_bs (sv_fin (hs b (by omega)) k5) (by omega) ?_ ?_))
            · intro hl
              rw [if_neg (by omega)]
              rw [if_pos (by omega)]
              rw [w32_s (by omega)]
              refine m_sign k2 (by omega) (by omega) (m_firstBy (hs (b + 1) (by omega)) ?_)
              rw [if_pos (by omega)]
              rw [w32_s (by omega)]
              refine k2' _ ⟨upk _ _ _ f5, fun l hl16 => ?_⟩
              rw [up_ci]
              by_cases q : l = c
              · subst q
                rw [if_pos rfl]
                refine bs_cong (bs_or (z5 l hl16) (sv_fin (hs (b + 1) (by omega)) k4)) (fun j => ⟨?_, ?_⟩)
                · rintro ((z | z) | z)
                  · exact Or.inl z
                  · exact Or.inr ⟨by omega, z.2⟩
                  · exact Or.inr ⟨by omega, hl, z⟩
                · rintro (z | z)
                  · exact Or.inl (Or.inl z)
                  · exact Or.inr z.2.2
              · rw [if_neg (by omega)]
                exact bs_cong (z5 l hl16) (fun j => or_congr Iff.rfl ⟨fun z => ⟨by omega, z.2⟩, fun z => ⟨by omega, z.2⟩⟩)
            · intro hl
              rw [if_pos (by omega)]
              rw [w32_s (by omega)]
              refine k2' _ ⟨f5, fun l hl16 => bs_cong (z5 l hl16) (fun j => or_congr Iff.rfl ⟨fun z => ⟨by omega, z.2⟩, fun z => ⟨?_, z.2⟩⟩)⟩
              by_cases q : l = c
              · subst q; exact absurd z.2.1 hl
              · omega
        · intro hU
          rw [if_pos (by omega)]
          rw [w32_s (by omega)]
          refine am_x_le [some (.inr (.inr 174)), some (.inl (((a + 1 : Nat) : Int))), none, none] (am_lb_le _ _ ⟨rfl, rfl, trivial⟩) ?_
          exact k M4 ⟨f4, fun l hl => bs_cong (z4 l hl) (fun j => bse_full (Or.inl hU))⟩
  · intro i M2 hi ⟨f2, z⟩ k
    refine (h_263_123_174 _ _ _ _).mpr ?_
    rw [if_pos (by omega)]
    rw [if_pos (by omega)]
    rw [w32_s (by omega)]
    refine k _ ⟨upk _ _ _ f2, fun s hs => ?_⟩
    rw [up_ci]
    by_cases q : s = i
    · rw [if_pos (by omega)]
    · rw [if_neg (by omega)]; exact z s (by omega)
end S68
