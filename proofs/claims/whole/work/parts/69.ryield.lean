/-! YIELDS: what they must be; how the reference finds them -/
def sm (f : Nat → Nat) : Nat → Nat
  | 0 => 0
  | n + 1 => sm f n + f n
theorem sm_s {f : Nat → Nat} {n : Nat} : sm f (n + 1) = sm f n + f n := rfl
theorem sm_congr {f g : Nat → Nat} : ∀ {n : Nat}, (∀ i, i < n → f i = g i) → sm f n = sm g n
  | 0, _ => rfl
  | n + 1, h => by unfold sm; rw [sm_congr (fun i hi => h i (by omega)), h n (by omega)]
theorem sm_mono {f g : Nat → Nat} : ∀ {n : Nat}, (∀ i, i < n → f i ≤ g i) → sm f n ≤ sm g n
  | 0, _ => Nat.le_refl 0
  | n + 1, h => by unfold sm; have := sm_mono (f := f) (g := g) (n := n) (fun i hi => h i (by omega)); have := h n (by omega); omega
theorem sm_get {f : Nat → Nat} : ∀ {n i : Nat}, i < n → f i ≤ sm f n
  | n + 1, i, h => by
    unfold sm
    by_cases e : i = n
    · subst e; omega
    · have := sm_get (f := f) (n := n) (i := i) (by omega); omega
theorem sm_lin {f g : Nat → Nat} (a b : Nat) : ∀ {n : Nat}, sm (fun i => a * f i + b * g i) n = a * sm f n + b * sm g n
  | 0 => rfl
  | n + 1 => by unfold sm; rw [sm_lin a b (n := n), Nat.mul_add, Nat.mul_add]; omega
theorem sm_const (a : Nat) : ∀ n : Nat, sm (fun _ => a) n = a * n
  | 0 => rfl
  | n + 1 => by unfold sm; rw [sm_const a n, Nat.mul_succ]
theorem sm_le {f : Nat → Nat} {a : Nat} : ∀ {n : Nat}, (∀ i, i < n → f i ≤ a) → sm f n ≤ a * n := by
  intro n h
  have := sm_mono (f := f) (g := fun _ => a) (n := n) h
  rwa [sm_const] at this
def NK : Nat := 2147483647
/-- a sign's letters and weights, its rules, by the keys of symbols -/
def cq (K : Nat → Nat) (g : Nat) : Nat := if g < 8 then K g / 65536 else 1
def mq (K : Nat → Nat) (g : Nat) : Nat := if g < 8 then K g / 16 % 4096 else 0
/-- a row but for one place -/
def rcb (B K : Nat → Nat) (r : Nat) (b : Int) : Nat := gwt B r + sm (fun i => if (i : Int) = b then 0 else cq K (gsg B r i)) (gsz B r)
def rmb (B K : Nat → Nat) (r : Nat) (b : Int) : Nat := 1 + sm (fun i => if (i : Int) = b then 0 else mq K (gsg B r i)) (gsz B r)
def avb (B K : Nat → Nat) (r : Nat) (b : Int) : Prop := ∀ i : Nat, i < gsz B r → (i : Int) ≠ b → gsg B r i < 8 → K (gsg B r i) ≠ NK
def rc (B K : Nat → Nat) (r : Nat) : Nat := rcb B K r (-1)
def rm (B K : Nat → Nat) (r : Nat) : Nat := rmb B K r (-1)
def ky (B K : Nat → Nat) (r : Nat) : Nat := (rc B K r * 4096 + rm B K r) * 16 + r
def yOK (B K : Nat → Nat) (r : Nat) : Prop := r < B 0 ∧ gon B r = true ∧ avb B K r (-1) ∧ rc B K r ≤ 200
def ybd (pos K : Nat → Nat) : Prop := ∀ s, s < 8 → K s ≠ NK → 1 ≤ K s / 65536 ∧ K s / 65536 ≤ 200 ∧ K s / 16 % 4096 + 15 ≤ 16 * (K s / 65536) + pos s
def ypos (B pos : Nat → Nat) : Prop := (∀ s, pos s < 8) ∧ ∀ r, r < B 0 → gsz B r = 1 → gsg B r 0 < 8 → pos (gsg B r 0) < pos (gsy B r)
/-- the keys of YIELDS -/
def ySol (B pos K : Nat → Nat) : Prop := ybd pos K ∧ (∀ s, s < 8 → K s ≠ NK → ∃ r, yOK B K r ∧ gsy B r = s ∧ K s = ky B K r) ∧ ∀ r, yOK B K r → K (gsy B r) ≤ ky B K r
section S69
variable {B K K' pos : Nat → Nat} {r : Nat} {b : Int}
theorem rc_eq : rc B K r = gwt B r + sm (fun i => cq K (gsg B r i)) (gsz B r) := by
  unfold rc rcb; congr 1 <;> exact sm_congr (fun i _ => by rw [if_neg (by omega)])
theorem rm_eq : rm B K r = 1 + sm (fun i => mq K (gsg B r i)) (gsz B r) := by
  unfold rm rmb; congr 1 <;> exact sm_congr (fun i _ => by rw [if_neg (by omega)])
theorem av_all : avb B K r (-1) ↔ gAll B (fun s => K s ≠ NK) r := ⟨fun h i a c => h i a (by omega) c, fun h i a _ c => h i a c⟩
theorem rq_eq : rc B K r * 4096 + rm B K r = 4096 * gwt B r + 1 + sm (fun i => 4096 * cq K (gsg B r i) + 1 * mq K (gsg B r i)) (gsz B r) := by
  rw [rc_eq, rm_eq, sm_lin]; omega
theorem kcm_eq {g : Nat} (h : g < 8) : 4096 * cq K g + 1 * mq K g = K g / 16 := by
  unfold cq mq; rw [if_pos h, if_pos h]; omega
theorem rq_comp {i : Nat} (hi : i < gsz B r) (h8 : gsg B r i < 8) : K (gsg B r i) / 16 + 1 ≤ rc B K r * 4096 + rm B K r := by
  rw [rq_eq]
  have := sm_get (f := fun i => 4096 * cq K (gsg B r i) + 1 * mq K (gsg B r i)) hi
  rw [kcm_eq h8] at this
  omega
theorem rq_mono (h : ∀ i, i < gsz B r → gsg B r i < 8 → K' (gsg B r i) ≤ K (gsg B r i)) : rc B K' r * 4096 + rm B K' r ≤ rc B K r * 4096 + rm B K r := by
  rw [rq_eq, rq_eq]
  have := sm_mono (f := fun i => 4096 * cq K' (gsg B r i) + 1 * mq K' (gsg B r i)) (g := fun i => 4096 * cq K (gsg B r i) + 1 * mq K (gsg B r i)) (n := gsz B r) (fun i hi => by
    by_cases h8 : gsg B r i < 8
    · rw [kcm_eq h8, kcm_eq h8]; have := h i hi h8; omega
    · unfold cq mq; rw [if_neg h8, if_neg h8, if_neg h8, if_neg h8]; omega)
  omega
theorem row_congr (h : ∀ i, i < gsz B r → gsg B r i < 8 → K' (gsg B r i) = K (gsg B r i)) : rc B K' r = rc B K r ∧ rm B K' r = rm B K r := by
  rw [rc_eq, rc_eq, rm_eq, rm_eq]
  constructor
  · congr 1; refine sm_congr (fun i hi => ?_)
    unfold cq
    by_cases h8 : gsg B r i < 8
    · rw [if_pos h8, if_pos h8, h i hi h8]
    · rw [if_neg h8, if_neg h8]
  · congr 1; refine sm_congr (fun i hi => ?_)
    unfold mq
    by_cases h8 : gsg B r i < 8
    · rw [if_pos h8, if_pos h8, h i hi h8]
    · rw [if_neg h8, if_neg h8]
/-- a row has not too many rules -/
theorem yb_row (hW : gW B) (hp : ypos B pos) (hb : ybd pos K) (hr : r < B 0) (ha : avb B K r (-1)) : 1 ≤ rc B K r ∧ rm B K r + 15 ≤ 16 * rc B K r + pos (gsy B r) := by
  obtain ⟨-, hz, hz4, -, hs⟩ := hW.2.2.2.1 r hr
  have one : ∀ i, i < gsz B r → 1 ≤ cq K (gsg B r i) ∧ mq K (gsg B r i) + 8 ≤ 16 * cq K (gsg B r i) := by
    intro i hi
    unfold cq mq
    by_cases h8 : gsg B r i < 8
    · rw [if_pos h8, if_pos h8]
      have := hb _ h8 (ha i hi (by omega) h8)
      have := hp.1 (gsg B r i)
      omega
    · rw [if_neg h8, if_neg h8]; omega
  rw [rc_eq, rm_eq]
  have h0 := sm_get (f := fun i => cq K (gsg B r i)) (n := gsz B r) (i := 0) (by omega)
  have h00 := (one 0 (by omega)).1
  refine ⟨by omega, ?_⟩
  by_cases e : gsz B r = 1
  · rw [e]
    show 1 + (0 + mq K (gsg B r 0)) + 15 ≤ 16 * (gwt B r + (0 + cq K (gsg B r 0))) + _
    unfold cq mq
    by_cases h8 : gsg B r 0 < 8
    · rw [if_pos h8, if_pos h8]
      have := hb _ h8 (ha 0 (by omega) (by omega) h8)
      have := hp.2 r hr e h8
      omega
    · rw [if_neg h8, if_neg h8]; omega
  · have h1 := sm_mono (f := fun i => 1 * mq K (gsg B r i) + 1 * 8) (g := fun i => 16 * cq K (gsg B r i) + 0 * 0) (n := gsz B r) (fun i hi => by have := (one i hi).2; omega)
    rw [sm_lin (g := fun _ => 8) 1 1, sm_lin (g := fun _ => 0) 16 0, sm_const] at h1
    omega
theorem ky_dec (hr : r < 16) (hm : rm B K r < 4096) : ky B K r / 65536 = rc B K r ∧ ky B K r / 16 % 4096 = rm B K r ∧ ky B K r % 16 = r := by
  unfold ky; omega
theorem ky_lt (hr : r < 16) (hm : rm B K r < 4096) (hc : rc B K r ≤ 200) : ky B K r < 13172736 := by unfold ky; omega
theorem yOK_b (hW : gW B) (hp : ypos B pos) (hb : ybd pos K) (h : yOK B K r) : r < 16 ∧ rm B K r < 4096 := by
  have h1 := hW.1
  have h2 := yb_row hW hp hb h.1 h.2.2.1
  have h3 := hp.1 (gsy B r)
  have h4 := h.2.2.2
  have h5 := h.1
  omega
theorem y_uniq_le (hW : gW B) (hp : ypos B pos) (h : ySol B pos K) (h' : ySol B pos K') : ∀ v s, s < 8 → K s < v → v ≤ NK → K' s ≤ K s := by
  intro v
  induction v using Nat.strongRecOn with
  | ind v ih =>
    intro s hs hv hN
    obtain ⟨r, ok, hsy, hk⟩ := h.2.1 s hs (by omega)
    obtain ⟨b16, bm⟩ := yOK_b hW hp h.1 ok
    have comp : ∀ i, i < gsz B r → gsg B r i < 8 → K' (gsg B r i) ≤ K (gsg B r i) := by
      intro i hi h8
      have := rq_comp (K := K) hi h8
      unfold ky at hk
      exact ih (K (gsg B r i) + 1) (by omega) _ h8 (by omega) (by omega)
    have hq := rq_mono comp
    have av' : avb B K' r (-1) := fun i hi _ h8 => by
      have := comp i hi h8
      have := rq_comp (K := K) hi h8
      unfold ky at hk
      omega
    have b' := yb_row hW hp h'.1 ok.1 av'
    have ok' : yOK B K' r := ⟨ok.1, ok.2.1, av', by have := ok.2.2.2; omega⟩
    have := h'.2.2 r ok'
    rw [hsy] at this
    rw [hk]
    have key : ∀ a c x : Nat, c ≤ a → x ≤ c * 16 + r → x ≤ a * 16 + r := fun a c x p q => by omega
    exact key _ _ _ hq this
theorem y_uniq (hW : gW B) (hp : ypos B pos) (h : ySol B pos K) (h' : ySol B pos K') (hN : ∀ s, s < 8 → K s ≤ NK) (hN' : ∀ s, s < 8 → K' s ≤ NK) {s : Nat} (hs : s < 8) : K s = K' s := by
  have a : K s < NK → K' s ≤ K s := fun q => y_uniq_le hW hp h h' NK s hs q (Nat.le_refl _)
  have b : K' s < NK → K s ≤ K' s := fun q => y_uniq_le hW hp h' h NK s hs q (Nat.le_refl _)
  have := hN s hs
  have := hN' s hs
  omega
/-- the reference's rows of YIELDS -/
def yR (K : Nat → Nat) (M : (Nat → Int → Int)) : Prop := ∀ s : Nat, s < 8 → (K s = NK ∧ M 179 (s : Int) = -1) ∨ (K s < NK ∧ M 179 (s : Int) = ((K s / 65536 : Nat) : Int) ∧ M 180 (s : Int) = ((K s / 16 % 4096 : Nat) : Int) ∧ M 181 (s : Int) = ((K s % 16 : Nat) : Int))
theorem NK_eq : NK = 2147483647 := rfl
end S69
section S69b
variable {B K pos : Nat → Nat} {M : (Nat → Int → Int)} {d : Nat} {Q : Int → (Nat → Int → Int) → Prop} {r : Nat} {b : Int}
theorem m_sums (hW : gW B) (hB : rb (M 174) 0 B) (hy : yR K M) (hr : r < B 0) (h0 : ∀ M', fr3 26 27 M M' → ¬ avb B K r b → Q 0 M') (h1 : ∀ M', fr3 26 27 M M' → avb B K r b → M' 173 26 = (rcb B K r b : Int) → M' 173 27 = (rmb B K r b : Int) → Q 1 M') : am_s am_P am_gg (d + 2) 264 [.inr (.inr 174), .inl (r : Int), .inl b] M Q := by
  have hn := hW.1
  obtain ⟨-, hz, hz4, hwt, hs⟩ := hW.2.2.2.1 r hr
  have hN := NK_eq
  refine (v_264_174 _ _ _ _ _).mpr ?_
  rw [show w32 (35 + (r : Int)) = ((35 + r : Nat) : Int) by rw [w32_i (by omega) (by omega)]; omega]
  rw [if_pos (by omega)]
  rw [show M 174 ((35 + r : Nat) : Int) = (gwt B r : Int) from hB.at (by omega)]
  have bd : ∀ i, i ≤ 4 → sm (fun i => if (i : Int) = b then 0 else cq K (gsg B r i)) i ≤ 131072 ∧ sm (fun i => if (i : Int) = b then 0 else mq K (gsg B r i)) i ≤ 16384 := by
    intro i hi
    have a1 := sm_le (f := fun i => if (i : Int) = b then 0 else cq K (gsg B r i)) (a := 32768) (n := i) (fun j hj => by
      split
      · omega
      · unfold cq; split
        · rename_i h8
          rcases hy _ h8 with q | q <;> omega
        · omega)
    have a2 := sm_le (f := fun i => if (i : Int) = b then 0 else mq K (gsg B r i)) (a := 4096) (n := i) (fun j hj => by
      split
      · omega
      · unfold mq; split <;> omega)
    omega
  refine p_for (S := (Nat → Int → Int)) (X := fun i M => am_x am_P am_gg (d + 1) am_k264 4 Q 20 [some (.inr (.inr 174)), some (.inl ((r : Int))), some (.inl (b)), some (.inl (i)), none] [] M 0 0) (gsz B r) (fun i M1 => fr3 26 27 M M1 ∧ M1 173 26 = ((gwt B r + sm (fun i => if (i : Int) = b then 0 else cq K (gsg B r i)) i : Nat) : Int) ∧ M1 173 27 = ((1 + sm (fun i => if (i : Int) = b then 0 else mq K (gsg B r i)) i : Nat) : Int) ∧ ∀ j : Nat, j < i → (j : Int) ≠ b → gsg B r j < 8 → K (gsg B r j) ≠ NK) ?_ ?_ 0 _ (by omega) ?_
  · intro M1 ⟨f, e1, e2, hI⟩
    have hB1 : rb (M1 174) 0 B := by rw [f.1 174 (by decide)]; exact hB
    refine (h_264_20_174 _ _ _ _ _ _).mpr (m_size hB1 (by omega) ?_)
    rw [if_neg (by omega)]
    exact h1 M1 f hI e1 e2
  · intro i M1 hi ⟨f, e1, e2, hI⟩ k
    have hB1 : rb (M1 174) 0 B := by rw [f.1 174 (by decide)]; exact hB
    have c179 : M1 179 = M 179 := f.1 179 (by decide)
    have c180 : M1 180 = M 180 := f.1 180 (by decide)
    have hsi := hs i hi
    have bd0 := bd i (by omega)
    have bd1 := bd (i + 1) (by omega)
    refine (h_264_20_174 _ _ _ _ _ _).mpr (m_size hB1 (by omega) ?_)
    rw [if_pos (by omega)]
    refine m_sign hB1 (by omega) (by omega) ?_
    rw [w32_s (by omega)]
    refine @p_if _ _ _ _ ?_ ?_
    · intro e
      refine am_x_le [some (.inr (.inr 174)), some (.inl ((r : Int))), some (.inl (b)), some (.inl (((i + 1 : Nat) : Int))), none] (am_lb_le _ _ ⟨rfl, rfl, rfl, rfl, trivial⟩) ?_
      refine k M1 ⟨f, ?_, ?_, fun j hj hjb h8 => ?_⟩
      · rw [e1, sm_s, if_pos e]; omega
      · rw [e2, sm_s, if_pos e]; omega
      · by_cases q : j = i
        · subst q; exact absurd e hjb
        · exact hI j (by omega) hjb h8
    · intro e
      have step : ∀ (cc mm : Nat), cc = cq K (gsg B r i) → mm = mq K (gsg B r i) → (gsg B r i < 8 → K (gsg B r i) ≠ NK) → am_x am_P am_gg (d + 1) am_k264 4 Q 20 [some (.inr (.inr 174)), some (.inl ((r : Int))), some (.inl (b)), some (.inl (((i + 1 : Nat) : Int))), some (.inl ((gsg B r i : Int)))] [] (am_up (am_up M1 173 26 (w32 (M1 173 26 + (cc : Int)))) 173 27 (w32 (M1 173 27 + (mm : Int)))) 0 0 := by
        intro cc mm hc hm hav
        refine am_x_le [some (.inr (.inr 174)), some (.inl ((r : Int))), some (.inl (b)), some (.inl (((i + 1 : Nat) : Int))), none] (am_lb_le _ _ ⟨rfl, rfl, rfl, rfl, trivial⟩) ?_
        have x1 : sm (fun i => if (i : Int) = b then 0 else cq K (gsg B r i)) (i + 1) = sm (fun i => if (i : Int) = b then 0 else cq K (gsg B r i)) i + cc := by
          show _ + (if (i : Int) = b then 0 else cq K (gsg B r i)) = _
          rw [if_neg e, hc]
        have x2 : sm (fun i => if (i : Int) = b then 0 else mq K (gsg B r i)) (i + 1) = sm (fun i => if (i : Int) = b then 0 else mq K (gsg B r i)) i + mm := by
          show _ + (if (i : Int) = b then 0 else mq K (gsg B r i)) = _
          rw [if_neg e, hm]
        refine k _ ⟨fr3_up (fr3_up f (by omega)) (by omega), ?_, ?_, fun j hj hjb h8 => ?_⟩
        · rw [up_ni _ _ _ _ (by decide), up_eq, e1, w32_i (by omega) (by omega)]; omega
        · rw [up_eq, e2, w32_i (by omega) (by omega)]; omega
        · by_cases q : j = i
          · subst q; exact hav h8
          · exact hI j (by omega) hjb h8
      refine @p_if _ _ _ _ ?_ ?_
      · intro h8
        rw [if_pos (by omega)]
        rw [c179, c180]
        rcases hy (gsg B r i) (by omega) with ⟨q1, q2⟩ | ⟨q1, q2, q3, q4⟩
        · rw [if_pos (by omega)]
          exact h0 M1 f (fun z => z i hi e (by omega) q1)
        · rw [if_neg (by omega)]
          rw [if_pos (by omega)]
          rw [if_pos (by omega)]
          rw [if_pos (by omega)]
          rw [if_pos (by omega)]
          rw [q2, q3]
          exact step _ _ (by unfold cq; rw [if_pos (by omega)]) (by unfold mq; rw [if_pos (by omega)]) (fun _ => by omega)
      · intro h8
        rw [if_neg (by omega)]
        rw [if_neg (by omega)]
        exact step 1 0 (by unfold cq; rw [if_neg (by omega)]) (by unfold mq; rw [if_neg (by omega)]) (fun q => by omega)
  · refine ⟨fr3_up (fr3_up fr3_rf (by omega)) (by omega), ?_, ?_, fun j hj => absurd hj (Nat.not_lt_zero j)⟩
    · rw [up_ni _ _ _ _ (by decide), up_eq]; rfl
    · rw [up_eq]; rfl
end S69b
