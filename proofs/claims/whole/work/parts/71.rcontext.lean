/-! CONTEXTS: what they must be; how the reference finds them -/
def xcc (B K X : Nat → Nat) (r i : Nat) : Nat := X (gsy B r) / 262144 + rcb B K r i
def xmm (B K X : Nat → Nat) (r i : Nat) : Nat := X (gsy B r) / 64 % 4096 + rmb B K r i
def xky (B K X : Nat → Nat) (r i : Nat) : Nat := (xcc B K X r i * 4096 + xmm B K X r i) * 64 + (r * 4 + i)
def xOK (B K X : Nat → Nat) (r i : Nat) : Prop := r < B 0 ∧ gon B r = true ∧ i < gsz B r ∧ gsg B r i < 8 ∧ gsg B r i ≠ B 2 ∧ X (gsy B r) ≠ NK ∧ avb B K r i ∧ xcc B K X r i ≤ 200
def xbd (pos X : Nat → Nat) : Prop := ∀ s, s < 8 → X s ≠ NK → X s / 262144 ≤ 200 ∧ X s / 64 % 4096 + pos s ≤ 16 * (X s / 262144) + 7
/-- the keys of CONTEXTS -/
def xSol (B pos K X : Nat → Nat) : Prop := xbd pos X ∧ X (B 2) = 0 ∧ (∀ s, s < 8 → s ≠ B 2 → X s ≠ NK → ∃ r i, xOK B K X r i ∧ gsg B r i = s ∧ X s = xky B K X r i) ∧ ∀ r i, xOK B K X r i → X (gsg B r i) ≤ xky B K X r i
section S71
variable {B K X X' pos : Nat → Nat} {r i F : Nat}
theorem sm_one (a : Nat) (b : Int) : ∀ n : Nat, sm (fun j => if (j : Int) = b then a else 0) n ≤ a ∧ ((n : Int) ≤ b → sm (fun j => if (j : Int) = b then a else 0) n = 0)
  | 0 => ⟨Nat.zero_le _, fun _ => rfl⟩
  | n + 1 => by
    obtain ⟨h1, h2⟩ := sm_one a b n
    unfold sm
    by_cases e : (n : Int) = b
    · rw [if_pos e, h2 (by omega)]; exact ⟨by omega, fun q => by omega⟩
    · rw [if_neg e]; exact ⟨by omega, fun q => by rw [h2 (by omega)]⟩
theorem xq_eq : xcc B K X r i * 4096 + xmm B K X r i = X (gsy B r) / 64 + (rcb B K r i * 4096 + rmb B K r i) := by unfold xcc xmm; omega
theorem rmb_pos {b : Int} : 1 ≤ rmb B K r b := by unfold rmb; omega
theorem xb_row (hW : gW B) (hp : ypos B pos) (hb : ybd pos K) (hx : xbd pos X) (hr : r < B 0) (hi : i < gsz B r) (h8 : gsg B r i < 8) (hX : X (gsy B r) ≠ NK) (ha : avb B K r i) : xmm B K X r i + pos (gsg B r i) ≤ 16 * xcc B K X r i + 7 := by
  obtain ⟨hsy, hz, hz4, -, hs⟩ := hW.2.2.2.1 r hr
  have hxs := hx _ hsy hX
  have p1 := hp.1 (gsg B r i)
  unfold xcc xmm rcb rmb
  by_cases e : gsz B r = 1
  · have i0 : i = 0 := by omega
    subst i0
    have p2 := hp.2 r hr e h8
    rw [e]
    show _ + (1 + (0 + if ((0 : Nat) : Int) = ((0 : Nat) : Int) then 0 else _)) + _ ≤ 16 * (_ + (_ + (0 + if ((0 : Nat) : Int) = ((0 : Nat) : Int) then 0 else _))) + 7
    rw [if_pos rfl, if_pos rfl]
    omega
  · have h1 := sm_mono (f := fun j => 1 * (if (j : Int) = (i : Int) then 0 else mq K (gsg B r j)) + 1 * 8) (g := fun j => 16 * (if (j : Int) = (i : Int) then 0 else cq K (gsg B r j)) + 1 * (if (j : Int) = (i : Int) then 8 else 0)) (n := gsz B r) (fun j hj => by
      by_cases q : (j : Int) = (i : Int)
      · rw [if_pos q, if_pos q, if_pos q]; omega
      · rw [if_neg q, if_neg q, if_neg q]
        unfold cq mq
        by_cases g8 : gsg B r j < 8
        · rw [if_pos g8, if_pos g8]
          have := hb _ g8 (ha j hj q g8)
          have := hp.1 (gsg B r j)
          omega
        · rw [if_neg g8, if_neg g8]; omega)
    rw [sm_lin (g := fun _ => 8) 1 1, sm_lin 16 1, sm_const] at h1
    have h2 := (sm_one 8 (i : Int) (gsz B r)).1
    omega
theorem xOK_b (hW : gW B) (hp : ypos B pos) (hb : ybd pos K) (hx : xbd pos X) (h : xOK B K X r i) : r < 16 ∧ i < 4 ∧ xmm B K X r i < 4096 := by
  obtain ⟨h1, h2, h3, h4, h5, h6, h7, h8⟩ := h
  have a := hW.1
  have b := (hW.2.2.2.1 r h1).2.2.1
  have c := xb_row hW hp hb hx h1 h3 h4 h6 h7
  omega
theorem xky_dec (hr : r < 16) (hi : i < 4) (hm : xmm B K X r i < 4096) : xky B K X r i / 262144 = xcc B K X r i ∧ xky B K X r i / 64 % 4096 = xmm B K X r i ∧ xky B K X r i / 4 % 16 = r ∧ xky B K X r i % 4 = i := by
  unfold xky; omega
theorem xky_lt (hr : r < 16) (hi : i < 4) (hm : xmm B K X r i < 4096) (hc : xcc B K X r i ≤ 200) : xky B K X r i < 52690944 := by unfold xky; omega
theorem xky_up : X (gsy B r) / 64 + 1 ≤ xky B K X r i / 64 := by
  have h1 := xq_eq (B := B) (K := K) (X := X) (r := r) (i := i)
  have h2 := rmb_pos (B := B) (K := K) (r := r) (b := (i : Int))
  unfold xky; omega
theorem x_uniq_le (hW : gW B) (hp : ypos B pos) (hb : ybd pos K) (h : xSol B pos K X) (h' : xSol B pos K X') : ∀ v s, s < 8 → X s < v → v ≤ NK → X' s ≤ X s := by
  intro v
  induction v using Nat.strongRecOn with
  | ind v ih =>
    intro s hs hv hN
    by_cases e : s = B 2
    · rw [e, h'.2.1]; exact Nat.zero_le _
    · obtain ⟨r, i, ok, hg, hk⟩ := h.2.2.1 s hs e (by omega)
      obtain ⟨b16, b4, bm⟩ := xOK_b hW hp hb h.1 ok
      obtain ⟨o1, o2, o3, o4, o5, o6, o7, o8⟩ := ok
      have hsy := (hW.2.2.2.1 r o1).1
      have up := xky_up (B := B) (K := K) (X := X) (r := r) (i := i)
      have le := ih (X (gsy B r) + 1) (by omega) _ hsy (by omega) (by omega)
      have q := xq_eq (B := B) (K := K) (X := X) (r := r) (i := i)
      have q' := xq_eq (B := B) (K := K) (X := X') (r := r) (i := i)
      have hX' : X' (gsy B r) ≠ NK := by omega
      have ok' : xOK B K X' r i := ⟨o1, o2, o3, o4, o5, hX', o7, by omega⟩
      have := h'.2.2.2 r i ok'
      rw [hg] at this
      rw [hk]
      have key : ∀ a c x y : Nat, c ≤ a → x ≤ c * 64 + y → x ≤ a * 64 + y := fun a c x y p q => by omega
      exact key _ _ _ _ (by omega) this
theorem x_uniq (hW : gW B) (hp : ypos B pos) (hb : ybd pos K) (h : xSol B pos K X) (h' : xSol B pos K X') (hN : ∀ s, s < 8 → X s ≤ NK) (hN' : ∀ s, s < 8 → X' s ≤ NK) {s : Nat} (hs : s < 8) : X s = X' s := by
  have a : X s < NK → X' s ≤ X s := fun q => x_uniq_le hW hp hb h h' NK s hs q (Nat.le_refl _)
  have b : X' s < NK → X s ≤ X' s := fun q => x_uniq_le hW hp hb h' h NK s hs q (Nat.le_refl _)
  have := hN s hs
  have := hN' s hs
  omega
/-- what is settled -/
def dX (B pos K X : Nat → Nat) (F : Nat) : Prop := xbd pos X ∧ X (B 2) = 0 ∧ (∀ s, s < 8 → s ≠ B 2 → X s ≠ NK → ∃ r i, xOK B K X r i ∧ gsg B r i = s ∧ X s = xky B K X r i) ∧ (∀ r i, xOK B K X r i → X (gsg B r i) ≠ NK → X (gsg B r i) ≤ xky B K X r i) ∧ (∀ r i, xOK B K X r i → X (gsg B r i) = NK → F ≤ xky B K X r i / 64) ∧ ∀ s, s < 8 → X s ≠ NK → X s / 64 ≤ F
theorem dX_0 (hp : ypos B pos) : dX B pos K (gU (fun _ => NK) (B 2) 0) 0 := by
  have hN := NK_eq
  have key : ∀ s, gU (fun _ => NK) (B 2) 0 s ≠ NK → s = B 2 := by
    intro s q
    by_cases e : s = B 2
    · exact e
    · rw [gU_ne e] at q; exact absurd rfl q
  refine ⟨fun s _ q => ?_, gU_eq, fun s _ ne q => absurd (key s q) ne, fun r i o q => absurd (key _ q) o.2.2.2.2.1, fun r i _ _ => Nat.zero_le _, fun s _ q => ?_⟩
  · rw [key s q, gU_eq]; have := hp.1 (B 2); omega
  · rw [key s q, gU_eq]; omega
theorem dX_end (h : dX B pos K X F) (hn : ∀ r i, xOK B K X r i → X (gsg B r i) ≠ NK) : xSol B pos K X := ⟨h.1, h.2.1, h.2.2.1, fun r i q => h.2.2.2.1 r i q (hn r i q)⟩
theorem dX_step (hW : gW B) (hp : ypos B pos) (hb : ybd pos K) (h : dX B pos K X F) {r0 i0 : Nat} (ok0 : xOK B K X r0 i0) (hN0 : X (gsg B r0 i0) = NK) (hmin : ∀ r i, xOK B K X r i → X (gsg B r i) = NK → xky B K X r0 i0 ≤ xky B K X r i) : dX B pos K (gU X (gsg B r0 i0) (xky B K X r0 i0)) (xky B K X r0 i0 / 64) := by
  obtain ⟨hx, h0, ha, hc, hf, hm⟩ := h
  obtain ⟨b16, b4, bm⟩ := xOK_b hW hp hb hx ok0
  obtain ⟨d1, d2, d3, d4⟩ := xky_dec b16 b4 bm
  have dl := xky_lt b16 b4 bm ok0.2.2.2.2.2.2.2
  have hNK := NK_eq
  have hF := hf r0 i0 ok0 hN0
  have hs8 := ok0.2.2.2.1
  have hrow := xb_row hW hp hb hx ok0.1 ok0.2.2.1 ok0.2.2.2.1 ok0.2.2.2.2.2.1 ok0.2.2.2.2.2.2.1
  have hsy0 : gsy B r0 ≠ gsg B r0 i0 := fun e => ok0.2.2.2.2.2.1 (by rw [e]; exact hN0)
  have hcc := ok0.2.2.2.2.2.2.2
  have hne2 := ok0.2.2.2.2.1
  generalize hs : gsg B r0 i0 = s0 at *
  generalize hv : xky B K X r0 i0 = v at *
  have same : ∀ r i, gsy B r ≠ s0 → xcc B K (gU X s0 v) r i = xcc B K X r i ∧ xky B K (gU X s0 v) r i = xky B K X r i ∧ (xOK B K (gU X s0 v) r i ↔ xOK B K X r i) := by
    intro r i e
    have a1 : xcc B K (gU X s0 v) r i = xcc B K X r i := by unfold xcc; rw [gU_ne e]
    have a2 : xmm B K (gU X s0 v) r i = xmm B K X r i := by unfold xmm; rw [gU_ne e]
    refine ⟨a1, by unfold xky; rw [a1, a2], ?_⟩
    unfold xOK; rw [a1, gU_ne e]
  have big : ∀ r i, gsy B r = s0 → v / 64 + 1 ≤ xky B K (gU X s0 v) r i / 64 := by
    intro r i e
    have := xky_up (B := B) (K := K) (X := gU X s0 v) (r := r) (i := i)
    rwa [e, gU_eq] at this
  have mx' : ∀ s, s < 8 → gU X s0 v s ≠ NK → gU X s0 v s / 64 ≤ v / 64 := by
    intro s hs8 q
    by_cases e : s = s0
    · subst e; rw [gU_eq]; exact Nat.le_refl _
    · rw [gU_ne e] at q ⊢; have := hm s hs8 q; omega
  refine ⟨?_, ?_, ?_, ?_, ?_, mx'⟩
  · intro s hs8 q
    by_cases e : s = s0
    · subst e; rw [gU_eq, d1, d2]; exact ⟨hcc, hrow⟩
    · rw [gU_ne e] at q ⊢; exact hx s hs8 q
  · rw [gU_ne (fun e => hne2 e.symm)]; exact h0
  · intro s hs8 ne q
    by_cases e : s = s0
    · subst e
      obtain ⟨-, e2, e3⟩ := same r0 i0 hsy0
      exact ⟨r0, i0, e3.mpr ok0, hs, by rw [gU_eq, e2, hv]⟩
    · rw [gU_ne e] at q ⊢
      obtain ⟨r, i, o, g, k⟩ := ha s hs8 ne q
      have hne : gsy B r ≠ s0 := fun z => o.2.2.2.2.2.1 (by rw [z]; exact hN0)
      obtain ⟨-, e2, e3⟩ := same r i hne
      exact ⟨r, i, e3.mpr o, g, by rw [e2]; exact k⟩
  · intro r i o q
    have hg8 := o.2.2.2.1
    by_cases e : gsy B r = s0
    · have := big r i e
      have := mx' _ hg8 q
      omega
    · obtain ⟨-, e2, e3⟩ := same r i e
      have o' := e3.mp o
      rw [e2]
      by_cases e4 : gsg B r i = s0
      · rw [e4, gU_eq]; exact hmin r i o' (by rw [e4]; exact hN0)
      · rw [gU_ne e4] at q ⊢; exact hc r i o' q
  · intro r i o q
    by_cases e : gsy B r = s0
    · have := big r i e; omega
    · obtain ⟨-, e2, e3⟩ := same r i e
      rw [e2]
      have e4 : gsg B r i ≠ s0 := fun z => by rw [z, gU_eq] at q; omega
      rw [gU_ne e4] at q
      have := hmin r i (e3.mp o) q
      omega
/-- the best place of those ahead of t -/
def xB (B K X : Nat → Nat) (t : Nat) (a b c e : Int) : Prop := (a = -1 ∧ c = 201 ∧ ∀ r i, r * 4 + i < t → xOK B K X r i → X (gsg B r i) ≠ NK) ∨ ∃ r0 i0, r0 * 4 + i0 < t ∧ a = (r0 : Int) ∧ b = (i0 : Int) ∧ xOK B K X r0 i0 ∧ X (gsg B r0 i0) = NK ∧ c = (xcc B K X r0 i0 : Int) ∧ e = (xmm B K X r0 i0 : Int) ∧ ∀ r i, r * 4 + i < t → xOK B K X r i → X (gsg B r i) = NK → xky B K X r0 i0 ≤ xky B K X r i
theorem xB_skip {t t' : Nat} {a b c e : Int} (h : xB B K X t a b c e) (ht : t ≤ t') (hs : ∀ r i, t ≤ r * 4 + i → r * 4 + i < t' → xOK B K X r i → X (gsg B r i) ≠ NK) : xB B K X t' a b c e := by
  rcases h with ⟨h1, h3, h4⟩ | ⟨r0, i0, h1, h2, h3, h4, h5, h6, h7, h8⟩
  · refine Or.inl ⟨h1, h3, fun r i hr o => ?_⟩
    by_cases q : r * 4 + i < t
    · exact h4 r i q o
    · exact hs r i (by omega) hr o
  · refine Or.inr ⟨r0, i0, by omega, h2, h3, h4, h5, h6, h7, fun r i hr o z => ?_⟩
    by_cases q : r * 4 + i < t
    · exact h8 r i q o z
    · exact absurd z (hs r i (by omega) hr o)
theorem xpair {r i r' i' : Nat} (hi : i < 4) (hi' : i' < 4) (h : r * 4 + i = r' * 4 + i') : r = r' ∧ i = i' := by omega
theorem xB_take (hW : gW B) {a b c e : Int} {r1 i1 : Nat} (h : xB B K X (r1 * 4 + i1) a b c e) (ok : xOK B K X r1 i1) (hN : X (gsg B r1 i1) = NK) (hk : ∀ r0 i0, r0 * 4 + i0 < r1 * 4 + i1 → xOK B K X r0 i0 → a = (r0 : Int) → c = (xcc B K X r0 i0 : Int) → e = (xmm B K X r0 i0 : Int) → xky B K X r1 i1 ≤ xky B K X r0 i0) : xB B K X (r1 * 4 + (i1 + 1)) (r1 : Int) (i1 : Int) (xcc B K X r1 i1 : Int) (xmm B K X r1 i1 : Int) := by
  refine Or.inr ⟨r1, i1, by omega, rfl, rfl, ok, hN, rfl, rfl, fun r i hr o z => ?_⟩
  by_cases q : r * 4 + i = r1 * 4 + i1
  · have z1 := (hW.2.2.2.1 r o.1).2.2.1
    have z2 := (hW.2.2.2.1 r1 ok.1).2.2.1
    obtain ⟨e1, e2⟩ := xpair (by have := o.2.2.1; omega) (by have := ok.2.2.1; omega) q
    rw [e1, e2]; exact Nat.le_refl _
  · rcases h with ⟨h1, h3, h4⟩ | ⟨r0, i0, h1, h2, h3, h4, h5, h6, h7, h8⟩
    · exact absurd z (h4 r i (by omega) o)
    · exact Nat.le_trans (hk r0 i0 h1 h4 h2 h6 h7) (h8 r i (by omega) o z)
theorem xB_keep (hW : gW B) {a b c e : Int} {r1 i1 : Nat} (hi1 : i1 < 4) (h : xB B K X (r1 * 4 + i1) a b c e) (hk : xOK B K X r1 i1 → X (gsg B r1 i1) = NK → a ≠ -1 ∧ ∀ r0 i0, r0 * 4 + i0 < r1 * 4 + i1 → xOK B K X r0 i0 → a = (r0 : Int) → c = (xcc B K X r0 i0 : Int) → e = (xmm B K X r0 i0 : Int) → xky B K X r0 i0 ≤ xky B K X r1 i1) : xB B K X (r1 * 4 + (i1 + 1)) a b c e := by
  have eqq : ∀ r i, xOK B K X r i → r * 4 + i = r1 * 4 + i1 → r = r1 ∧ i = i1 := fun r i o q => by
    have z1 := (hW.2.2.2.1 r o.1).2.2.1
    exact xpair (by have := o.2.2.1; omega) hi1 q
  rcases h with ⟨h1, h3, h4⟩ | ⟨r0, i0, h1, h2, h3, h4, h5, h6, h7, h8⟩
  · refine Or.inl ⟨h1, h3, fun r i hr o z => ?_⟩
    by_cases q : r * 4 + i = r1 * 4 + i1
    · obtain ⟨e1, e2⟩ := eqq r i o q
      subst e1; subst e2; exact (hk o z).1 h1
    · exact h4 r i (by omega) o z
  · refine Or.inr ⟨r0, i0, by omega, h2, h3, h4, h5, h6, h7, fun r i hr o z => ?_⟩
    by_cases q : r * 4 + i = r1 * 4 + i1
    · obtain ⟨e1, e2⟩ := eqq r i o q
      subst e1; subst e2; exact (hk o z).2 r0 i0 h1 h4 h2 h6 h7
    · exact h8 r i (by omega) o z
end S71
