/-! the reference makes a text as short as it goes -/
section Sd7
variable {s s' : sS} {B B' x : Nat → Nat} {k k' d n N ρ l f : Nat} {M M' M0 : (Nat → Int → Int)} {Q : Int → (Nat → Int → Int) → Prop}
theorem rj_once (h0 : rJ s M0) (hx0 : tx0 s.B x N M0) (hN1 : 1 ≤ N) (hQ : ∀ (v : Int) M', (v = 0 ∧ noC s.B x N ρ ∧ tx0 s.B x N M' ∨ v = 1 ∧ ∃ l f, fstC s.B x N ρ l f ∧ tx0 s.B (cutx x f l) (N - l) M') → rJ s M' → loF M0 M' → Q v M') : am_s am_P am_gg (d + 1111) 348 [.inr (.inr 174), .inl (ρ : Int)] M0 Q := by
  have hN16 := hx0.2.2.1
  refine (v_348_174 _ _ _ _).mpr ?_
  rw [hx0.2.1, show w32 ((N : Int) - 1) = ((N - 1 : Nat) : Int) by rw [w32_i (by omega) (by omega)]; omega]
  have main : ∀ l (M : (Nat → Int → Int)), l < N → (∀ l' f', l < l' → ¬ goC s.B x N ρ l' f') → tx0 s.B x N M → rJ s M → loF M0 M → am_x am_P am_gg (d + 1110) am_k348 4 Q 7 [some (.inr (.inr 174)), some (.inl ((ρ : Int))), some (.inl ((l : Int))), none] [] M 0 0 := by
    intro l
    induction l with
    | zero =>
      intro M _ hno hI hr hF
      refine (h_348_7_174 _ _ _ _ _).mpr ?_
      rw [if_neg (by omega)]
      exact hQ 0 M (Or.inl ⟨rfl, fun l f z => hno l f (by have := z.1; omega) z, hI⟩) hr hF
    | succ l ih =>
      intro M hl hno hI hr hF
      refine (h_348_7_174 _ _ _ _ _).mpr ?_
      rw [if_pos (by omega)]
      refine p_for (S := (Nat → Int → Int)) (X := fun f M => am_x am_P am_gg (d + 1110) am_k348 4 Q 13 [some (.inr (.inr 174)), some (.inl ((ρ : Int))), some (.inl (((l + 1 : Nat) : Int))), some (.inl (f))] [] M 0 0) (N - (l + 1) + 1) (fun f M => (∀ f', f' < f → ¬ goC s.B x N ρ (l + 1) f') ∧ tx0 s.B x N M ∧ rJ s M ∧ loF M0 M) ?_ ?_ 0 M (by omega) ⟨fun f' h => absurd h (Nat.not_lt_zero f'), hI, hr, hF⟩
      · rintro M1 ⟨hno1, hI1, hr1, hF1⟩
        refine (h_348_13_174 _ _ _ _ _ _).mpr ?_
        rw [hI1.2.1, show w32 (((N - (l + 1) + 1 : Nat) : Int) + ((l + 1 : Nat) : Int)) = ((N + 1 : Nat) : Int) by rw [w32_i (by omega) (by omega)]; omega, if_pos (by omega), show w32 (((l + 1 : Nat) : Int) + (-1)) = (l : Int) by rw [w32_i (by omega) (by omega)]; omega]
        refine am_x_le [some (.inr (.inr 174)), some (.inl ((ρ : Int))), some (.inl ((l : Int))), none] (am_lb_le _ _ ⟨rfl, rfl, rfl, trivial⟩) ?_
        refine ih M1 (by omega) (fun l' f' h z => ?_) hI1 hr1 hF1
        by_cases q : l' = l + 1
        · subst q
          exact hno1 f' (by have := z.2.2.1; omega) z
        · exact hno l' f' (by omega) z
      · rintro f M1 hf ⟨hno1, hI1, hr1, hF1⟩ go
        refine (h_348_13_174 _ _ _ _ _ _).mpr ?_
        rw [hI1.2.1, show w32 ((f : Int) + ((l + 1 : Nat) : Int)) = ((f + (l + 1) : Nat) : Int) by rw [w32_i (by omega) (by omega)]; omega, if_neg (by omega), w32_s (by omega)]
        refine rj_without (l := l + 1) (f := f) hr1 hI1 (by omega) hl (by omega) (fun hg M2 h2 f2 t2 => ?_) (fun hg M2 h2 f2 t2 => ?_)
        · rw [if_neg (by decide)]
          refine hQ 1 M2 (Or.inr ⟨rfl, l + 1, f, ⟨hg, fun l' f' h z => ?_⟩, t2⟩) h2 (loF_tr hF1 f2)
          rcases h with h | ⟨h1, h2⟩
          · exact hno l' f' h z
          · subst h1; exact hno1 f' h2 z
        · rw [if_pos rfl]
          refine go M2 ⟨fun f' h z => ?_, t2, h2, loF_tr hF1 f2⟩
          by_cases w : f' = f
          · subst w; exact hg z
          · exact hno1 f' (by omega) z
  exact main (N - 1) M0 (by omega) (fun l' f' h z => by have := z.2.1; omega) hx0 h0 (fun _ _ => rfl)
theorem rj_cuts (hQ : ∀ M' t y K, shR s.B ρ t x N y K → tx0 s.B y K M' → rJ s M' → loF M0 M' → Q 0 M') : ∀ b (M : (Nat → Int → Int)) (x' : Nat → Nat) (N' : Nat), 1 ≤ N' → N' ≤ b → (∀ t y K, shR s.B ρ t x' N' y K → ∃ t', shR s.B ρ t' x N y K) → tx0 s.B x' N' M → rJ s M → loF M0 M → am_x am_P am_gg (d + 1111) am_k349 1 Q 42 [some (.inr (.inr 174)), none, some (.inl ((ρ : Int))), none, some (.inl (1))] [] M 0 0 := by
  intro b
  induction b with
  | zero => intro M x' N' h1 h2; omega
  | succ b ih =>
    intro M x' N' h1 h2 hx hI hr hF
    refine (h_349_42_174 _ _ _ _ _).mpr ?_
    rw [if_neg (by decide)]
    refine rj_once hr hI h1 (fun v M1 hv r1 f1 => ?_)
    rcases hv with ⟨rfl, q1, q2⟩ | ⟨rfl, l, f, q1, q2⟩
    · refine (h_349_42_174 _ _ _ _ _).mpr ?_
      rw [if_pos rfl]
      obtain ⟨t', ht⟩ := hx 0 x' N' ⟨rfl, rfl, q1⟩
      exact hQ M1 t' x' N' ht q2 r1 (loF_tr hF f1)
    · have h11 := q1.1.1
      have h12 := q1.1.2.1
      exact ih M1 (cutx x' f l) (N' - l) (by omega) (by omega) (fun t y K q => hx (t + 1) y K ⟨l, f, q1, q⟩) q2 r1 (loF_tr hF f1)
end Sd7
