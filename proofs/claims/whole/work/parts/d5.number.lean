/-! readers of both: number -/
section Sd5
variable {s s' : sS} {B B' : Nat → Nat} {k k' d n : Nat} {st st' : Int} {M M' M0 : (Nat → Int → Int)} {Q : Int → (Nat → Int → Int) → Prop} {l : List Nat}
theorem trO_M {x : Nat → Nat} {N : Nat} (h : trO B x N M) (e : ∀ c, c = 108 ∨ c = 115 ∨ c = 116 → M' c = M c) : trO B x N M' := by
  obtain ⟨x', h1, h2, h3⟩ := h
  refine ⟨x', h1, h2, ?_⟩
  unfold ndI at h3 ⊢
  rw [e 108 (by omega), e 115 (by omega), e 116 (by omega)]; exact h3
theorem xJ_107 (h : xJ k s M) (f : f107 M M') : xJ k s M' := by
  obtain ⟨h0, a1, a2, a3, a4, a5, a6, a7⟩ := h
  have e2 : M' 2 0 = M 2 0 := by rw [f 2 (by decide)]
  exact ⟨xS_c h0 (fun c hc => f c (by omega)), k1_M a1 e2 (fun c a b => f c (by omega)), k2_M a2 e2 (fun c a b => f c (by omega)), k3_M a3 e2 (fun c a b => f c (by omega)), k4_M a4 e2 (by rw [f 81 (by decide)]) (fun c a b => f c (by omega)), k5_M a5 e2 (fun c a b => f c (by omega)), k6_M a6 e2 (fun c a b => f c (by omega)), k7_M a7 e2 (fun c a b => f c (by omega))⟩
theorem p_number (hk : k < 512) (a : Int) : lm_pr (J k) (J (k + 1)) 197 333 [.inl a] := pr_R (fun s => ⟨txR s a (seP s a.toNat (fun r s' => r = ((yT s.B (tx s a.toNat) (s.B 2) 0 a.toNat).2 : Int) ∧ s' = s.S 0)), fun M h => by
  refine (v_197_1 1599 _ _ _).mpr (xj_noSent (d := 1593) h hk (fun q => ?_) (fun q1 q2 => ?_) (fun q1 q2 q3 M1 g1 f1 => ?_) (fun q1 q2 q3 M1 g1 f1 f1' f1'' o1 t1 => ?_))
  · rw [if_neg (by decide)]; exact eR_ref (by decide) h hiF_rf 1 (by decide) (Or.inl ⟨q, rfl, rfl⟩)
  · rw [if_neg (by decide)]; exact eR_ref (by decide) h hiF_rf 4 (by decide) (Or.inr (Or.inl ⟨q1, q2, rfl, rfl⟩))
  · rw [if_neg (by decide)]; exact eT_ref (by decide) (xT_J g1 st_le) f1 5 (by decide) (Or.inr (Or.inr ⟨q1, q2, Or.inl ⟨q3, rfl, rfl⟩⟩))
  · rw [if_pos rfl]
    have q1' := q1
    unfold txK at q1'
    have hJ := xT_J g1 st_le
    have hs0 := xJ_C hJ (Nat.le_refl (k + 1)) (show xC (k + 1) s (s.S 0) 0 M1 0 (am_up M1 0 2 0) from ⟨rfl, xS_st hJ.1 am_0, xA_st⟩)
    obtain ⟨n, rfl⟩ := p_nat (show 0 ≤ a by omega)
    refine xj_trees (d := 1594) (s := s.S 0) hs0.2.1 (n := n) (by omega) (by omega) (fun M2 f h2 f2 g2 g3 g4 g5 => ?_)
    have t2 : trO s.B (tx s n) n M2 := trO_M t1 (fun c hc => by rw [f2 c (by omega), up_nc _ _ _ _ (by omega)])
    refine x_ownNumber (d := 1594) (B := s.B) (xJ_W h) (xJ_g (s := s.S 0) h2) g4 g2 (by omega) (by omega) g3 t2 (fun M3 f3 => ?_)
    exact ⟨s.S 0, Or.inr (Or.inr ⟨q1, q2, Or.inr ⟨q3, rfl, rfl⟩⟩), xJ_107 h2 f3, hiF_tr f1 (hiF_tr hs0.2.2 (hiF_tr (tcF_hi f2) (fun c hc => f3 c (by omega))))⟩, fun r s' hR M h => by
  refine (v_333_174 1599 _ _ _).mpr (rj_asksText (d := 1595) h (fun q M1 h1 f1 => ?_) (fun q1 q2 M1 h1 f1 => ?_) (fun q1 q2 M1 h1 f1 w1 => ?_))
  · rw [if_pos (by decide)]
    rcases hR with ⟨_, z2, z3⟩ | ⟨z1, _⟩ | ⟨z1, _⟩
    · exact ⟨z2.symm, by rw [z3]; exact rJ_s2 h1 1, loF_tr f1 lo_up⟩
    · exact absurd z1 q
    · exact absurd z1 q
  · rw [if_pos (by decide)]
    rcases hR with ⟨z1, _⟩ | ⟨_, _, z2, z3⟩ | ⟨_, z1, _⟩
    · exact absurd q1 z1
    · exact ⟨z2.symm, by rw [z3]; exact rJ_s2 h1 4, loF_tr f1 lo_up⟩
    · exact absurd z1 q2
  · rw [if_neg (by decide)]
    rcases hR with ⟨z1, _⟩ | ⟨_, z1, _⟩ | ⟨_, _, z2⟩
    · exact absurd q1 z1
    · exact absurd q2 z1
    · have q1' := q1
      unfold txK at q1'
      have h1' : rJ (s.S 0) (am_up M1 173 2 0) := rJ_s2 h1 0
      refine rj_isSent (d := 799) (s := s.S 0) h1' (show 1 ≤ a.toNat by omega) (wI_2 (by decide) w1) (fun hp M2 h2 f2 w2 => ?_) (fun hz M2 h2 f2 w2 => ?_)
      · rw [if_neg (by decide)]
        rcases z2 with ⟨z3, _⟩ | ⟨_, z3, z4⟩
        · have hp : 0 < wyN s a.toNat := hp
          omega
        · refine rj_lays (d := 1573) h2 (fun M3 h3 g1 g2 g3 f3 => ?_)
          have w3 : wI s.B (tx s a.toNat) a.toNat M3 := by
            obtain ⟨y1, y2, y3, y4, y5⟩ := w2
            exact ⟨by rw [f3.1 174 (by omega)]; exact y1, by rw [f3.2 42 (by decide)]; exact y2, y3, by rw [f3.1 195 (by omega)]; exact y4, by rw [f3.1 196 (by omega)]; exact y5⟩
          rw [show M3 174 2 = (s.B 2 : Int) from (rb_of h3).at (k := 2) (by omega), w3.2.1]
          have q := kTO_mono (d' := 1599) (m_rank (x := tx s a.toNat) (N := a.toNat) (s := s.B 2) (a := 0) (n := a.toNat) (rJ_W h) (by omega) (rJ_W h).2.2.1 (by omega) hp) (by omega) M3 (fun r5 M5 => r5 = r ∧ rJ s' M5 ∧ loF M M5) w3 g3 (fun M4 k1 k2 k3 => ?_)
          · rw [Nat.zero_add] at q; exact q
          · refine ⟨z3.symm, ?_, loF_tr f1 (loF_tr lo_up (loF_tr (fun c hc => f2 c (by omega)) (loF_tr (rLF_lo f3) (fun c hc => k3 c (by omega) (by omega) (by omega)))))⟩
            rw [z4]
            exact rJ_gen h3 (fun c a1 a2 a3 => k3 c (by omega) (by omega) (by omega)) (fun i _ _ _ _ => by rw [k3 173 (by decide) (by decide) (by decide)]) (fun _ => k2)
      · rw [if_pos rfl]
        rcases z2 with ⟨_, z3, z4⟩ | ⟨z3, _⟩
        · exact eR_rr (s := s.S 0) (by decide) h2 (loF_tr f1 (loF_tr lo_up (fun c hc => f2 c (by omega)))) 5 (by decide) z3 z4
        · have hz : wyN s a.toNat = 0 := hz
          omega⟩)
end Sd5
