/-! the reference: what a pair has, read -/
section S9i
variable {B : Nat → Nat} {M M0 : (Nat → Int → Int)} {d : Nat} {Q : Int → (Nat → Int → Int) → Prop}
theorem rL_bR (hL : rL B M) {k : Nat} (hk : k < gN B) : bR M k (gH B k) := (pI_cd hL.2.2.2.2.2.2.2.2.2.1 hk).2.2
theorem m_has (hL : rL B M) {k c : Nat} (hk : k < gN B) (hc : c < 1024) (h1 : gH B k c → Q 1 M) (h0 : ¬ gH B k c → Q 0 M) : am_s am_P am_gg (d + 1) 278 [.inr (.inr 174), .inl (k : Int), .inl (c : Int)] M Q := by
  have n2 := gN_le (B := B)
  obtain ⟨n, b1, b2, b3⟩ := rL_bR hL hk (c / 32) (by omega)
  have e := b3 (c % 32) (by omega)
  rw [show 32 * (c / 32) + c % 32 = c by omega] at e
  have eb : i_and (i_ushr (w32 (n : Int)) ((c % 32 : Nat) : Int)) 1 = if n.testBit (c % 32) then 1 else 0 := by
    have lt : n / 2 ^ (c % 32) < 4294967296 := Nat.lt_of_le_of_lt (Nat.div_le_self _ _) b1
    rw [i_ushr_w b1 (by omega), show (1 : Int) = w32 ((1 : Nat) : Int) from by decide, b_and lt (by decide), Nat.and_one_is_mod, Nat.testBit_eq_decide_div_mod_eq]
    by_cases q : n / 2 ^ (c % 32) % 2 = 1
    · simp [q]
    · have q2 : n / 2 ^ (c % 32) % 2 = 0 := by omega
      simp [q2]; decide
  refine (v_278_174 _ _ _ _ _).mpr ?_
  rw [show Int.tdiv (c : Int) 32 = ((c / 32 : Nat) : Int) from rfl, show Int.tmod (c : Int) 32 = ((c % 32 : Nat) : Int) from rfl, w32_i (x := ((c / 32 : Nat) : Int)) (by omega) (by omega), w32_i (x := ((c % 32 : Nat) : Int)) (by omega) (by omega), w32_row (by omega) (by omega), b2]
  rw [if_pos (by omega)]
  rw [eb]
  by_cases q : n.testBit (c % 32) = true
  · rw [if_pos q, if_pos rfl]; exact h1 (e.mp q)
  · rw [if_neg q, if_neg (by decide)]; exact h0 (fun y => q (e.mpr y))
/-- how many pairs a pair has -/
theorem m_pairsIn (hL : rL B M) {k : Nat} (hk : k < gN B) (hQ : Q ((cnt (dc (gH B k)) 1024 : Nat) : Int) M) : am_s am_P am_gg (d + 2) 307 [.inr (.inr 174), .inl (k : Int)] M Q := by
  have n2 := gN_le (B := B)
  have hb := rL_bR hL hk
  refine (v_307_174 _ _ _ _).mpr ?_
  have key := p_for (S := Int) (X := fun j x => am_x am_P am_gg (d + 1) am_k307 1 Q 4 [some (.inr (.inr 174)), some (.inl ((k : Int))), some (.inl (x)), some (.inl (j))] [] M 0 0) 32 (fun w x => x = ((cnt (dc (gH B k)) (32 * w) : Nat) : Int)) ?_ ?_ 0 (0 : Int) (by omega) rfl
  · exact key
  · intro x ex
    refine (h_307_4_174 _ _ _ _ _ _).mpr ?_
    rw [if_neg (by omega)]
    rw [ex]; exact hQ
  · intro w x hw ex k2
    have cl := cnt_le (p := dc (gH B k)) (32 * w)
    have cl2 := cnt_le (p := fun j => dc (gH B k) (32 * w + j)) 32
    refine (h_307_4_174 _ _ _ _ _ _).mpr ?_
    rw [w32_row (by omega) hw]
    rw [if_pos (by omega)]
    rw [if_pos (by omega)]
    refine m_onesw (bR_wd hb hw) ?_
    rw [w32_s (i := w) (by omega)]
    refine k2 _ ?_
    have : (dc fun j => gH B k (32 * w + j)) = (fun j => dc (gH B k) (32 * w + j)) := funext (fun j => dc_congr Iff.rfl)
    rw [ex, cnt_32, this, w32_i (by omega) (by omega)]
    omega
/-- by codes and by numbers there are as many -/
theorem had_num (hW : gW B) {k : Nat} (hk : k < gN B) : cnt (dc (gH B k)) 1024 = cnt (dc (nH B k)) 1024 := by
  have n2 := gN_le (B := B)
  rw [cnt_gN (B := B) (P := nH B k) (fun m z => nH_lt hk z) n2]
  unfold gN
  rw [← cnt_code]
  exact cnt_cg (fun c _ => gH_num hW hk)
end S9i
