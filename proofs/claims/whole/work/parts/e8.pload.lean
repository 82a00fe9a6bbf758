/-! load, of both -/
section Se8
variable {k : Nat}
theorem p_load (hk : k < 512) (a : Int) : lm_pr (J k) (J (k + 1)) 169 253 [.inl a] := by
  intro M ⟨s, hx, hr⟩
  have hD := hr.1.2.2.2.2.2.2.2.2.2
  have d0 : (fun k => if k = 0 then 0 else (M 174 ((1035 + k : Nat) : Int)).toNat) 0 = 0 := rfl
  refine am_s_mono (d := 7) (by decide) (x_load (d := 0) (D := fun k => if k = 0 then 0 else (M 174 ((1035 + k : Nat) : Int)).toNat) hx.1 (by omega) d0 a) (fun r M1 q => ?_)
  obtain ⟨q1, q2, q3⟩ := xJ_C hx (by omega) q
  have hr1 := rJ_lo hr q3
  refine am_s_mono (d := 6) (by decide) (r_load (d := 0) (D := fun k => if k = 0 then 0 else (M 174 ((1035 + k : Nat) : Int)).toNat) hr1.1 d0 (fun k h0 h1 => ?_) a) (fun r' M2 p => ?_)
  · rw [q3 174 (by decide)]
    rw [if_neg (by omega)]
    have := hD k h1
    omega
  · obtain ⟨p1, p2, p3⟩ := rJ_C hr1 p
    exact ⟨by rw [q1, p1], _, xJ_hi q2 p3, p2⟩
end Se8
