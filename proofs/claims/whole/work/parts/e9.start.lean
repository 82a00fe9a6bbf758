/-! both objects as they are made: the invariant holds -/
def jL : List (Nat × Int × Int) := [(0, 1, 0), (0, 2, 0), (0, 3, -1), (0, 4, -1), (0, 7, 0), (0, 8, 0), (2, 0, 0), (2, 1, 0), (2, 2, 0), (2, 3, 0), (2, 4, 0), (16, 1, -1), (22, 1, -1), (81, 2, -1), (93, 2, -1), (93, 3, -1), (100, 1, -1), (108, 2, -1), (108, 6, 0), (108, 7, -1), (118, 2, -1), (121, 3, -1), (173, 1, 0), (173, 2, 0), (173, 5, 0), (173, 6, -1), (173, 7, -1), (173, 11, 0)]
theorem jm_0 : am_mkO (fun h => jL.all (fun q => decide (h.2 q.1 q.2.1 = q.2.2))) = true := by decide +kernel
theorem jm_1 : am_mkO (fun h => (List.range 8).all (fun i => decide (h.2 7 (i : Int) = (i : Int)))) = true := by decide +kernel
theorem jm_2 : am_mkO (fun h => (List.range 115).all (fun k => decide (h.2 174 ((0 + k : Nat) : Int) = 0))) = true := by decide +kernel
theorem jm_3 : am_mkO (fun h => (List.range 115).all (fun k => decide (h.2 174 ((1035 + k : Nat) : Int) = 0))) = true := by decide +kernel
theorem jm_4 : am_mkO (fun h => (List.range 16).all (fun l => (List.range 25).all (fun n => decide (h.2 101 ((25 * (16 + l) + n : Nat) : Int) = if n = 1 then 1 else 0)))) = true := by decide +kernel
theorem jm_5 : am_mkO (fun h => (List.range 8).all (fun s => (List.range 17).all (fun a => decide (h.2 110 ((17 * s + a : Nat) : Int) = 0)))) = true := by decide +kernel
section Se9
variable {h : am_h}
theorem jf {c : Nat} {i v : Int} (hm : am_mk = some h) (q : (c, i, v) ∈ jL) : h.2 c i = v := of_decide_eq_true (List.all_eq_true.mp (am_mkO_ok jm_0 hm) (c, i, v) q)
def jB : Nat → Nat := fun _ => 0
theorem jB_W : gW jB := ⟨by decide, by decide, by decide, fun r hr => absurd hr (Nat.not_lt_zero r), fun _ => 0, fun _ => Nat.zero_lt_succ 7, fun r hr => absurd hr (Nat.not_lt_zero r)⟩
def jS : sS := (0, -1, -1, 0, jB, jB, [])
theorem jS_W : sW jS := ⟨by show am_i32 0; unfold am_i32; omega, by show am_i32 (-1); unfold am_i32; omega, by show am_i32 (-1); unfold am_i32; omega, Nat.zero_le _, fun i hi => absurd hi (Nat.not_lt_zero i), jB_W, Nat.zero_le _, fun B hB => by cases hB⟩
theorem j_xS (hm : am_mk = some h) : xS 0 jS h.2 := by
  refine ⟨jS_W, jf hm (by decide), jf hm (by decide), jf hm (by decide), jf hm (by decide), fun i hi => absurd hi (Nat.not_lt_zero i), ⟨jf hm (by decide), jf hm (by decide), jf hm (by decide), jf hm (by decide), fun r hr => absurd hr (Nat.not_lt_zero r), fun i => i, fun i hi => ⟨?_, hi⟩, fun s hs => ⟨s, hs, rfl⟩, fun i j _ _ e => e, fun r hr => absurd hr (Nat.not_lt_zero r)⟩, ?_, jf hm (by decide), 0, by decide, jf hm (by decide), fun j hj => absurd hj (Nat.not_lt_zero j)⟩
  · exact of_decide_eq_true (List.all_eq_true.mp (am_mkO_ok jm_1 hm) i (List.mem_range.mpr hi))
  · rw [jf (c := 2) (i := 0) (v := 0) hm (by decide)]; decide
theorem j_xK (hm : am_mk = some h) : xK jB 0 h.2 := by
  have f2 := jf (c := 2) (i := 0) (v := 0) hm (by decide)
  have f16 := jf (c := 16) (i := 1) (v := -1) hm (by decide)
  have f22 := jf (c := 22) (i := 1) (v := -1) hm (by decide)
  have f81 := jf (c := 81) (i := 2) (v := -1) hm (by decide)
  have f93 := jf (c := 93) (i := 2) (v := -1) hm (by decide)
  have f93' := jf (c := 93) (i := 3) (v := -1) hm (by decide)
  have f100 := jf (c := 100) (i := 1) (v := -1) hm (by decide)
  have f108 := jf (c := 108) (i := 2) (v := -1) hm (by decide)
  have f1086 := jf (c := 108) (i := 6) (v := 0) hm (by decide)
  have f1087 := jf (c := 108) (i := 7) (v := -1) hm (by decide)
  have f118 := jf (c := 118) (i := 2) (v := -1) hm (by decide)
  have f121 := jf (c := 121) (i := 3) (v := -1) hm (by decide)
  refine ⟨⟨by omega, fun q => by omega⟩, ⟨by omega, fun q => by omega⟩, ⟨by omega, fun q => by omega⟩, ⟨by omega, by omega, fun q => by omega⟩, ⟨fun l n h1 h2 h3 => ?_, by omega, fun q => by omega⟩, ⟨by omega, fun s a h1 h2 => ?_, ⟨by omega, by omega, by omega, by omega⟩, fun q => by omega⟩, ⟨by omega, fun q => by omega⟩⟩
  · have q := List.all_eq_true.mp (List.all_eq_true.mp (am_mkO_ok jm_4 hm) (l - 16) (List.mem_range.mpr (by omega))) n (List.mem_range.mpr (by omega))
    have q := of_decide_eq_true q
    rw [show 16 + (l - 16) = l by omega] at q
    exact q
  · have q := of_decide_eq_true (List.all_eq_true.mp (List.all_eq_true.mp (am_mkO_ok jm_5 hm) s (List.mem_range.mpr h1)) a (List.mem_range.mpr h2))
    exact ⟨fun _ => False, by rw [q]; exact bs_0, id⟩
theorem j_rJ (hm : am_mk = some h) : rJ jS h.2 := by
  refine ⟨⟨jS_W, jf hm (by decide), jf hm (by decide), jf hm (by decide), jf hm (by decide), fun i hi => absurd hi (Nat.not_lt_zero i), fun k hk => ?_, jf hm (by decide), fun j hj => absurd hj (Nat.not_lt_zero j), fun k hk => ?_⟩, Or.inl (jf hm (by decide))⟩
  · exact of_decide_eq_true (List.all_eq_true.mp (am_mkO_ok jm_2 hm) k (List.mem_range.mpr hk))
  · rw [of_decide_eq_true (List.all_eq_true.mp (am_mkO_ok jm_3 hm) k (List.mem_range.mpr hk))]; decide
theorem j_start (hm : am_mk = some h) : J 0 h.2 := ⟨jS, ⟨j_xS hm, j_xK hm⟩, j_rJ hm⟩
end Se9
