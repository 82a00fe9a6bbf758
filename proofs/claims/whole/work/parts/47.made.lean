/-! both objects, made -/
def am_bd (k : Nat) : Nat := match k with
  | 0 | 1 | 2 => 0
  | 3 | 4 => 8
  | c + 5 => (am_ft c).length
def am_mk : Option am_h := match am_call am_P 1600 3000 166 [.inr (.inr 1)] (am_new am_h0 (16, 0)) with
  | some (_, h1) => bif Nat.beq h1.1.1 173 then (match am_call am_P 1600 3000 222 [.inr (.inr 174)] (am_new h1 (17, 0)) with | some (_, h2) => some h2 | none => none) else none
  | none => none
def am_mkB (h : am_h) (k : Nat) : Bool := Nat.beq (h.1.2.1 k).1 (am_shF k).1 && Nat.beq (h.1.2.1 k).2 (am_shF k).2 && (!(Nat.beq (am_shF k).1 3 || Nat.beq (am_shF k).1 4) || Nat.ble (am_shF k).2 (am_bd (am_shF k).1)) && (List.range (am_bd (am_shF k).1)).all (fun i => Nat.beq (h.1.2.2 k (i : Int)) (am_rfF k (i : Int)))
def am_mkO (f : am_h → Bool) : Bool := match am_mk with | some h => f h | none => false
theorem am_mk_n : am_mkO (fun h => Nat.beq h.1.1 199) = true := by decide +kernel
theorem am_mk_0 : am_mkO (fun h => (List.range 40).all (fun k => am_mkB h (0 + k))) = true := by decide +kernel
theorem am_mk_40 : am_mkO (fun h => (List.range 40).all (fun k => am_mkB h (40 + k))) = true := by decide +kernel
theorem am_mk_80 : am_mkO (fun h => (List.range 40).all (fun k => am_mkB h (80 + k))) = true := by decide +kernel
theorem am_mk_120 : am_mkO (fun h => (List.range 40).all (fun k => am_mkB h (120 + k))) = true := by decide +kernel
theorem am_mk_160 : am_mkO (fun h => (List.range 39).all (fun k => am_mkB h (160 + k))) = true := by decide +kernel
