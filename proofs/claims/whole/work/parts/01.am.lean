/-! the small machine: values, heap, one step -/
abbrev am_v : Type := Int ⊕ (Int ⊕ Nat)
abbrev am_g : Type := Nat × (Nat → Nat × Nat) × (Nat → Int → Nat)
abbrev am_h : Type := am_g × (Nat → Int → Int)
abbrev am_l : Type := List (Option am_v)
abbrev am_e : Type := Instr × Nat × Int × Nat × Nat × Nat × Nat × Nat × List (Int × Nat)
def w32 (x : Int) : Int := (x + 2147483648) % 4294967296 - 2147483648
def w64 (x : Int) : Int := (x + 9223372036854775808) % 18446744073709551616 - 9223372036854775808
def w8 (x : Int) : Int := (x + 128) % 256 - 128
def i_and (a b : Int) : Int := (Int32.ofInt a &&& Int32.ofInt b).toInt
def i_or (a b : Int) : Int := (Int32.ofInt a ||| Int32.ofInt b).toInt
def i_xor (a b : Int) : Int := (Int32.ofInt a ^^^ Int32.ofInt b).toInt
def i_shl (a b : Int) : Int := (Int32.ofInt a <<< (Int32.ofInt b &&& 31)).toInt
def i_shr (a b : Int) : Int := (Int32.ofInt a >>> (Int32.ofInt b &&& 31)).toInt
def i_ushr (a b : Int) : Int := (((Int32.ofInt a).toUInt32 >>> ((Int32.ofInt b).toUInt32 &&& Int32.toUInt32 31)).toInt32).toInt
def l_and (a b : Int) : Int := (Int64.ofInt a &&& Int64.ofInt b).toInt
def l_or (a b : Int) : Int := (Int64.ofInt a ||| Int64.ofInt b).toInt
def l_shl (a b : Int) : Int := (Int64.ofInt a <<< ((Int32.ofInt b).toInt64 &&& 63)).toInt
def l_ushr (a b : Int) : Int := (((Int64.ofInt a).toUInt64 >>> ((Int32.ofInt b).toInt64.toUInt64 &&& Int64.toUInt64 63)).toInt64).toInt
def l_cmp (a b : Int) : Int := if a < b then -1 else if a = b then 0 else 1
def i_max (a b : Int) : Int := if a < b then b else a
def i_min (a b : Int) : Int := if b < a then b else a
/-- a branch: only = and < are left -/
def am_br {α : Type} (c : ClassFile.Cond) (a b : Int) (t f : α) : α := match c with
  | .eq => if a = b then t else f
  | .ne => if a = b then f else t
  | .lt => if a < b then t else f
  | .ge => if a < b then f else t
  | .gt => if b < a then t else f
  | .le => if b < a then f else t
def am_sw {α : Type} (x : Int) (k : Nat → α) (d : Nat) : List (Int × Nat) → α
  | [] => k d
  | (a, t) :: l => if x = a then k t else am_sw x k d l
def am_ld : am_l → Nat → Option am_v
  | [], _ => none
  | a :: _, 0 => a
  | _ :: l, k + 1 => am_ld l k
/-- a store into the locals: what stood at the place goes, and a long that began one ahead -/
def am_sto (v : Option am_v) : am_l → Nat → am_l
  | [], _ => []
  | _ :: l, 0 => v :: l
  | a :: l, 1 => (match a with | some (.inr (.inl _)) => none | z => z) :: am_sto v l 0
  | a :: l, k + 2 => a :: am_sto v l (k + 1)
def am_i1 {α : Type} (bad : α) (st : List am_v) (f : Int → List am_v → α) : α := match st with
  | .inl a :: s => f a s
  | _ => bad
def am_l1 {α : Type} (bad : α) (st : List am_v) (f : Int → List am_v → α) : α := match st with
  | .inr (.inl a) :: s => f a s
  | _ => bad
def am_r1 {α : Type} (bad : α) (st : List am_v) (f : Nat → List am_v → α) : α := match st with
  | .inr (.inr a) :: s => f a s
  | _ => bad
/-- a reference to a cell of a kind -/
def am_ob {α : Type} (bad : α) (g : am_g) (r x : Nat) (f : Nat → α) : α := match r with
  | 0 => bad
  | k + 1 => bif Nat.blt k g.1 && Nat.beq (g.2.1 k).1 x then f k else bad
def am_up {β : Type} (M : Nat → Int → β) (k : Nat) (i : Int) (v : β) : Nat → Int → β := fun a => bif Nat.beq a k then (fun j => if j = i then v else M k j) else M a
def am_us {β : Type} (f : Nat → β) (k : Nat) (v : β) : Nat → β := fun a => bif Nat.beq a k then v else f a
def am_new (h : am_h) (s : Nat × Nat) : am_h := ((h.1.1 + 1, am_us h.1.2.1 h.1.1 s, am_us h.1.2.2 h.1.1 (fun _ => 0)), am_us h.2 h.1.1 (fun _ => 0))
def am_sp : Nat → List am_v → List am_v → Option (List am_v × List am_v)
  | 0, acc, st => some (acc, st)
  | _ + 1, _, [] => none
  | n + 1, acc, v :: st => am_sp n (v :: acc) st
def am_cat : am_v → Nat
  | .inr (.inl _) => 2
  | _ => 1
def am_wds (st : List am_v) : Nat := (st.map am_cat).sum
def am_push (rt : Nat) (r : Int) (st : List am_v) : List am_v := match rt with
  | 0 => st
  | 2 => .inr (.inl r) :: st
  | 3 => .inr (.inr r.toNat) :: st
  | _ => .inl r :: st
def am_isR (g : am_g) (ci : Nat) (args : List am_v) : Bool := match args with
  | .inr (.inr (k + 1)) :: _ => Nat.blt k g.1 && Nat.beq (g.2.1 k).1 ci
  | _ => false
def am_cpy (M : Nat → Int → Int) (a d : Nat) (sp dp n : Int) : Nat → Int → Int := fun k => bif Nat.beq k d then (fun j => if dp ≤ j ∧ j < dp + n then M a (sp + (j - dp)) else M d j) else M k
/-- one step: 'bad' where the machine isn't followed, 'ret' an end, 'go' the next place, 'call' a call -/
def am_step {α : Type} (bad : α) (ret : Int → am_h → α) (go : Nat → am_l → List am_v → am_h → Nat → Nat → α) (call : Nat → List am_v → am_h → (Int → am_h → α) → α) (rt : Nat) (o : Option am_e) (ls : am_l) (st : List am_v) (h : am_h) (cb sb : Nat) : α :=
  match o with
  | none => bad
  | some (ins, nx, v, x1, x2, x3, x4, x5, ts) =>
    match ins with
    | .iload _ | .iload_n _ => (match am_ld ls x1 with | some (.inl x) => go nx ls (.inl x :: st) h cb sb | _ => bad)
    | .lload _ | .lload_n _ => (match am_ld ls x1 with | some (.inr (.inl x)) => go nx ls (.inr (.inl x) :: st) h cb sb | _ => bad)
    | .aload _ | .aload_n _ => (match am_ld ls x1 with | some (.inr (.inr (x + 1))) => go nx ls (.inr (.inr (x + 1)) :: st) h cb sb | _ => bad)
    | .istore _ | .istore_n _ => am_i1 bad st fun x s => go nx (am_sto (some (.inl x)) ls x1) s h cb sb
    | .lstore _ | .lstore_n _ => am_l1 bad st fun x s => go nx (am_sto (some (.inr (.inl x))) (am_sto none ls (x1 + 1)) x1) s h cb sb
    | .astore _ | .astore_n _ => am_r1 bad st fun x s => (match x with | 0 => bad | y + 1 => go nx (am_sto (some (.inr (.inr (y + 1)))) ls x1) s h cb sb)
    | .iinc _ c => (match am_ld ls x1 with | some (.inl x) => go nx (am_sto (some (.inl (w32 (x + c)))) ls x1) st h cb sb | _ => bad)
    | .iconst _ | .bipush _ | .sipush _ | .ldc _ | .ldc_w _ => go nx ls (.inl v :: st) h cb sb
    | .lconst _ | .ldc2_w _ => go nx ls (.inr (.inl v) :: st) h cb sb
    | .iadd => am_i1 bad st fun b s => am_i1 bad s fun a s => go nx ls (.inl (w32 (a + b)) :: s) h cb sb
    | .isub => am_i1 bad st fun b s => am_i1 bad s fun a s => go nx ls (.inl (w32 (a - b)) :: s) h cb sb
    | .imul => am_i1 bad st fun b s => am_i1 bad s fun a s => go nx ls (.inl (w32 (a * b)) :: s) h cb sb
    | .idiv => am_i1 bad st fun b s => am_i1 bad s fun a s => if b = 0 then bad else go nx ls (.inl (w32 (Int.tdiv a b)) :: s) h cb sb
    | .irem => am_i1 bad st fun b s => am_i1 bad s fun a s => if b = 0 then bad else go nx ls (.inl (w32 (Int.tmod a b)) :: s) h cb sb
    | .iand => am_i1 bad st fun b s => am_i1 bad s fun a s => go nx ls (.inl (i_and a b) :: s) h cb sb
    | .ior => am_i1 bad st fun b s => am_i1 bad s fun a s => go nx ls (.inl (i_or a b) :: s) h cb sb
    | .ixor => am_i1 bad st fun b s => am_i1 bad s fun a s => go nx ls (.inl (i_xor a b) :: s) h cb sb
    | .ishl => am_i1 bad st fun b s => am_i1 bad s fun a s => go nx ls (.inl (i_shl a b) :: s) h cb sb
    | .ishr => am_i1 bad st fun b s => am_i1 bad s fun a s => go nx ls (.inl (i_shr a b) :: s) h cb sb
    | .iushr => am_i1 bad st fun b s => am_i1 bad s fun a s => go nx ls (.inl (i_ushr a b) :: s) h cb sb
    | .ladd => am_l1 bad st fun b s => am_l1 bad s fun a s => go nx ls (.inr (.inl (w64 (a + b))) :: s) h cb sb
    | .lsub => am_l1 bad st fun b s => am_l1 bad s fun a s => go nx ls (.inr (.inl (w64 (a - b))) :: s) h cb sb
    | .lmul => am_l1 bad st fun b s => am_l1 bad s fun a s => go nx ls (.inr (.inl (w64 (a * b))) :: s) h cb sb
    | .ldiv => am_l1 bad st fun b s => am_l1 bad s fun a s => if b = 0 then bad else go nx ls (.inr (.inl (w64 (Int.tdiv a b))) :: s) h cb sb
    | .lrem => am_l1 bad st fun b s => am_l1 bad s fun a s => if b = 0 then bad else go nx ls (.inr (.inl (w64 (Int.tmod a b))) :: s) h cb sb
    | .land => am_l1 bad st fun b s => am_l1 bad s fun a s => go nx ls (.inr (.inl (l_and a b)) :: s) h cb sb
    | .lor => am_l1 bad st fun b s => am_l1 bad s fun a s => go nx ls (.inr (.inl (l_or a b)) :: s) h cb sb
    | .lshl => am_i1 bad st fun b s => am_l1 bad s fun a s => go nx ls (.inr (.inl (l_shl a b)) :: s) h cb sb
    | .lushr => am_i1 bad st fun b s => am_l1 bad s fun a s => go nx ls (.inr (.inl (l_ushr a b)) :: s) h cb sb
    | .lcmp => am_l1 bad st fun b s => am_l1 bad s fun a s => go nx ls (.inl (l_cmp a b) :: s) h cb sb
    | .i2l => am_i1 bad st fun a s => go nx ls (.inr (.inl a) :: s) h cb sb
    | .l2i => am_l1 bad st fun a s => go nx ls (.inl (w32 a) :: s) h cb sb
    | .i2b => am_i1 bad st fun a s => go nx ls (.inl (w8 a) :: s) h cb sb
    | .dup => (match st with | .inl a :: s => go nx ls (.inl a :: .inl a :: s) h cb sb | .inr (.inr a) :: s => go nx ls (.inr (.inr a) :: .inr (.inr a) :: s) h cb sb | _ => bad)
    | .dup2 => (match st with | .inl a :: .inr (.inr b) :: s => go nx ls (.inl a :: .inr (.inr b) :: .inl a :: .inr (.inr b) :: s) h cb sb | _ => bad)
    | .getfield _ => am_r1 bad st fun r s => am_ob bad h.1 r (x1 + 5) fun k => (match x3 with
      | 1 => go nx ls (.inr (.inl (h.2 k (x2 : Int))) :: s) h cb sb
      | 2 => go nx ls (.inr (.inr (h.1.2.2 k (x2 : Int))) :: s) h cb sb
      | _ => go nx ls (.inl (h.2 k (x2 : Int)) :: s) h cb sb)
    | .putfield _ => (match x3 with
      | 0 => am_i1 bad st fun a s => am_r1 bad s fun r s => am_ob bad h.1 r (x1 + 5) fun k => go nx ls s (h.1, am_up h.2 k (x2 : Int) a) cb sb
      | 1 => am_l1 bad st fun a s => am_r1 bad s fun r s => am_ob bad h.1 r (x1 + 5) fun k => go nx ls s (h.1, am_up h.2 k (x2 : Int) a) cb sb
      | 2 => am_r1 bad st fun a s => am_r1 bad s fun r s => am_ob bad h.1 r (x1 + 5) fun k => bif Nat.ble a h.1.1 then go nx ls s ((h.1.1, h.1.2.1, am_up h.1.2.2 k (x2 : Int) a), h.2) cb sb else bad
      | _ => am_i1 bad st fun a s => am_r1 bad s fun r s => am_ob bad h.1 r (x1 + 5) fun k => if a = 0 ∨ a = 1 then go nx ls s (h.1, am_up h.2 k (x2 : Int) a) cb sb else bad)
    | .iaload => am_i1 bad st fun i s => am_r1 bad s fun r s => am_ob bad h.1 r 0 fun k => if 0 ≤ i ∧ i < ((h.1.2.1 k).2 : Int) then go nx ls (.inl (h.2 k i) :: s) h cb sb else bad
    | .laload => am_i1 bad st fun i s => am_r1 bad s fun r s => am_ob bad h.1 r 1 fun k => if 0 ≤ i ∧ i < ((h.1.2.1 k).2 : Int) then go nx ls (.inr (.inl (h.2 k i)) :: s) h cb sb else bad
    | .baload => am_i1 bad st fun i s => am_r1 bad s fun r s => am_ob bad h.1 r 2 fun k => if 0 ≤ i ∧ i < ((h.1.2.1 k).2 : Int) then go nx ls (.inl (h.2 k i) :: s) h cb sb else bad
    | .aaload => am_i1 bad st fun i s => am_r1 bad s fun r s => am_ob bad h.1 r x1 fun k => if 0 ≤ i ∧ i < ((h.1.2.1 k).2 : Int) then go nx ls (.inr (.inr (h.1.2.2 k i)) :: s) h cb sb else bad
    | .iastore => am_i1 bad st fun a s => am_i1 bad s fun i s => am_r1 bad s fun r s => am_ob bad h.1 r 0 fun k => if 0 ≤ i ∧ i < ((h.1.2.1 k).2 : Int) then go nx ls s (h.1, am_up h.2 k i a) cb sb else bad
    | .lastore => am_l1 bad st fun a s => am_i1 bad s fun i s => am_r1 bad s fun r s => am_ob bad h.1 r 1 fun k => if 0 ≤ i ∧ i < ((h.1.2.1 k).2 : Int) then go nx ls s (h.1, am_up h.2 k i a) cb sb else bad
    | .bastore => am_i1 bad st fun a s => am_i1 bad s fun i s => am_r1 bad s fun r s => am_ob bad h.1 r 2 fun k => if 0 ≤ i ∧ i < ((h.1.2.1 k).2 : Int) then go nx ls s (h.1, am_up h.2 k i (w8 a)) cb sb else bad
    | .aastore => am_r1 bad st fun a s => am_i1 bad s fun i s => am_r1 bad s fun r s => am_ob bad h.1 r x1 fun k => am_ob bad h.1 a (x2 + 5) fun k2 => if 0 ≤ i ∧ i < ((h.1.2.1 k).2 : Int) then go nx ls s ((h.1.1, h.1.2.1, am_up h.1.2.2 k i (k2 + 1)), h.2) cb sb else bad
    | .arraylength => am_r1 bad st fun r s => am_ob bad h.1 r x1 fun k => bif Nat.blt x1 5 && Nat.blt (h.1.2.1 k).2 2147483648 then go nx ls (.inl ((h.1.2.1 k).2 : Int) :: s) h cb sb else bad
    | .goto _ => go x1 ls st h cb sb
    | .ifCond c _ => am_i1 bad st fun a s => am_br c a 0 (go x1 ls s h cb sb) (go nx ls s h cb sb)
    | .if_icmp c _ => am_i1 bad st fun b s => am_i1 bad s fun a s => am_br c a b (go x1 ls s h cb sb) (go nx ls s h cb sb)
    | .tableswitch _ _ _ _ | .lookupswitch _ _ => am_i1 bad st fun a s => am_sw a (fun t => go t ls s h cb sb) x1 ts
    | .ireturn => (match rt with
      | 1 => am_i1 bad st fun a s => bif s.isEmpty then ret a h else bad
      | 4 => am_i1 bad st fun a s => bif s.isEmpty then (if a = 0 ∨ a = 1 then ret a h else bad) else bad
      | _ => bad)
    | .lreturn => (match rt with | 2 => am_l1 bad st fun a s => bif s.isEmpty then ret a h else bad | _ => bad)
    | .areturn => (match rt with | 3 => am_r1 bad st fun a s => bif s.isEmpty then (match a with | 0 => bad | b + 1 => ret ((b + 1 : Nat) : Int) h) else bad | _ => bad)
    | .return_ => (match rt with | 0 => bif st.isEmpty then ret 0 h else bad | _ => bad)
    | .new _ => bif Nat.ble 1 cb && Nat.ble x2 sb then go nx ls (.inr (.inr (h.1.1 + 1)) :: st) (am_new h (x1 + 5, 0)) (cb - 1) (sb - x2) else bad
    | .newarray _ | .anewarray _ => am_i1 bad st fun n s => if 0 ≤ n ∧ n ≤ 65536 then (bif Nat.ble 1 cb && Nat.ble n.toNat sb then go nx ls (.inr (.inr (h.1.1 + 1)) :: s) (am_new h (x1, n.toNat)) (cb - 1) (sb - n.toNat) else bad) else bad
    | .invokevirtual _ => (match am_sp x2 [] st with
      | some (as, s) => bif am_isR h.1 (v.toNat + 5) as && Nat.ble (am_wds s) 8 && Nat.ble x4 cb && Nat.ble x5 sb then call x1 as h (fun r h' => go nx ls (am_push x3 r s) h' (cb - x4) (sb - x5)) else bad
      | none => bad)
    | .invokespecial _ => (match v with
      | 2 => am_r1 bad st fun r s => bif Nat.ble (am_wds s) 8 && Nat.ble 1 r then go nx ls s h cb sb else bad
      | _ => (match am_sp x2 [] st with
        | some (as, s) => bif am_isR h.1 (v.toNat + 2) as && Nat.ble (am_wds s) 8 && Nat.ble x4 cb && Nat.ble x5 sb then call x1 as h (fun r h' => go nx ls (am_push x3 r s) h' (cb - x4) (sb - x5)) else bad
        | none => bad))
    | .invokestatic _ => (match v with
      | 1 => am_i1 bad st fun n s => am_i1 bad s fun dp s => am_r1 bad s fun d s => am_i1 bad s fun sp s => am_r1 bad s fun a s => am_ob bad h.1 d 0 fun kd => am_ob bad h.1 a 0 fun ka =>
          bif Nat.ble (am_wds s) 8 then (if 0 ≤ n ∧ 0 ≤ sp ∧ 0 ≤ dp ∧ sp + n ≤ ((h.1.2.1 ka).2 : Int) ∧ dp + n ≤ ((h.1.2.1 kd).2 : Int) then go nx ls s (h.1, am_cpy h.2 ka kd sp dp n) cb sb else bad) else bad
      | 3 => am_i1 bad st fun b s => am_i1 bad s fun a s => bif Nat.ble (am_wds s) 8 then go nx ls (.inl (i_max a b) :: s) h cb sb else bad
      | 4 => am_i1 bad st fun b s => am_i1 bad s fun a s => bif Nat.ble (am_wds s) 8 then go nx ls (.inl (i_min a b) :: s) h cb sb else bad
      | 5 => am_l1 bad st fun b s => am_l1 bad s fun a s => bif Nat.ble (am_wds s) 8 then go nx ls (.inr (.inl (i_min a b)) :: s) h cb sb else bad
      | _ => (match am_sp x2 [] st with
        | some (as, s) => bif Nat.ble (am_wds s) 8 && Nat.ble x4 cb && Nat.ble x5 sb then call x1 as h (fun r h' => go nx ls (am_push x3 r s) h' (cb - x4) (sb - x5)) else bad
        | none => bad))
    | _ => bad
def am_at : List (Nat × am_e) → Nat → Option am_e
  | [], _ => none
  | (p, e) :: l, pc => bif Nat.beq p pc then some e else am_at l pc
abbrev am_m : Type := List (Nat × am_e) × Nat × Nat × Nat × Nat
def am_loc (args : List am_v) (mL : Nat) : am_l := match args with
  | [] => List.replicate mL none
  | .inr (.inl x) :: l => some (.inr (.inl x)) :: none :: am_loc l (mL - 2)
  | v :: l => some v :: am_loc l (mL - 1)
def am_ex (cal : Nat → List am_v → am_h → Option (Int × am_h)) (cd : List (Nat × am_e)) (rt : Nat) : Nat → Nat → am_l → List am_v → am_h → Nat → Nat → Option (Int × am_h)
  | 0, _, _, _, _, _, _ => none
  | n + 1, pc, ls, st, h, cb, sb => am_step none (fun r h => some (r, h)) (am_ex cal cd rt n) (fun z as h k => match cal z as h with | some (r, h') => k r h' | none => none) rt (am_at cd pc) ls st h cb sb
def am_call (P : Nat → Option am_m) : Nat → Nat → Nat → List am_v → am_h → Option (Int × am_h)
  | 0, _, _, _, _ => none
  | d + 1, F, y, args, h => match P y with
    | none => none
    | some (cd, mL, rt, mc, ms) => bif Nat.ble (am_wds args) mL then am_ex (am_call P d F) cd rt F 0 (am_loc args mL) [] h mc ms else none
